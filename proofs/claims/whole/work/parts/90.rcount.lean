-- ===== the reference counts =====
section RCOUNT
variable {n : Nat} {st : Nat → Nat} {S : SH} {μ : MU} {x b m c l : Nat} {D : DR} {N tot : Nat} {L M G : Nat → Nat} {T : Nat → Int32} {Nt : Nat}
theorem r_rank67 (hS : ShM S m) (hI : Inv D) (hL : ∀ i, i < nD D 2 → L i < 2 ^ 30) (f : Int32) : ∀ k j fu s (μ : MU), μ (m + 1) = D → (∀ i, i < nD D 2 → μ (m + 10) i = nI (L i)) → μ m 23 = f → μ m 24 = nI s → s < 2 ^ 30 → j + k = nD D 2 → k < fu → ∃ μ', b_X12_rank_67 fu (some m) (nI j) (mkH n st S μ) = some (mkH n st S μ') ∧ μ' m 24 = nI (itS (seF L f) k j s) ∧ ∀ a i, ¬ (a = m ∧ i = 24) → μ' a i = μ a i := by
  obtain ⟨e0, b0⟩ := hI.today
  obtain ⟨e1, b1⟩ := hI.wards
  obtain ⟨e2, b2⟩ := hI.men
  obtain ⟨e3, b3⟩ := hI.words
  obtain ⟨e4, b4⟩ := hI.bars
  obtain ⟨e5, b5⟩ := hI.shes
  obtain ⟨e6, b6⟩ := hI.wets
  obtain ⟨e8, b8⟩ := hI.heaped
  intro k
  induction k with
  | zero =>
    intro j fu s μ hD hR h3 h4 hs hj hf
    obtain ⟨fu, rfl⟩ : ∃ q, fu = q + 1 := ⟨fu - 1, by omega⟩
    obtain rfl : j = nD D 2 := by omega
    refine ⟨μ, ?_, h4, fun _ _ _ => rfl⟩
    simp (disch := omega) only [b_X12_rank_67, mR0 hS, some_bind, lit_aI, mA0 hS, hD, e2, nn_lt, natF, if_false]
  | succ k ih =>
    intro j fu s μ hD hR h3 h4 hs hj hf
    obtain ⟨fu, rfl⟩ : ∃ q, fu = q + 1 := ⟨fu - 1, by omega⟩
    have l1 := hL j (by omega)
    have r1 := hR j (by omega)
    have hb : seF L f j s < 2 ^ 30 := by
      unfold seF
      split
      · exact hs
      · split
        · exact l1
        · exact hs
    obtain ⟨μ', q1, q2, q3⟩ := ih (j + 1) fu (seF L f j s) (up2 μ m 24 (nI (seF L f j s))) (by funext q; rw [up2_ne (by omega), hD]) (fun i hi => by rw [up2_ne (by omega)]; exact hR i hi) (by rw [up2_ne (by omega)]; exact h3) up2_same hb (by omega) (by omega)
    refine ⟨μ', ?_, q2, fun a i h => by rw [q3 a i h, up2_ne h]⟩
    rw [← q1]
    have h2 : D 2 = nI (nD D 2) := e2
    unfold seF
    by_cases h0 : nI j = f
    · rw [if_pos h0]
      simp (disch := omega) only [b_X12_rank_67, b_X12_rank_112, mR0 hS, some_bind, lit_aI, mA0 hS, hD, mI23 hS, h3, mI24 hS, h4, mP24 hS, nI_1]
      rw [h2]
      simp (disch := omega) only [nn_lt, natT, if_true]
      rw [if_pos h0]
    · rw [if_neg h0]
      simp (disch := omega) only [b_X12_rank_67, b_X12_rank_112, mR0 hS, some_bind, lit_aI, mA0 hS, hD, mI23 hS, h3, h0, if_false, mR19 hS, mA19 hS, r1, mI24 hS, h4, mP24 hS, nI_1, nn_lt]
      rw [h2]
      simp (disch := omega) only [nn_lt, natT, if_true]
      by_cases h5 : s < L j
      · simp only [h5, if_true]
      · simp only [h5, if_false]
theorem r_rank12 (hS : ShM S m) (hI : Inv D) (hL : ∀ i, i < nD D 2 → L i < 2 ^ 30) : ∀ k j fu f (μ : MU), μ (m + 1) = D → (∀ i, i < nD D 2 → μ (m + 10) i = nI (L i)) → μ m 23 = f → isO f j → j + k = nD D 2 → k < fu → ∃ μ', b_X12_rank_12 fu (some m) (nI j) (mkH n st S μ) = b_X12_rank_67 FU (some m) 0 (mkH n st S μ') ∧ μ' m 23 = itS (fiF L) k j f ∧ ∀ a i, ¬ (a = m ∧ i = 23) → μ' a i = μ a i := by
  obtain ⟨e0, b0⟩ := hI.today
  obtain ⟨e1, b1⟩ := hI.wards
  obtain ⟨e2, b2⟩ := hI.men
  obtain ⟨e3, b3⟩ := hI.words
  obtain ⟨e4, b4⟩ := hI.bars
  obtain ⟨e5, b5⟩ := hI.shes
  obtain ⟨e6, b6⟩ := hI.wets
  obtain ⟨e8, b8⟩ := hI.heaped
  intro k
  induction k with
  | zero =>
    intro j fu f μ hD hR h3 hf0 hj hf
    obtain ⟨fu, rfl⟩ : ∃ q, fu = q + 1 := ⟨fu - 1, by omega⟩
    obtain rfl : j = nD D 2 := by omega
    refine ⟨μ, ?_, h3, fun _ _ _ => rfl⟩
    simp (disch := omega) only [b_X12_rank_12, mR0 hS, some_bind, lit_aI, mA0 hS, hD, e2, nn_lt, natF, if_false]
  | succ k ih =>
    intro j fu f μ hD hR h3 hf0 hj hf
    obtain ⟨fu, rfl⟩ : ∃ q, fu = q + 1 := ⟨fu - 1, by omega⟩
    have l1 := hL j (by omega)
    have r1 := hR j (by omega)
    obtain ⟨μ', q1, q2, q3⟩ := ih (j + 1) fu (fiF L j f) (up2 μ m 23 (fiF L j f)) (by funext q; rw [up2_ne (by omega), hD]) (fun i hi => by rw [up2_ne (by omega)]; exact hR i hi) up2_same (fiF_rng L 1 j f hf0) (by omega) (by omega)
    refine ⟨μ', ?_, q2, fun a i h => by rw [q3 a i h, up2_ne h]⟩
    rw [← q1]
    have h2 : D 2 = nI (nD D 2) := e2
    unfold fiF
    by_cases h0 : f < 0
    · rw [if_pos h0]
      simp (disch := omega) only [b_X12_rank_12, b_X12_rank_56, mR0 hS, some_bind, lit_aI, mA0 hS, hD, mI23 hS, h3, h0, if_true, mP23 hS, nI_1]
      rw [h2]
      simp (disch := omega) only [nn_lt, natT, if_true]
    · rw [if_neg h0]
      rcases hf0 with h | ⟨q, qj, rfl⟩
      · rw [h] at h0; exact absurd (by decide) h0
      · have r2 := hR q (by omega)
        have l2 := hL q (by omega)
        simp (disch := omega) only [b_X12_rank_12, b_X12_rank_56, mR0 hS, some_bind, lit_aI, mA0 hS, hD, mI23 hS, h3, h0, if_false, mR19 hS, mA19 hS, r1, r2, mP23 hS, nI_1, nn_lt, nI_clamp]
        rw [h2]
        simp (disch := omega) only [nn_lt, natT, if_true]
        by_cases h5 : L q < L j
        · simp only [h5, if_true]
        · simp only [h5, if_false]
theorem r_rank (hS : ShM S m) (hI : Inv D) (hD : μ (m + 1) = D) (hL : ∀ i, i < nD D 2 → L i < 2 ^ 30) (hR : ∀ i, i < nD D 2 → μ (m + 10) i = nI (L i)) : ∃ μ', f_X12_rank (some m) (mkH n st S μ) = some (mkH n st S μ') ∧ μ' m 23 = fiS L (nD D 2) ∧ μ' m 24 = nI (seS L (nD D 2) (fiS L (nD D 2))) ∧ ∀ a i, ¬ (a = m ∧ (i = 23 ∨ i = 24)) → μ' a i = μ a i := by
  have b2 := hI.men.2
  obtain ⟨fu, hfu, hfl⟩ : ∃ q, FU = q ∧ 301 < q := ⟨FU, rfl, by decide⟩
  obtain ⟨μ0, h0⟩ : ∃ q, q = up2 (up2 μ m 23 (-1)) m 24 0 := ⟨_, rfl⟩
  have hf0 : ∀ a i, ¬ (a = m ∧ (i = 23 ∨ i = 24)) → μ0 a i = μ a i := fun a i h => by rw [h0, up2_ne (by omega), up2_ne (by omega)]
  obtain ⟨μ1, q1, q2, q3⟩ := r_rank12 (n := n) (st := st) hS hI hL (nD D 2) 0 fu (-1) μ0 (by funext q; rw [hf0 _ _ (by omega), hD]) (fun i hi => by rw [hf0 _ _ (by omega)]; exact hR i hi) (by rw [h0, up2_ne (by omega), up2_same]) (Or.inl rfl) (by omega) (by omega)
  obtain ⟨μ2, w1, w2, w3⟩ := r_rank67 (n := n) (st := st) hS hI hL (fiS L (nD D 2)) (nD D 2) 0 fu 0 μ1 (by funext q; rw [q3 _ _ (by omega), hf0 _ _ (by omega), hD]) (fun i hi => by rw [q3 _ _ (by omega), hf0 _ _ (by omega)]; exact hR i hi) q2 (by rw [q3 _ _ (by omega), h0, up2_same]; rfl) (by omega) (by omega) (by omega)
  refine ⟨μ2, ?_, by rw [w3 _ _ (by omega)]; exact q2, w2, fun a i h => by rw [w3 a i (by omega), q3 a i (by omega), hf0 a i h]⟩
  rw [hfu] at q1
  refine Eq.trans ?_ (Eq.trans q1 w1)
  rw [h0, ← hfu]
  simp only [f_X12_rank, mP23 hS, mP24 hS, some_bind]
  rfl
theorem r_leastOfFirst (hS : ShM S m) (hN : N ≤ 16) (hR : ∀ i, i < N → μ (m + 10) i = nI (L i)) {f : Int32} (h3 : μ m 23 = f) (hf : isO f N) : f_X12_leastOfFirst (some m) (mkH n st S μ) = some (nI (leN L f)) := by
  unfold leN
  rcases hf with rfl | ⟨q, q1, rfl⟩
  · have : (-1 : Int32) < 0 := by decide
    simp only [f_X12_leastOfFirst, mI23 hS, some_bind, h3, this, if_true]
    rfl
  · have h0 : ¬ nI q < (0 : Int32) := nI_pos (by omega)
    simp (disch := omega) only [f_X12_leastOfFirst, mI23 hS, some_bind, h3, h0, if_false, mR19 hS, mA19 hS, hR, nI_clamp]
theorem nI_bI (a : Nat) (q : Bool) : nI a + bI q = nI (a + if q then 1 else 0) := by
  cases q
  · exact nI_add a 0
  · exact nI_add a 1
/-- one sherd is counted, man by man -/
theorem r_ct149 (hS : ShM S m) (hI : Inv D) (k35 : Option Nat → Int32 → Int32 → AH → Option AH) {me : Nat} (hme : me < 2 ^ 16) (sur : Bool) (x1 x2 : Int32) : ∀ k j fu (μ : MU) (L M : Nat → Nat), μ (m + 1) = D → (∀ i, i < nD D 2 → μ (m + 10) i = nI (L i) ∧ μ (m + 11) i = nI (M i)) → j + k = nD D 2 → k < fu → ∃ μ', b_X12_countAt_149 k35 fu (some m) x1 x2 (nI me) (bI sur) (nI j) (mkH n st S μ) = k35 (some m) x1 (x2 + 1) (mkH n st S μ') ∧ (∀ i, i < nD D 2 → μ' (m + 10) i = nI (if j ≤ i ∧ (sur && me.testBit i) = true then L i + 1 else L i) ∧ μ' (m + 11) i = nI (if j ≤ i ∧ me.testBit i = true then M i + 1 else M i)) ∧ ∀ a i, ¬ a = m + 10 → ¬ a = m + 11 → μ' a i = μ a i := by
  obtain ⟨e0, b0⟩ := hI.today
  obtain ⟨e1, b1⟩ := hI.wards
  obtain ⟨e2, b2⟩ := hI.men
  obtain ⟨e3, b3⟩ := hI.words
  obtain ⟨e4, b4⟩ := hI.bars
  obtain ⟨e5, b5⟩ := hI.shes
  obtain ⟨e6, b6⟩ := hI.wets
  obtain ⟨e8, b8⟩ := hI.heaped
  intro k
  induction k with
  | zero =>
    intro j fu μ L M hD hR hj hf
    obtain ⟨fu, rfl⟩ : ∃ q, fu = q + 1 := ⟨fu - 1, by omega⟩
    obtain rfl : j = nD D 2 := by omega
    refine ⟨μ, ?_, fun i hi => ?_, fun _ _ _ _ => rfl⟩
    · simp (disch := omega) only [b_X12_countAt_149, mR0 hS, some_bind, lit_aI, mA0 hS, hD, e2, nn_lt, natF, if_false]
    · rw [if_neg (fun h => by omega), if_neg (fun h => by omega)]; exact hR i hi
  | succ k ih =>
    intro j fu μ L M hD hR hj hf
    obtain ⟨fu, rfl⟩ : ∃ q, fu = q + 1 := ⟨fu - 1, by omega⟩
    obtain ⟨pl, pm⟩ := hR j (by omega)
    have ht := tstN (a := me) (k := j) (by omega) (by omega)
    obtain ⟨q, hq⟩ : ∃ q, q = me.testBit j := ⟨_, rfl⟩
    rw [← hq] at ht
    obtain ⟨μ1, hμ1⟩ : ∃ z, z = up2 (up2 μ (m + 11) j (nI (M j + if q then 1 else 0))) (m + 10) j (nI (L j + if sur && q then 1 else 0)) := ⟨_, rfl⟩
    obtain ⟨μ', r1, r2, r3⟩ := ih (j + 1) fu μ1 (fun i => if i = j then L j + (if sur && q then 1 else 0) else L i) (fun i => if i = j then M j + (if q then 1 else 0) else M i) (by funext z; rw [hμ1, up2_ne (by omega), up2_ne (by omega), hD]) (by
      intro i hi
      obtain ⟨a1, a2⟩ := hR i hi
      rw [hμ1]
      by_cases hij : i = j
      · subst hij
        simp (disch := omega) only [up2_ne, up2_same, if_true, and_self]
      · simp (disch := omega) only [up2_ne, hij, if_false, a1, a2, and_self]) (by omega) (by omega)
    refine ⟨μ', ?_, ?_, fun a i h1 h2 => by rw [r3 a i h1 h2, hμ1, up2_ne (by omega), up2_ne (by omega)]⟩
    · rw [← r1, hμ1]
      have pl' : ∀ v, up2 μ (m + 11) j v (m + 10) j = nI (L j) := fun v => by rw [up2_ne (by omega)]; exact pl
      have h2 : D 2 = nI (nD D 2) := e2
      have z0 : nI (L j) + 0 = nI (L j) := nI_add _ 0
      cases sur
      · simp (disch := omega) only [b_X12_countAt_149, b_X12_countAt_199, mR0 hS, some_bind, lit_aI, mA0 hS, hD, mR20 hS, mA20 hS, pm, ht, nI_bI, mS20 hS, mR19 hS, mA19 hS, pl', bI_if0, Bool.false_eq_true, if_false, z0, mS19 hS, nI_1, Bool.false_and, Nat.add_zero]
        rw [h2]
        simp (disch := omega) only [nn_lt, natT, if_true]
      · have b1 : ¬ bI true = 0 := by decide
        simp (disch := omega) only [b_X12_countAt_149, b_X12_countAt_199, mR0 hS, some_bind, lit_aI, mA0 hS, hD, mR20 hS, mA20 hS, pm, ht, nI_bI, mS20 hS, mR19 hS, mA19 hS, pl', b1, if_false, mS19 hS, nI_1, Bool.true_and]
        rw [h2]
        simp (disch := omega) only [nn_lt, natT, if_true]
    · intro i hi
      obtain ⟨a1, a2⟩ := r2 i hi
      rw [a1, a2]
      by_cases hij : i = j
      · subst hij
        rw [← hq]
        have n1 : ∀ P : Prop, ¬ (i + 1 ≤ i ∧ P) := fun P h => by omega
        refine ⟨?_, ?_⟩
        · rw [if_neg (n1 _)]
          simp only [if_true, Nat.le_refl, true_and]
          split <;> rfl
        · rw [if_neg (n1 _)]
          simp only [if_true, Nat.le_refl, true_and]
          split <;> rfl
      · have : (j + 1 ≤ i) = (j ≤ i) := propext ⟨fun h => by omega, fun h => by omega⟩
        simp only [this, hij, if_false, and_self]
end RCOUNT
