-- ===== the class's day =====
def orA (p : Nat → Bool) (f : Nat → Nat) : Nat → Nat → Nat → Nat
  | 0, _, s => s
  | k + 1, j, s => orA p f k (j + 1) (if p j then s ||| f j else s)
theorem orA_test (p : Nat → Bool) (f : Nat → Nat) (w : Nat) : ∀ k j s, (orA p f k j s).testBit w = (s.testBit w || anyS (fun i => p i && (f i).testBit w) k j) := by
  intro k
  induction k with
  | zero => intro j s; simp [orA, anyS]
  | succ k ih =>
    intro j s
    rw [orA, ih, anyS]
    cases hp : p j
    · simp
    · simp [Nat.testBit_or, Bool.or_assoc]
theorem orA_lt (p : Nat → Bool) (f : Nat → Nat) (B : Nat) : ∀ k j s, s < 2 ^ B → (∀ i, j ≤ i → i < j + k → f i < 2 ^ B) → orA p f k j s < 2 ^ B := by
  intro k
  induction k with
  | zero => intro j s h _; exact h
  | succ k ih =>
    intro j s h hf
    rw [orA]
    refine ih (j + 1) _ ?_ (fun i h1 h2 => hf i (by omega) (by omega))
    split
    · exact Nat.or_lt_two_pow h (hf j (by omega) (by omega))
    · exact h
theorem anyS_iff (p : Nat → Bool) : ∀ k j, anyS p k j = true ↔ ∃ i, j ≤ i ∧ i < j + k ∧ p i = true := by
  intro k
  induction k with
  | zero => intro j; simp [anyS]; intro i h1 h2; omega
  | succ k ih =>
    intro j
    simp only [anyS, Bool.or_eq_true, ih]
    constructor
    · rintro (h | ⟨i, h1, h2, h3⟩)
      · exact ⟨j, by omega, by omega, h⟩
      · exact ⟨i, by omega, by omega, h3⟩
    · rintro ⟨i, h1, h2, h3⟩
      by_cases hi : i = j
      · subst hi; exact Or.inl h3
      · exact Or.inr ⟨i, by omega, by omega, h3⟩
theorem anyS_or (p q : Nat → Bool) (k j : Nat) : anyS (fun i => p i || q i) k j = (anyS p k j || anyS q k j) := by
  induction k generalizing j with
  | zero => rfl
  | succ k ih => simp only [anyS, ih]; cases p j <;> cases q j <;> simp
theorem anyS_congr {p q : Nat → Bool} (k : Nat) : ∀ j, (∀ i, j ≤ i → i < j + k → p i = q i) → anyS p k j = anyS q k j := by
  induction k with
  | zero => intro j _; rfl
  | succ k ih =>
    intro j h
    rw [anyS, anyS, h j (by omega) (by omega), ih (j + 1) (fun i h1 h2 => h i (by omega) (by omega))]
theorem and_pow (a k : Nat) : a &&& 2 ^ k = if a.testBit k then 2 ^ k else 0 := by
  apply Nat.eq_of_testBit_eq
  intro i
  rw [Nat.testBit_and, Nat.testBit_two_pow]
  by_cases hi : k = i
  · subst hi
    cases h : a.testBit k
    · simp
    · simp [Nat.testBit_two_pow_self]
  · cases h : a.testBit k
    · simp [hi]
    · simp [hi, Nat.testBit_two_pow]
def cbN (D : DR) (i : Nat) : Nat := if D (91 + i) < 0 then 0 else 2 ^ (D (91 + i)).toNatClampNeg
def heaB (D : DR) (v i : Nat) : Bool := decide (¬ D (491 + 8 * i + v) < 0)
section SPREAD
variable {n : Nat} {st : Nat → Nat} {S : SH} {μ : MU} {x b m c : Nat} {D : DR}
theorem cbN_of (hI : Inv D) {i : Nat} (hi : i < nD D 2) : (D (91 + i) < 0 ∧ cbN D i = 0) ∨ ∃ k, k < 6 ∧ D (91 + i) = nI k ∧ ¬ D (91 + i) < 0 ∧ cbN D i = 2 ^ k := by
  unfold cbN
  by_cases h : D (91 + i) < 0
  · exact Or.inl ⟨h, if_pos h⟩
  · obtain ⟨k, hk, e⟩ := isO_n (hI.mClub i hi) h
    exact Or.inr ⟨k, hk, e, h, by rw [if_neg h, e, nI_clamp (by omega)]⟩
theorem cbN_lt (hI : Inv D) {i : Nat} (hi : i < nD D 2) : cbN D i < 2 ^ 6 := by
  rcases cbN_of hI hi with ⟨_, e⟩ | ⟨k, hk, _, _, e⟩
  · rw [e]; decide
  · rw [e]; exact Nat.pow_lt_pow_right (by omega) hk
theorem wd_eq (hI : Inv D) {i o : Nat} (hi : i < nD D 2) (ho : o < nD D 2) : (D (75 + o) = D (75 + i)) ↔ wdS D o = wdS D i := by
  obtain ⟨e0, b0⟩ := hI.today
  obtain ⟨e1, b1⟩ := hI.wards
  obtain ⟨e2, b2⟩ := hI.men
  obtain ⟨e3, b3⟩ := hI.words
  obtain ⟨e4, b4⟩ := hI.bars
  obtain ⟨e5, b5⟩ := hI.shes
  obtain ⟨e6, b6⟩ := hI.wets
  obtain ⟨e8, b8⟩ := hI.heaped
  obtain ⟨f1, f2⟩ := wdS_of hI hi
  obtain ⟨g1, g2⟩ := wdS_of hI ho
  rw [f1, g1, nI_eq (by omega) (by omega)]
/-- told by ward or club, as bits -/
theorem told_eq (hI : Inv D) {v i : Nat} (th : Bool) (hi : i < nD D 2) : ((orA (heaB D v) (fun o => 2 ^ wdS D o) (nD D 2) 0 0).testBit (wdS D i) || (!decide ((if th then orA (heaB D v) (cbN D) (nD D 2) 0 0 else 0) &&& cbN D i = 0))) = heB D th v i := by
  obtain ⟨e0, b0⟩ := hI.today
  obtain ⟨e1, b1⟩ := hI.wards
  obtain ⟨e2, b2⟩ := hI.men
  obtain ⟨e3, b3⟩ := hI.words
  obtain ⟨e4, b4⟩ := hI.bars
  obtain ⟨e5, b5⟩ := hI.shes
  obtain ⟨e6, b6⟩ := hI.wets
  obtain ⟨e8, b8⟩ := hI.heaped
  have hA : (orA (heaB D v) (fun o => 2 ^ wdS D o) (nD D 2) 0 0).testBit (wdS D i) = anyS (fun o => decide (D (75 + o) = D (75 + i)) && decide (¬ D (491 + 8 * o + v) < 0)) (nD D 2) 0 := by
    rw [orA_test, Nat.zero_testBit, Bool.false_or]
    refine anyS_congr _ _ (fun o _ ho => ?_)
    have := wd_eq hI hi (o := o) (by omega)
    rw [Nat.testBit_two_pow, heaB]
    simp only [this]
    rw [Bool.and_comm]
  have hB : (!decide ((if th then orA (heaB D v) (cbN D) (nD D 2) 0 0 else 0) &&& cbN D i = 0)) = anyS (fun o => (th && (decide (¬ D (91 + i) < 0) && decide (D (91 + o) = D (91 + i)))) && decide (¬ D (491 + 8 * o + v) < 0)) (nD D 2) 0 := by
    cases th
    · simp only [Bool.false_eq_true, if_false, Nat.zero_and, decide_true, Bool.not_true, Bool.false_and]
      symm
      rw [← Bool.not_eq_true, anyS_iff]
      simp
    · simp only [if_true, Bool.true_and]
      rcases cbN_of hI hi with ⟨h1, e⟩ | ⟨k, hk, e1, h1, e⟩
      · rw [e, Nat.and_zero]
        simp only [h1, not_true_eq_false, decide_false, Bool.false_and, decide_true, Bool.not_true]
        symm
        rw [← Bool.not_eq_true, anyS_iff]
        simp
      · rw [e, and_pow, orA_test, Nat.zero_testBit, Bool.false_or]
        have hc : anyS (fun o => heaB D v o && (cbN D o).testBit k) (nD D 2) 0 = anyS (fun o => decide (¬ D (91 + i) < 0) && decide (D (91 + o) = D (91 + i)) && decide (¬ D (491 + 8 * o + v) < 0)) (nD D 2) 0 := by
          refine anyS_congr _ _ (fun o _ ho => ?_)
          simp only [h1, not_false_eq_true, decide_true, Bool.true_and, heaB]
          rw [Bool.and_comm]
          congr 1
          rcases cbN_of hI (i := o) (by omega) with ⟨g1, g⟩ | ⟨k', hk', g1, g2, g⟩
          · rw [g, Nat.zero_testBit]
            have : ¬ D (91 + o) = D (91 + i) := fun q => h1 (by rw [← q]; exact g1)
            simp [this]
          · rw [g, Nat.testBit_two_pow, g1, e1]
            have := nI_eq (a := k') (b := k) (by omega) (by omega)
            simp only [this]
        rw [← hc]
        have := Nat.two_pow_pos k
        cases anyS (fun o => heaB D v o && (cbN D o).testBit k) (nD D 2) 0
        · simp
        · simp
  rw [hA, hB, ← anyS_or, heB]
  refine anyS_congr _ _ (fun o _ _ => ?_)
  unfold nbB
  cases decide (¬ D (491 + 8 * o + v) < 0) <;> simp
/-- what a spread asks of the memory -/
def SprM (μ : MU) (c : Nat) (D : DR) (v : Nat) : Prop := μ c 6 = nI (nD D 2) ∧ μ c 0 = D 0 ∧ (∀ i j, i < nD D 2 → j < 9 → μ (c + 22 + 2 * i) j = D (75 + 16 * j + i)) ∧ ∀ i, i < nD D 2 → μ (c + 54 + 2 * v + 1) i = D (491 + 8 * i + v)
theorem k_clubBit (hC : ShC S c) (hI : Inv D) {i : Nat} (hi : i < nD D 2) (hm : μ (c + 22 + 2 * i) 1 = D (91 + i)) : f_X5_clubBit (some (c + 22 + 2 * i)) (mkH n st S μ) = some (nI (cbN D i)) := by
  obtain ⟨e0, b0⟩ := hI.today
  obtain ⟨e1, b1⟩ := hI.wards
  obtain ⟨e2, b2⟩ := hI.men
  obtain ⟨e3, b3⟩ := hI.words
  obtain ⟨e4, b4⟩ := hI.bars
  obtain ⟨e5, b5⟩ := hI.shes
  obtain ⟨e6, b6⟩ := hI.wets
  obtain ⟨e8, b8⟩ := hI.heaped
  simp (disch := omega) only [f_X5_clubBit, oManI hC, some_bind, hm]
  rcases cbN_of hI hi with ⟨h1, e⟩ | ⟨k, hk, e1, h1, e⟩
  · rw [if_pos h1, e]; rfl
  · rw [if_neg h1, e, e1, shl1 (by omega)]
theorem k_spread7 (hC : ShC S c) (hI : Inv D) {v : Nat} (hv : v < 8) (hM : SprM μ c D v) : ∀ k j fu (w q : Nat), j + k = nD D 2 → k < fu → b_X2_spread_7 fu (some c) (some (c + 54 + 2 * v)) (nI w) (nI q) (nI j) (mkH n st S μ) = b_X2_spread_71 (some c) (some (c + 54 + 2 * v)) (nI (orA (heaB D v) (fun o => 2 ^ wdS D o) k j w)) (nI (if thB D then orA (heaB D v) (cbN D) k j q else 0)) (mkH n st S μ) := by
  obtain ⟨e0, b0⟩ := hI.today
  obtain ⟨e1, b1⟩ := hI.wards
  obtain ⟨e2, b2⟩ := hI.men
  obtain ⟨e3, b3⟩ := hI.words
  obtain ⟨e4, b4⟩ := hI.bars
  obtain ⟨e5, b5⟩ := hI.shes
  obtain ⟨e6, b6⟩ := hI.wets
  obtain ⟨e8, b8⟩ := hI.heaped
  obtain ⟨m1, m2, m3, m4⟩ := hM
  intro k
  induction k with
  | zero =>
    intro j fu w q hj hf
    obtain ⟨fu, rfl⟩ : ∃ q, fu = q + 1 := ⟨fu - 1, by omega⟩
    have q6 : ¬ nI j < nI (nD D 2) := nI_nlt (by omega) (by omega)
    simp (disch := omega) only [b_X2_spread_7, cI6 hC, cI0 hC, some_bind, m1, m2, q6, if_false, orA]
    have t3 : (iRem (D 0) 3 = 0) = (thB D = true) := by simp [thB]
    simp only [t3]
    cases thB D <;> rfl
  | succ k ih =>
    intro j fu w q hj hf
    obtain ⟨fu, rfl⟩ : ∃ q, fu = q + 1 := ⟨fu - 1, by omega⟩
    have q6 : nI j < nI (nD D 2) := nI_lt (by omega) (by omega)
    obtain ⟨f1, f2⟩ := wdS_of hI (i := j) (by omega)
    have hw := m3 j 0 (by omega) (by omega)
    rw [show 75 + 16 * 0 + j = 75 + j from by omega, f1] at hw
    have hh := m4 j (by omega)
    have hcb := k_clubBit (n := n) (st := st) (μ := μ) hC hI (i := j) (by omega) (m3 j 1 (by omega) (by omega))
    have hs := shl1 (k := wdS D j) (by omega)
    rw [b_X2_spread_7, orA, orA]
    simp (disch := omega) only [cI6 hC, some_bind, m1, q6, if_true, oWordR hC, oWordA hC, hh]
    by_cases h : D (491 + 8 * j + v) < 0
    · rw [if_pos h, nI_1, ih (j + 1) fu w q (by omega) (by omega)]
      simp [heaB, h]
    · rw [if_neg h]
      simp (disch := omega) only [cR5 hC, some_bind, cEmen hC, oManI hC, oManK hC, hw, hcb, hs, orN, nI_1]
      rw [ih (j + 1) fu _ _ (by omega) (by omega)]
      simp [heaB, h]
theorem k_spread77 (hC : ShC S c) (hI : Inv D) {v wb cb : Nat} (hv : v < 8) (hM : SprM μ c D v) (hwb : wb < 2 ^ 8) (hcb : cb < 2 ^ 6) (ht : ∀ i, i < nD D 2 → (wb.testBit (wdS D i) || !decide (cb &&& cbN D i = 0)) = heB D (thB D) v i) : ∀ k j fu (an : Bool), j + k = nD D 2 → k < fu → b_X2_spread_77 fu (some c) (some (c + 54 + 2 * v)) (nI wb) (nI cb) (bI an) (nI j) (mkH n st S (setR μ (c + 54 + 2 * v + 1) (fun i => if i < j ∧ nwB D (thB D) v i = true then D 0 + 1 else μ (c + 54 + 2 * v + 1) i))) = some (bI (an || anyS (nwB D (thB D) v) k j), mkH n st S (setR μ (c + 54 + 2 * v + 1) (fun i => if i < nD D 2 ∧ nwB D (thB D) v i = true then D 0 + 1 else μ (c + 54 + 2 * v + 1) i))) := by
  obtain ⟨e0, b0⟩ := hI.today
  obtain ⟨e1, b1⟩ := hI.wards
  obtain ⟨e2, b2⟩ := hI.men
  obtain ⟨e3, b3⟩ := hI.words
  obtain ⟨e4, b4⟩ := hI.bars
  obtain ⟨e5, b5⟩ := hI.shes
  obtain ⟨e6, b6⟩ := hI.wets
  obtain ⟨e8, b8⟩ := hI.heaped
  obtain ⟨m1, m2, m3, m4⟩ := hM
  intro k
  induction k with
  | zero =>
    intro j fu an hj hf
    obtain ⟨fu, rfl⟩ : ∃ q, fu = q + 1 := ⟨fu - 1, by omega⟩
    obtain rfl : j = nD D 2 := by omega
    have q6 : ¬ nI (nD D 2) < nI (nD D 2) := nI_nlt (by omega) (by omega)
    simp (disch := omega) only [b_X2_spread_77, cI6 hC, some_bind, setR_ne, m1, q6, if_false, rZ_bI, anyS, Bool.or_false]
  | succ k ih =>
    intro j fu an hj hf
    obtain ⟨fu, rfl⟩ : ∃ q, fu = q + 1 := ⟨fu - 1, by omega⟩
    have q6 : nI j < nI (nD D 2) := nI_lt (by omega) (by omega)
    obtain ⟨f1, f2⟩ := wdS_of hI (i := j) (by omega)
    have hw := m3 j 0 (by omega) (by omega)
    rw [show 75 + 16 * 0 + j = 75 + j from by omega, f1] at hw
    have hh := m4 j (by omega)
    obtain ⟨μ1, hμ1⟩ : ∃ q : MU, q = setR μ (c + 54 + 2 * v + 1) (fun i => if i < j ∧ nwB D (thB D) v i = true then D 0 + 1 else μ (c + 54 + 2 * v + 1) i) := ⟨_, rfl⟩
    rw [← hμ1]
    have hm1 : μ1 (c + 22 + 2 * j) 1 = D (91 + j) := by
      rw [hμ1, setR_ne (by omega)]
      exact m3 j 1 (by omega) (by omega)
    have hcb' := k_clubBit (n := n) (st := st) (μ := μ1) hC hI (i := j) (by omega) hm1
    have hrow : (fun i => if i < j ∧ nwB D (thB D) v i = true then D 0 + 1 else μ (c + 54 + 2 * v + 1) i) j = D (491 + 8 * j + v) := by
      simp only [Nat.lt_irrefl, false_and, if_false]; exact hh
    have hts := tstN (a := wb) (k := wdS D j) (by omega) (by omega)
    have hcl : ∀ q : Nat, q < 2 ^ 6 → (nI q = 0) = (q = 0) := fun q hq => lit_eq (b := 0) (by omega) (by decide)
    have hcl' : (nI (cb &&& cbN D j) = 0) = (cb &&& cbN D j = 0) := hcl _ (Nat.lt_of_le_of_lt Nat.and_le_left hcb)
    have hadv : ∀ an', b_X2_spread_77 fu (some c) (some (c + 54 + 2 * v)) (nI wb) (nI cb) (bI an') (nI (j + 1)) (mkH n st S (setR μ (c + 54 + 2 * v + 1) (fun i => if i < j + 1 ∧ nwB D (thB D) v i = true then D 0 + 1 else μ (c + 54 + 2 * v + 1) i))) = some (bI (an' || anyS (nwB D (thB D) v) k (j + 1)), mkH n st S (setR μ (c + 54 + 2 * v + 1) (fun i => if i < nD D 2 ∧ nwB D (thB D) v i = true then D 0 + 1 else μ (c + 54 + 2 * v + 1) i))) := fun an' => ih (j + 1) fu an' (by omega) (by omega)
    have hsame : nwB D (thB D) v j = false → (fun i => if i < j ∧ nwB D (thB D) v i = true then D 0 + 1 else μ (c + 54 + 2 * v + 1) i) = (fun i => if i < j + 1 ∧ nwB D (thB D) v i = true then D 0 + 1 else μ (c + 54 + 2 * v + 1) i) := by
      intro hn
      funext i
      by_cases hij : i = j
      · subst hij; simp [hn]
      · have : i < j ↔ i < j + 1 := by omega
        simp only [this]
    have h123 : ∀ told : Bool, told = heB D (thB D) v j → b_X2_spread_123 (b_X2_spread_77 fu) (some c) (some (c + 54 + 2 * v)) (nI wb) (nI cb) (bI an) (nI j) (bI told) (mkH n st S μ1) = some (bI (an || anyS (nwB D (thB D) v) (k + 1) j), mkH n st S (setR μ (c + 54 + 2 * v + 1) (fun i => if i < nD D 2 ∧ nwB D (thB D) v i = true then D 0 + 1 else μ (c + 54 + 2 * v + 1) i))) := by
      intro told htold
      rw [anyS]
      simp only [b_X2_spread_123, ite_bI0, nI_1]
      cases told
      · have hn : nwB D (thB D) v j = false := by simp [nwB, ← htold]
        have := hadv an
        rw [← hsame hn, ← hμ1] at this
        simp only [Bool.false_eq_true, if_false, hn, Bool.false_or]
        exact this
      · simp (disch := omega) only [if_true, oWordR hC, some_bind, oWordA hC, cI0 hC, oWordS hC]
        have e1 : μ1 (c + 54 + 2 * v + 1) j = D (491 + 8 * j + v) := by
          rw [hμ1, setR_same]; exact hrow
        have e2' : μ1 c 0 = D 0 := by
          rw [hμ1, setR_ne (by omega)]; exact m2
        rw [e1, e2']
        by_cases hneg : D (491 + 8 * j + v) < 0
        · have hn : nwB D (thB D) v j = true := by simp [nwB, ← htold, hneg]
          rw [if_pos hneg, hn]
          have hup : up2 μ1 (c + 54 + 2 * v + 1) j (D 0 + 1) = setR μ (c + 54 + 2 * v + 1) (fun i => if i < j + 1 ∧ nwB D (thB D) v i = true then D 0 + 1 else μ (c + 54 + 2 * v + 1) i) := by
            rw [hμ1, up2_setR]
            congr 1
            funext i
            by_cases hij : i = j
            · subst hij; simp [hn]
            · have : i < j ↔ i < j + 1 := by omega
              simp only [hij, if_false, this]
          rw [hup]
          have := hadv true
          simp only [bI_t] at this
          rw [this]
          simp
        · have hn : nwB D (thB D) v j = false := by simp [nwB, hneg]
          rw [if_neg hneg, hn]
          have := hadv an
          rw [← hsame hn, ← hμ1] at this
          simp only [Bool.false_or]
          exact this
    rw [b_X2_spread_77]
    have hw1 : μ1 (c + 22 + 2 * j) 0 = nI (wdS D j) := by
      rw [hμ1, setR_ne (by omega)]; exact hw
    have hN1 : μ1 c 6 = nI (nD D 2) := by
      rw [hμ1, setR_ne (by omega)]; exact m1
    simp (disch := omega) only [cI6 hC, some_bind, hN1, q6, if_true, cR5 hC, cEmen hC, oManI hC, oManK hC, hw1, hts, ite_bI0, hcb', andN, hcl']
    have ht' := ht j (by omega)
    cases hb1 : wb.testBit (wdS D j)
    · rw [hb1, Bool.false_or] at ht'
      by_cases h0 : cb &&& cbN D j = 0
      · simp only [Bool.false_eq_true, if_false, h0, if_true]
        exact h123 false (by rw [← ht']; simp [h0])
      · simp only [Bool.false_eq_true, if_false, h0]
        exact h123 true (by rw [← ht']; simp [h0])
    · simp only [if_true]
      exact h123 true (by rw [← ht', hb1]; rfl)
theorem k_spread (hC : ShC S c) (hI : Inv D) {v : Nat} (hv : v < 8) (hM : SprM μ c D v) : f_X2_spread (some c) (some (c + 54 + 2 * v)) (mkH n st S μ) = some (bI (anyS (nwB D (thB D) v) (nD D 2) 0), mkH n st S (setR μ (c + 54 + 2 * v + 1) (fun i => if i < nD D 2 ∧ nwB D (thB D) v i = true then D 0 + 1 else μ (c + 54 + 2 * v + 1) i))) := by
  obtain ⟨e0, b0⟩ := hI.today
  obtain ⟨e1, b1⟩ := hI.wards
  obtain ⟨e2, b2⟩ := hI.men
  obtain ⟨e3, b3⟩ := hI.words
  obtain ⟨e4, b4⟩ := hI.bars
  obtain ⟨e5, b5⟩ := hI.shes
  obtain ⟨e6, b6⟩ := hI.wets
  obtain ⟨e8, b8⟩ := hI.heaped
  have hfu : nD D 2 < FU := by simp only [FU]; omega
  have h7 := k_spread7 (n := n) (st := st) hC hI hv hM (nD D 2) 0 FU 0 0 (by omega) hfu
  have hwb : orA (heaB D v) (fun o => 2 ^ wdS D o) (nD D 2) 0 0 < 2 ^ 8 := by
    refine orA_lt _ _ 8 _ _ _ (by decide) (fun i _ hi => ?_)
    obtain ⟨f1, f2⟩ := wdS_of hI (i := i) (by omega)
    exact Nat.pow_lt_pow_right (by omega) (by omega)
  have hcb : (if thB D then orA (heaB D v) (cbN D) (nD D 2) 0 0 else 0) < 2 ^ 6 := by
    split
    · exact orA_lt _ _ 6 _ _ _ (by decide) (fun i _ hi => cbN_lt hI (by omega))
    · decide
  have h77 := k_spread77 (n := n) (st := st) hC hI hv hM hwb hcb (fun i hi => told_eq hI (thB D) hi) (nD D 2) 0 FU false (by omega) hfu
  have e0 : (fun i => if i < 0 ∧ nwB D (thB D) v i = true then D 0 + 1 else μ (c + 54 + 2 * v + 1) i) = μ (c + 54 + 2 * v + 1) := by
    funext i; simp
  rw [e0, setR_id, Bool.false_or] at h77
  unfold f_X2_spread
  refine h7.trans ?_
  unfold b_X2_spread_71
  exact h77
end SPREAD
