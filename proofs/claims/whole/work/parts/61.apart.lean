-- ===== how far apart two names are =====
theorem ltS_succ (k i : Nat) : ltS k (i + 1) = ltS (k / 27) i := by
  unfold ltS
  rw [Nat.pow_succ, Nat.mul_comm, ← Nat.div_div_eq_div_mul]
theorem nlS_le (f k : Nat) : nlS f k ≤ f := by
  induction f generalizing k with
  | zero => simp [nlS]
  | succ f ih =>
    rw [nlS]
    split
    · omega
    · have := ih (k / 27); omega
theorem tabS_le (a b : Nat → Nat) : ∀ i j, tabS a b i j ≤ i + j := by
  intro i
  induction i with
  | zero => intro j; simp [tabS]
  | succ i ih =>
    intro j
    cases j with
    | zero => simp [tabS]
    | succ j => simp only [tabS]; have := ih (j + 1); omega
section APART
variable {n : Nat} {st : Nat → Nat} {S : SH} {μ : MU} {x b m c : Nat} {D : DR}
theorem r_lettersL {r : Nat} (hr : nnS S r 100 6) : ∀ f k j fu (μ : MU), k < 27 ^ f → k < 2 ^ 31 → j + f ≤ 6 → f < fu → ∃ μ' : MU, b_X12_letters_4 fu (some r) (nI j) (nI k) (mkH n st S μ) = some (nI (j + nlS f k), mkH n st S μ') ∧ (∀ i, i < nlS f k → μ' r (j + i) = nI (ltS k i)) ∧ ∀ a i, ¬ (a = r ∧ j ≤ i) → μ' a i = μ a i := by
  intro f
  induction f with
  | zero =>
    intro k j fu μ hk h31 hj hf
    obtain ⟨fu, rfl⟩ : ∃ q, fu = q + 1 := ⟨fu - 1, by omega⟩
    obtain rfl : k = 0 := by omega
    exact ⟨μ, rfl, fun i hi => by simp [nlS] at hi, fun _ _ _ => rfl⟩
  | succ f ih =>
    intro k j fu μ hk h31 hj hf
    obtain ⟨fu, rfl⟩ : ∃ q, fu = q + 1 := ⟨fu - 1, by omega⟩
    by_cases h0 : k = 0
    · subst h0
      exact ⟨μ, by simp only [b_X12_letters_4, show ¬ (0 : Int32) < nI 0 from by decide, if_false, nlS, if_true, Nat.add_zero], fun i hi => by simp [nlS] at hi, fun _ _ _ => rfl⟩
    · have hk' : k / 27 < 27 ^ f := by
        rw [Nat.div_lt_iff_lt_mul (by omega)]
        rw [Nat.pow_succ] at hk
        exact hk
      obtain ⟨μ', h1, h2, h3⟩ := ih (k / 27) (j + 1) fu (up2 μ r j (nI (k % 27))) hk' (by omega) (by omega) (by omega)
      refine ⟨μ', ?_, ?_, ?_⟩
      · have hp : (0 : Int32) < nI k := nI_lt (a := 0) (by omega) h31
        simp (disch := omega) only [b_X12_letters_4, hp, if_true, rem27, div27, ob_sI hr, some_bind, nI_1]
        rw [h1, nlS, if_neg h0, show j + 1 + nlS f (k / 27) = j + (nlS f (k / 27) + 1) from by omega]
      · intro i hi
        rw [nlS, if_neg h0] at hi
        cases i with
        | zero => rw [h3 _ _ (by omega), Nat.add_zero, up2_same]; simp [ltS]
        | succ i =>
          have := h2 i (by omega)
          rw [show j + (i + 1) = j + 1 + i from by omega, this, ltS_succ]
      · intro a i h
        rw [h3 a i (by omega), up2_ne (by omega)]
/-- the table so far -/
def TabI (μ : MU) (m : Nat) (la lb : Nat → Nat) (na nb i j : Nat) : Prop := (∀ i' j', (i' < i ∧ j' ≤ nb) ∨ (i' = i ∧ j' < j) → μ (m + 6) (7 * i' + j') = nI (tabS la lb i' j')) ∧ (∀ k, k < na → μ (m + 4) k = nI (la k)) ∧ (∀ k, k < nb → μ (m + 5) k = nI (lb k))
def FrA (m : Nat) (μ μ' : MU) : Prop := ∀ a i, ¬ (a = m + 4 ∨ a = m + 5 ∨ a = m + 6) → μ' a i = μ a i
theorem r_tab206 (hS : ShM S m) (k22 : Option Nat → Int32 → Int32 → Int32 → AH → Option (Int32 × AH)) (k31 : Option Nat → Int32 → Int32 → Int32 → Int32 → AH → Option (Int32 × AH)) {i j : Nat} (hi : i ≤ 6) (hj : j ≤ 6) (na nb v : Int32) (μ : MU) : b_X12_apartBy_206 k22 k31 (some m) na nb (nI i) (nI j) v (mkH n st S μ) = k31 (some m) na nb (nI i) (nI (j + 1)) (mkH n st S (up2 μ (m + 6) (7 * i + j) v)) := by
  simp (disch := omega) only [b_X12_apartBy_206, mR7 hS, some_bind, lit_mul, nI_add, mS7 hS, nI_1]
theorem r_tabStep (hS : ShM S m) (k22 : Option Nat → Int32 → Int32 → Int32 → AH → Option (Int32 × AH)) {la lb : Nat → Nat} {na nb i j : Nat} (hla : ∀ k, la k < 27) (hlb : ∀ k, lb k < 27) (hna : na ≤ 6) (hnb : nb ≤ 6) (hi : i ≤ na) (hj : j ≤ nb) (fu : Nat) (hT : TabI μ m la lb na nb i j) : b_X12_apartBy_31 k22 (fu + 1) (some m) (nI na) (nI nb) (nI i) (nI j) (mkH n st S μ) = b_X12_apartBy_31 k22 fu (some m) (nI na) (nI nb) (nI i) (nI (j + 1)) (mkH n st S (up2 μ (m + 6) (7 * i + j) (nI (tabS la lb i j)))) := by
  obtain ⟨t1, t2, t3⟩ := hT
  have q0 : ¬ nI nb < nI j := nI_nlt (by omega) (by omega)
  have h206 := fun v => r_tab206 (n := n) (st := st) hS k22 (b_X12_apartBy_31 k22 fu) (i := i) (j := j) (by omega) (by omega) (nI na) (nI nb) v μ
  rw [b_X12_apartBy_31]
  simp only [q0, if_false]
  cases i with
  | zero =>
    have p1 : ¬ (0 : Int32) < nI 0 := by decide
    have p2 : nI 0 = (0 : Int32) := rfl
    simp only [if_pos p2, b_X12_apartBy_102, p1, if_false]
    rw [h206, tabS]
  | succ i =>
    have p1 : (0 : Int32) < nI (i + 1) := nI_lt (a := 0) (by omega) (by omega)
    have p2 : ¬ nI (i + 1) = (0 : Int32) := nI_ne0 (by omega) (by omega)
    simp only [p2, if_false]
    cases j with
    | zero =>
      have p3 : ¬ (0 : Int32) < nI 0 := by decide
      have p4 : nI 0 = (0 : Int32) := rfl
      simp only [if_pos p4, b_X12_apartBy_102, p1, if_true, p3, if_false]
      rw [h206, tabS]
    | succ j =>
      have p3 : (0 : Int32) < nI (j + 1) := nI_lt (a := 0) (by omega) (by omega)
      have p4 : ¬ nI (j + 1) = (0 : Int32) := nI_ne0 (by omega) (by omega)
      have g1 := t1 i j (Or.inl ⟨by omega, by omega⟩)
      have g2 := t1 i (j + 1) (Or.inl ⟨by omega, by omega⟩)
      have g3 := t1 (i + 1) j (Or.inr ⟨rfl, by omega⟩)
      have g4 := t2 i (by omega)
      have g5 := t3 j (by omega)
      have l1 := tabS_le la lb i j
      have l2 := tabS_le la lb i (j + 1)
      have l3 := tabS_le la lb (i + 1) j
      have s1 : nI (7 * i + (j + 1)) - 1 = nI (7 * i + j) := nI_pred _
      have s2 : nI (7 * (i + 1) + (j + 1)) - 1 = nI (7 * (i + 1) + j) := nI_pred _
      have z1 : ∀ q : Nat, nI q + 0 = nI q := fun q => Int32.add_zero _
      have hv : b_X12_apartBy_31 k22 (fu + 1) (some m) (nI na) (nI nb) (nI (i + 1)) (nI (j + 1)) (mkH n st S μ) = b_X12_apartBy_102 k22 (b_X12_apartBy_31 k22 fu) (some m) (nI na) (nI nb) (nI (i + 1)) (nI (j + 1)) (nI (tabS la lb i j + if la i = lb j then 0 else 1)) (mkH n st S μ) := by
        rw [b_X12_apartBy_31]
        simp only [q0, p2, p4, if_false]
        simp (disch := omega) only [mR7 hS, mR5 hS, mR6 hS, some_bind, nI_pred, lit_mul, nI_add, s1, mA7 hS, mA5 hS, mA6 hS, g1, g4, g5]
        have hll : (nI (la i) = nI (lb j)) = (la i = lb j) := nn_eq (by have := hla i; omega) (by have := hlb j; omega)
        simp only [hll]
        by_cases hq : la i = lb j
        · rw [if_pos hq, if_pos hq, z1]; rfl
        · rw [if_neg hq, if_neg hq, nI_1]
      have hstep := hv
      rw [b_X12_apartBy_31] at hstep
      simp only [q0, p2, p4, if_false] at hstep
      simp only [p4, if_false]
      rw [hstep]
      have hfin : ∀ v, v ≤ 20 → b_X12_apartBy_158 k22 (b_X12_apartBy_31 k22 fu) (some m) (nI na) (nI nb) (nI (i + 1)) (nI (j + 1)) (nI v) (mkH n st S μ) = b_X12_apartBy_31 k22 fu (some m) (nI na) (nI nb) (nI (i + 1)) (nI (j + 1 + 1)) (mkH n st S (up2 μ (m + 6) (7 * (i + 1) + (j + 1)) (nI (min (tabS la lb (i + 1) j + 1) v)))) := by
        intro v hv20
        simp (disch := omega) only [b_X12_apartBy_158, mR7 hS, some_bind, lit_mul, nI_add, s2, mA7 hS, g3, nI_1, nn_lt, h206]
        by_cases hq : tabS la lb (i + 1) j + 1 < v
        · rw [if_pos hq, Nat.min_eq_left (by omega)]
        · rw [if_neg hq, Nat.min_eq_right (by omega)]
      have hif : (if la i = lb j then 0 else 1) ≤ 1 := by split <;> omega
      simp (disch := omega) only [b_X12_apartBy_102, p1, p3, if_true, mR7 hS, some_bind, nI_pred, lit_mul, nI_add, mA7 hS, g2, nI_1, nn_lt, hfin]
      by_cases hq : tabS la lb i (j + 1) + 1 < tabS la lb i j + if la i = lb j then 0 else 1
      · rw [if_pos hq]
        congr 3
        rw [tabS]
        congr 1
        omega
      · rw [if_neg hq]
        congr 3
        rw [tabS]
        congr 1
        omega
theorem r_tabRow (hS : ShM S m) (k22 : Option Nat → Int32 → Int32 → Int32 → AH → Option (Int32 × AH)) {la lb : Nat → Nat} {na nb i : Nat} (hla : ∀ k, la k < 27) (hlb : ∀ k, lb k < 27) (hna : na ≤ 6) (hnb : nb ≤ 6) (hi : i ≤ na) : ∀ k j fu (μ : MU), j + k = nb + 1 → k < fu → TabI μ m la lb na nb i j → ∃ μ' : MU, b_X12_apartBy_31 k22 fu (some m) (nI na) (nI nb) (nI i) (nI j) (mkH n st S μ) = k22 (some m) (nI na) (nI nb) (nI (i + 1)) (mkH n st S μ') ∧ TabI μ' m la lb na nb (i + 1) 0 ∧ FrA m μ μ' := by
  intro k
  induction k with
  | zero =>
    intro j fu μ hj hf hT
    obtain ⟨fu, rfl⟩ : ∃ q, fu = q + 1 := ⟨fu - 1, by omega⟩
    have q0 : nI nb < nI j := nI_lt (by omega) (by omega)
    refine ⟨μ, ?_, ?_, fun _ _ _ => rfl⟩
    · rw [b_X12_apartBy_31]
      simp only [q0, if_true, nI_1]
    · exact ⟨fun i' j' h => hT.1 i' j' (by omega), hT.2.1, hT.2.2⟩
  | succ k ih =>
    intro j fu μ hj hf hT
    obtain ⟨fu, rfl⟩ : ∃ q, fu = q + 1 := ⟨fu - 1, by omega⟩
    rw [r_tabStep hS k22 hla hlb hna hnb hi (by omega) fu hT]
    obtain ⟨μ', h1, h2, h3⟩ := ih (j + 1) fu (up2 μ (m + 6) (7 * i + j) (nI (tabS la lb i j))) (by omega) (by omega) (by
      refine ⟨?_, ?_, ?_⟩
      · intro i' j' h
        by_cases hij : i' = i ∧ j' = j
        · obtain ⟨rfl, rfl⟩ := hij; exact up2_same
        · rw [up2_ne (by omega)]
          exact hT.1 i' j' (by omega)
      · intro q hq; rw [up2_ne (by omega)]; exact hT.2.1 q hq
      · intro q hq; rw [up2_ne (by omega)]; exact hT.2.2 q hq)
    refine ⟨μ', h1, h2, fun a q h => ?_⟩
    rw [h3 a q h, up2_ne (by omega)]
theorem r_tabAll (hS : ShM S m) {la lb : Nat → Nat} {na nb : Nat} (hla : ∀ k, la k < 27) (hlb : ∀ k, lb k < 27) (hna : na ≤ 6) (hnb : nb ≤ 6) : ∀ k i fu (μ : MU), i + k = na + 1 → k < fu → TabI μ m la lb na nb i 0 → ∃ μ' : MU, b_X12_apartBy_22 fu (some m) (nI na) (nI nb) (nI i) (mkH n st S μ) = some (nI (tabS la lb na nb), mkH n st S μ') ∧ FrA m μ μ' := by
  intro k
  induction k with
  | zero =>
    intro i fu μ hj hf hT
    obtain ⟨fu, rfl⟩ : ∃ q, fu = q + 1 := ⟨fu - 1, by omega⟩
    obtain rfl : i = na + 1 := by omega
    have q0 : nI na < nI (na + 1) := nI_lt (by omega) (by omega)
    have g := hT.1 na nb (by omega)
    refine ⟨μ, ?_, fun _ _ _ => rfl⟩
    simp (disch := omega) only [b_X12_apartBy_22, q0, if_true, mR7 hS, some_bind, lit_mul, nI_add, mA7 hS, g]
  | succ k ih =>
    intro i fu μ hj hf hT
    obtain ⟨fu, rfl⟩ : ∃ q, fu = q + 1 := ⟨fu - 1, by omega⟩
    have q0 : ¬ nI na < nI i := nI_nlt (by omega) (by omega)
    obtain ⟨μ1, h1, h2, h3⟩ := r_tabRow (n := n) (st := st) hS (b_X12_apartBy_22 fu) hla hlb hna hnb (i := i) (by omega) (nb + 1) 0 FU μ (by omega) (by simp only [FU]; omega) hT
    obtain ⟨μ2, g1, g2⟩ := ih (i + 1) fu μ1 (by omega) (by omega) h2
    refine ⟨μ2, ?_, fun a q h => ?_⟩
    · simp only [b_X12_apartBy_22, q0, if_false]
      exact h1.trans g1
    · rw [g2 a q h, h3 a q h]
theorem ltS_lt (k i : Nat) : ltS k i < 27 := Nat.mod_lt _ (by omega)
theorem r_apartBy (hS : ShM S m) {a d : Nat} (ha : a < 387420489) (hd : d < 387420489) : ∃ μ' : MU, f_X12_apartBy (some m) (nI a) (nI d) (mkH n st S μ) = some (nI (apS (nI a) (nI d)), mkH n st S μ') ∧ FrA m μ μ' := by
  have r1 : nnS S (m + 4) 100 6 := by
    have h : S (m + 4) = (100, 6, fun _ => none) := hS.2 3 _ rfl
    refine ⟨by rw [h], by rw [h], fun j _ => by rw [h]⟩
  have r2 : nnS S (m + 5) 100 6 := by
    have h : S (m + 5) = (100, 6, fun _ => none) := hS.2 4 _ rfl
    refine ⟨by rw [h], by rw [h], fun j _ => by rw [h]⟩
  obtain ⟨μ1, h1, h2, h3⟩ := r_lettersL (n := n) (st := st) r1 6 a 0 FU μ (by omega) (by omega) (by omega) (by decide)
  obtain ⟨μ2, g1, g2, g3⟩ := r_lettersL (n := n) (st := st) r2 6 d 0 FU μ1 (by omega) (by omega) (by omega) (by decide)
  rw [Nat.zero_add] at h1 g1
  have la := nlS_le 6 a
  have lb := nlS_le 6 d
  obtain ⟨μ3, k1, k2⟩ := r_tabAll (n := n) (st := st) hS (ltS_lt a) (ltS_lt d) la lb (nlS 6 a + 1) 0 FU μ2 (by omega) (by simp only [FU]; omega) (by
    refine ⟨fun i' j' h => by omega, fun k hk => ?_, fun k hk => ?_⟩
    · have := h2 k hk
      rw [Nat.zero_add] at this
      rw [g3 _ _ (by omega)]; exact this
    · have := g2 k hk
      rw [Nat.zero_add] at this
      exact this)
  refine ⟨μ3, ?_, fun q i h => ?_⟩
  · have h1' : f_X12_letters (nI a) (some (m + 4)) (mkH n st S μ) = some (nI (nlS 6 a), mkH n st S μ1) := h1
    have g1' : f_X12_letters (nI d) (some (m + 5)) (mkH n st S μ1) = some (nI (nlS 6 d), mkH n st S μ2) := g1
    simp only [f_X12_apartBy, mR5 hS, mR6 hS, some_bind, h1', g1']
    rw [apS, nI_clamp (by omega), nI_clamp (by omega)]
    exact k1
  · rw [k2 q i h, g3 _ _ (by omega), h3 _ _ (by omega)]
end APART
