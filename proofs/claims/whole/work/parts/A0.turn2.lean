-- ===== the least set, by both =====
section TURN2
variable {n : Nat} {st : Nat → Nat} {S : SH} {μ : MU} {x b m c l j : Nat} {D : DR} {T : Nat → Int32} {Nt : Nat}
def keyN (s : Nat) : Nat := popN 16 s * 64 + s
def cSets : List Nat := [0, 1, 2, 4, 8, 16, 32, 3, 5, 6, 9, 10, 12, 17, 18, 20, 24, 33, 34, 36, 40, 48, 7, 11, 13, 14, 19, 21, 22, 25, 26, 28, 35, 37, 38, 41, 42, 44, 49, 50, 52, 56, 15, 23, 27, 29, 30, 39, 43, 45, 46, 51, 53, 54, 57, 58, 60, 31, 47, 55, 59, 61, 62, 63]
/-- the least that is so: -1, none -/
def minK (P : Nat → Bool) (v : Int32) : Prop := (v = -1 ∧ ∀ s, s < 64 → P s = false) ∨ ∃ t, t < 64 ∧ v = nI t ∧ P t = true ∧ ∀ s, s < 64 → P s = true → keyN t ≤ keyN s
theorem keyN_inj : ∀ s, s < 64 → ∀ t, t < 64 → keyN s = keyN t → s = t := by decide +kernel
theorem keyN_and : ∀ s, s < 64 → ∀ u, u < 64 → keyN (s &&& u) ≤ keyN s ∧ s &&& u < 64 := by decide +kernel
theorem and_not : ∀ s, s < 64 → ∀ u, u < 64 → (nI s &&& (nI u ^^^ (-1)) = 0 ↔ s &&& u = s) := by decide +kernel
theorem cSets_lt : ∀ s ∈ cSets, s < 64 := by decide
theorem cSets_in : ∀ s, s < 64 → s ∈ cSets := by decide
def incK : List Nat → Bool
  | [] => true
  | [_] => true
  | a :: c :: r => decide (keyN a < keyN c) && incK (c :: r)
theorem cSets_inc : incK cSets = true := by decide +kernel
theorem incK_le : ∀ (l : List Nat) (a : Nat), incK (a :: l) = true → ∀ s ∈ l, keyN a < keyN s := by
  intro l
  induction l with
  | nil => intro a _ s hs; cases hs
  | cons c r ih =>
    intro a h s hs
    rw [incK, Bool.and_eq_true, decide_eq_true_eq] at h
    rcases List.mem_cons.mp hs with e | e
    · rw [e]; exact h.1
    · exact Nat.lt_trans h.1 (ih c h.2 s e)
theorem minK_uni {P : Nat → Bool} {v w : Int32} (h1 : minK P v) (h2 : minK P w) : v = w := by
  rcases h1 with ⟨rfl, h1⟩ | ⟨t, t1, rfl, t2, t3⟩
  · rcases h2 with ⟨rfl, -⟩ | ⟨s, s1, -, s2, -⟩
    · rfl
    · rw [h1 s s1] at s2; cases s2
  · rcases h2 with ⟨-, h2⟩ | ⟨s, s1, rfl, s2, s3⟩
    · rw [h2 t t1] at t2; cases t2
    · rw [keyN_inj t t1 s s1 (Nat.le_antisymm (t3 s s1 s2) (s3 t t1 t2))]
/-- clubs of those that come, but one -/
def usS (D : DR) (day : Int32) (y : Nat) (j : Nat) : Nat := orK (fun i => if decide (¬ i = y) && (decide (¬ D (91 + i) < 0) && comB D i day) then 2 ^ nD D (91 + i) else 0) j
theorem usS_lt (hI : Inv D) (day : Int32) (y : Nat) {j : Nat} (hj : j ≤ nD D 2) : usS D day y j < 64 := by
  refine orK_lt (w := 6) j fun i hi => ?_
  split
  · rename_i h
    simp only [Bool.and_eq_true, decide_eq_true_eq] at h
    exact Nat.pow_lt_pow_right (by omega) (club_of hI (by omega) h.2.1).2
  · exact Nat.two_pow_pos 6
theorem orK_bit {g : Nat → Nat} {i q : Nat} : ∀ k, i < k → (g i).testBit q = true → (orK g k).testBit q = true := by
  intro k
  induction k with
  | zero => intro h; omega
  | succ k ih =>
    intro h hb
    rw [orK, Nat.testBit_or]
    by_cases e : i = k
    · subst e; rw [hb, Bool.or_true]
    · rw [ih (by omega) hb, Bool.true_or]
/-- clubs without men that come change nothing -/
theorem tuP_and (day : Int32) (y s : Nat) : tuP D T Nt day y (s &&& usS D day y (nD D 2)) = tuP D T Nt day y s := by
  have hC : ∀ i, i < nD D 2 → tuC D day y (s &&& usS D day y (nD D 2)) i = tuC D day y s i := by
    intro i hi
    have : tuB D day y (s &&& usS D day y (nD D 2)) i = tuB D day y s i := by
      unfold tuB
      rw [Nat.testBit_and]
      by_cases h : (decide (¬ i = y) && (decide (¬ D (91 + i) < 0) && comB D i day)) = true
      · have hb : (usS D day y (nD D 2)).testBit (nD D (91 + i)) = true := by
          refine orK_bit (nD D 2) hi ?_
          rw [if_pos h, Nat.testBit_two_pow]
          simp
        rw [hb, Bool.and_true]
      · cases h1 : decide (¬ i = y) with
        | false => rfl
        | true =>
          cases h2 : decide (¬ D (91 + i) < 0) with
          | false => rfl
          | true =>
            rw [h1, h2] at h
            simp only [Bool.true_and] at h
            have : comB D i day = false := by simpa using h
            rw [this]
            simp
    unfold tuC
    rw [this]
  have e1 : ∀ j, j ≤ nD D 2 → aTs (tuC D day y (s &&& usS D day y (nD D 2))) j = aTs (tuC D day y s) j := by
    intro j
    induction j with
    | zero => intro _; rfl
    | succ j ih => intro hj; rw [aTs, cntB_snoc, Nat.zero_add, hC j (by omega), aTs, cntB_snoc, Nat.zero_add]; congr 1; exact ih (by omega)
  have e2 : ∀ i j, j ≤ nD D 2 → aLs (tuC D day y (s &&& usS D day y (nD D 2))) j i = aLs (tuC D day y s) j i := by
    intro i j
    induction j with
    | zero => intro _; rfl
    | succ j ih => intro hj; rw [aLs, cntB_snoc, Nat.zero_add, hC j (by omega), aLs, cntB_snoc, Nat.zero_add]; congr 1; exact ih (by omega)
  have e3 : ∀ i j, j ≤ nD D 2 → aGs D (tuC D day y (s &&& usS D day y (nD D 2))) j i = aGs D (tuC D day y s) j i := by
    intro i j
    induction j with
    | zero => intro _; rfl
    | succ j ih => intro hj; rw [aGs, orK, hC j (by omega), aGs, orK]; congr 1; exact ih (by omega)
  unfold tuP caS
  rw [e1 _ (Nat.le_refl _), show aLs (tuC D day y (s &&& usS D day y (nD D 2))) (nD D 2) = aLs (tuC D day y s) (nD D 2) from funext fun i => e2 i _ (Nat.le_refl _), show aGs D (tuC D day y (s &&& usS D day y (nD D 2))) (nD D 2) = aGs D (tuC D day y s) (nD D 2) from funext fun i => e3 i _ (Nat.le_refl _)]
theorem k_usefulL (hX : ShX S x) (hs : Sim μ (x + 1) D) (hI : Inv D) {day : Int32} {y : Nat} (hy : y < nD D 2) (h6 : μ x 6 = nI (biN (fun i => comB D i day) (nD D 2))) : ∀ k j fu, j + k = nD D 2 → k < fu → b_X11_clubsOfComers_4 (mkH n st S μ) fu (some x) (nI y) (nI (usS D day y j)) (nI j) = some (nI (usS D day y (nD D 2))) := by
  have hCy := hX.city
  obtain ⟨e2, b2⟩ := hI.men
  have z2 : μ (x + 1) 6 = nI (nD D 2) := by rw [hs.manN, e2]
  have hbl : biN (fun i => comB D i day) (nD D 2) < 2 ^ 31 := Nat.lt_of_lt_of_le (biN_lt _ _) (Nat.pow_le_pow_right (by omega) (by omega))
  intro k
  induction k with
  | zero =>
    intro j fu hj hf
    obtain ⟨fu, rfl⟩ : ∃ q, fu = q + 1 := ⟨fu - 1, by omega⟩
    obtain rfl : j = nD D 2 := by omega
    simp (disch := omega) only [b_X11_clubsOfComers_4, xR0 hX, some_bind, cI6 hCy, z2, nn_lt, natF, if_false]
  | succ k ih =>
    intro j fu hj hf
    obtain ⟨fu, rfl⟩ : ∃ q, fu = q + 1 := ⟨fu - 1, by omega⟩
    have m1 := hs.man j 1 (by omega) (by omega)
    simp only [Nat.reduceMul, Nat.reduceAdd] at m1
    have ht := tstN (a := biN (fun i => comB D i day) (nD D 2)) (k := j) hbl (by omega)
    rw [biN_test, decide_eq_true (show j < nD D 2 by omega), Bool.true_and] at ht
    have i0 := ih (j + 1) fu (by omega) (by omega)
    rw [← i0]
    have hst : usS D day y (j + 1) = usS D day y j ||| (if decide (¬ j = y) && (decide (¬ D (91 + j) < 0) && comB D j day) then 2 ^ nD D (91 + j) else 0) := rfl
    have hpre : b_X11_clubsOfComers_4 (mkH n st S μ) (fu + 1) (some x) (nI y) (nI (usS D day y j)) (nI j) = if nI j = nI y then b_X11_clubsOfComers_4 (mkH n st S μ) fu (some x) (nI y) (nI (usS D day y j)) (nI (j + 1)) else if D (91 + j) < 0 then b_X11_clubsOfComers_4 (mkH n st S μ) fu (some x) (nI y) (nI (usS D day y j)) (nI (j + 1)) else if comB D j day = true then b_X11_clubsOfComers_4 (mkH n st S μ) fu (some x) (nI y) (nI (usS D day y j) ||| (1 <<< (D (91 + j) &&& 31))) (nI (j + 1)) else b_X11_clubsOfComers_4 (mkH n st S μ) fu (some x) (nI y) (nI (usS D day y j)) (nI (j + 1)) := by
      obtain ⟨us, hus⟩ : ∃ u, u = usS D day y j := ⟨_, rfl⟩
      rw [← hus]
      simp (disch := omega) only [b_X11_clubsOfComers_4, xR0 hX, some_bind, cI6 hCy, z2, nn_lt, natT, if_true, cR5 hCy, cEmen hCy, oManI hCy, m1, xI6 hX, h6, ht, bI_if0, nI_1]
    rw [hpre, hst]
    by_cases c1 : j = y
    · rw [if_pos (by rw [c1])]
      simp [c1]
    · rw [if_neg (fun h => c1 ((nI_eq (by omega) (by omega)).mp h))]
      by_cases c2 : D (91 + j) < 0
      · rw [if_pos c2]
        simp [c2]
      · rw [if_neg c2]
        obtain ⟨e1, l1⟩ := club_of hI (show j < nD D 2 by omega) c2
        by_cases c3 : comB D j day = true
        · rw [if_pos c3]
          have : (decide (¬ j = y) && (decide (¬ D (91 + j) < 0) && comB D j day)) = true := by simp [c1, c2, c3]
          rw [if_pos this]
          have hsl : (1 : Int32) <<< (D (91 + j) &&& 31) = nI (2 ^ nD D (91 + j)) := by
            have := shl1 (k := nD D (91 + j)) (by omega)
            rw [← e1] at this
            exact this
          rw [hsl, orN]
        · rw [if_neg c3]
          have : ¬ (decide (¬ j = y) && (decide (¬ D (91 + j) < 0) && comB D j day)) = true := by simp [c3]
          rw [if_neg this, Nat.or_zero]
/-- the class looks through its sets -/
theorem k_turnL (hX : ShX S x) (hs : Sim μ (x + 1) D) (hI : Inv D) (hBs : BaseOK st S μ x b) {day : Int32} {y : Nat} (hy : y < nD D 2) (hl : l < 5) (hU : LawU μ (x + 1 + 118 + 6 * l) T Nt) (hNt : Nt ≤ 300) (hC : ∀ i, i < nD D 2 → μ (x + 165) i = drS D i day (-1) false) (h6 : μ x 6 = nI (biN (fun i => comB D i day) (nD D 2))) (hsn : sntB D y day = false) : ∀ (rest : List Nat) q fu (μ1 : MU), cSets.drop q = rest → incK rest = true → rest.length < fu → (∀ s ∈ cSets, s ∉ rest → tuP D T Nt day y s = true → s &&& usS D day y (nD D 2) = s → False) → (∀ a i, ¬ (x + 158 ≤ a ∧ a ≤ x + 162) → ¬ a = x + 1 + 118 + 6 * l + 4 → ¬ a = x + 1 + 118 + 6 * l + 5 → μ1 a i = μ a i) → ∃ v μ', b_X11_turnFor_35 fu (some x) (nI y) (some (x + 1 + 118 + 6 * l)) (nI (usS D day y (nD D 2))) (some (st 3)) (nI 64) (nI q) (mkH n st S μ1) = some (v, mkH n st S μ') ∧ minK (tuP D T Nt day y) v ∧ ∀ a i, ¬ (x + 158 ≤ a ∧ a ≤ x + 162) → ¬ a = x + 1 + 118 + 6 * l + 4 → ¬ a = x + 1 + 118 + 6 * l + 5 → μ' a i = μ a i := by
  have hul := usS_lt hI day y (Nat.le_refl (nD D 2))
  intro rest
  induction rest with
  | nil =>
    intro q fu μ1 hq _ hf hno hF
    obtain ⟨fu, rfl⟩ : ∃ q, fu = q + 1 := ⟨fu - 1, by omega⟩
    have hlen : 64 ≤ q := by
      have : (cSets.drop q).length = 0 := by rw [hq]; rfl
      rw [List.length_drop, show cSets.length = 64 from rfl] at this
      omega
    sorry
  | cons s rest ih =>
    intro q fu μ1 hq hinc hf hno hF
    sorry
end TURN2
