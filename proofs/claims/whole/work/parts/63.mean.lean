-- ===== whom a sherd may mean: what the class notes of it =====
def hisM (μ : MU) (sa ma : Nat) : Bool := decide ((μ sa 1 = 0 ∨ μ sa 1 = μ ma 3) ∧ (μ sa 2 < 0 ∨ μ sa 2 = μ ma 0))
def exM (μ : MU) (sa ma : Nat) : Bool := decide (μ sa 0 = μ ma 2) && hisM μ sa ma
def neM (μ : MU) (sa ma : Nat) : Bool := decide (¬ μ sa 0 = μ ma 2) && (decide (apS (μ sa 0) (μ ma 2) ≤ 1) && hisM μ sa ma)
theorem apS_lt (v w : Int32) : apS v w < 2 ^ 31 := by
  have h1 := tabS_le (ltS v.toNatClampNeg) (ltS w.toNatClampNeg) (nlS 6 v.toNatClampNeg) (nlS 6 w.toNatClampNeg)
  have h2 := nlS_le 6 v.toNatClampNeg
  have h3 := nlS_le 6 w.toNatClampNeg
  unfold apS
  omega
section MEAN
variable {n : Nat} {st : Nat → Nat} {S : SH} {μ : MU} {x b m c : Nat} {D : DR}
theorem k_mean48 (hC : ShC S c) {s i : Nat} (hs : s < 40) (hi : i < 16) (h1 : nmB (μ (c + 78 + s) 0) = true) (h2 : nmB (μ (c + 22 + 2 * i) 2) = true) (p q : Bool) :
    ∃ μ' : MU, b_X2_mean_48 (some c) (some (c + 78 + s)) (some (c + 22 + 2 * i)) (nI i) (bI p) (bI q) (mkH n st S μ) = some (mkH n st S μ') ∧ μ' (c + 78 + s) 9 = (if decide (μ (c + 78 + s) 0 = μ (c + 22 + 2 * i) 2) && (p && q) then μ (c + 78 + s) 9 ||| nI (2 ^ i) else μ (c + 78 + s) 9) ∧ μ' (c + 78 + s) 10 = (if decide (¬ μ (c + 78 + s) 0 = μ (c + 22 + 2 * i) 2) && (decide (apS (μ (c + 78 + s) 0) (μ (c + 22 + 2 * i) 2) ≤ 1) && (p && q)) then μ (c + 78 + s) 10 ||| nI (2 ^ i) else μ (c + 78 + s) 10) ∧ ∀ a j, ¬ a = c + 13 → ¬ (a = c + 78 + s ∧ (j = 9 ∨ j = 10)) → μ' a j = μ a j := by
  cases p with
  | false => exact ⟨μ, by simp only [b_X2_mean_48, ite_bI0, if_false, Bool.false_eq_true], by simp, by simp, fun _ _ _ _ => rfl⟩
  | true =>
    cases q with
    | false => exact ⟨μ, by simp only [b_X2_mean_48, ite_bI0, if_false, if_true, Bool.false_eq_true], by simp, by simp, fun _ _ _ _ => rfl⟩
    | true =>
      by_cases he : μ (c + 78 + s) 0 = μ (c + 22 + 2 * i) 2
      · refine ⟨up2 μ (c + 78 + s) 9 (μ (c + 78 + s) 9 ||| nI (2 ^ i)), ?_, by rw [up2_same]; simp [he], by rw [up2_ne (by omega)]; simp [he], fun a j h1 h2 => by rw [up2_ne (by omega)]⟩
        simp (disch := omega) only [b_X2_mean_48, ite_bI0, if_true, oSheI hC, oManI hC, some_bind, he, shl1, oSheP hC]
      · obtain ⟨ka, ea, -, la, -⟩ := nmB_ex h1
        obtain ⟨kb, eb, -, lb, -⟩ := nmB_ex h2
        obtain ⟨μ1, g1, g2⟩ := k_apart (n := n) (st := st) (μ := μ) hC.lin la lb
        rw [← ea, ← eb] at g1
        have al := apS_lt (μ (c + 78 + s) 0) (μ (c + 22 + 2 * i) 2)
        by_cases h3 : apS (μ (c + 78 + s) 0) (μ (c + 22 + 2 * i) 2) ≤ 1
        · refine ⟨up2 μ1 (c + 78 + s) 10 (μ (c + 78 + s) 10 ||| nI (2 ^ i)), ?_, by rw [up2_ne (by omega), g2 _ _ (by omega)]; simp [he], by rw [up2_same]; simp [he, h3], fun a j h1 h2 => by rw [up2_ne (by omega), g2 _ _ h1]⟩
          simp (disch := omega) only [b_X2_mean_48, ite_bI0, if_true, oSheI hC, oManI hC, some_bind, he, if_false, cR19 hC, g1, lit_gt, natF, shl1, oSheP hC]
          rw [g2 _ _ (by omega)]
        · refine ⟨μ1, ?_, by rw [g2 _ _ (by omega)]; simp [he], by rw [g2 _ _ (by omega)]; simp [h3], fun a j h1 h2 => g2 _ _ h1⟩
          simp (disch := omega) only [b_X2_mean_48, ite_bI0, if_true, oSheI hC, oManI hC, some_bind, he, if_false, cR19 hC, g1, lit_gt, natT]
theorem k_mean (hC : ShC S c) {s i : Nat} (hs : s < 40) (hi : i < 16) (h1 : nmB (μ (c + 78 + s) 0) = true) (h2 : nmB (μ (c + 22 + 2 * i) 2) = true) :
    ∃ μ' : MU, f_X2_mean (some c) (some (c + 78 + s)) (some (c + 22 + 2 * i)) (nI i) (mkH n st S μ) = some (mkH n st S μ') ∧ μ' (c + 78 + s) 9 = (if exM μ (c + 78 + s) (c + 22 + 2 * i) then μ (c + 78 + s) 9 ||| nI (2 ^ i) else μ (c + 78 + s) 9) ∧ μ' (c + 78 + s) 10 = (if neM μ (c + 78 + s) (c + 22 + 2 * i) then μ (c + 78 + s) 10 ||| nI (2 ^ i) else μ (c + 78 + s) 10) ∧ ∀ a j, ¬ a = c + 13 → ¬ (a = c + 78 + s ∧ (j = 9 ∨ j = 10)) → μ' a j = μ a j := by
  obtain ⟨μ', g1, g2, g3, g4⟩ := k_mean48 (n := n) (st := st) (μ := μ) hC hs hi h1 h2 (decide (μ (c + 78 + s) 1 = 0 ∨ μ (c + 78 + s) 1 = μ (c + 22 + 2 * i) 3)) (decide (μ (c + 78 + s) 2 < 0 ∨ μ (c + 78 + s) 2 = μ (c + 22 + 2 * i) 0))
  have eh : (decide (μ (c + 78 + s) 1 = 0 ∨ μ (c + 78 + s) 1 = μ (c + 22 + 2 * i) 3) && decide (μ (c + 78 + s) 2 < 0 ∨ μ (c + 78 + s) 2 = μ (c + 22 + 2 * i) 0)) = hisM μ (c + 78 + s) (c + 22 + 2 * i) := by
    unfold hisM
    rw [Bool.decide_and]
  rw [eh] at g2 g3
  refine ⟨μ', ?_, g2, g3, g4⟩
  rw [← g1]
  have b23 : ∀ p : Bool, b_X2_mean_23 (some c) (some (c + 78 + s)) (some (c + 22 + 2 * i)) (nI i) (bI p) (mkH n st S μ) = b_X2_mean_48 (some c) (some (c + 78 + s)) (some (c + 22 + 2 * i)) (nI i) (bI p) (bI (decide (μ (c + 78 + s) 2 < 0 ∨ μ (c + 78 + s) 2 = μ (c + 22 + 2 * i) 0))) (mkH n st S μ) := by
    intro p
    by_cases h3 : μ (c + 78 + s) 2 < 0
    · simp (disch := omega) only [b_X2_mean_23, oSheI hC, some_bind, h3, if_true, true_or, decide_true]; rfl
    · by_cases h4 : μ (c + 78 + s) 2 = μ (c + 22 + 2 * i) 0
      · simp (disch := omega) only [b_X2_mean_23, oSheI hC, oManI hC, some_bind]
        rw [if_neg h3, if_pos h4, decide_eq_true (Or.inr h4)]; rfl
      · simp (disch := omega) only [b_X2_mean_23, oSheI hC, oManI hC, some_bind, h3, if_false, h4, or_false, decide_false]; rfl
  rw [← b23]
  by_cases h3 : μ (c + 78 + s) 1 = 0
  · simp (disch := omega) only [f_X2_mean, oSheI hC, some_bind, h3, if_true, true_or, decide_true]; rfl
  · by_cases h4 : μ (c + 78 + s) 1 = μ (c + 22 + 2 * i) 3
    · simp (disch := omega) only [f_X2_mean, oSheI hC, oManI hC, some_bind, h3, if_false]
      simp only [h4, if_true, or_true, decide_true]; rfl
    · simp (disch := omega) only [f_X2_mean, oSheI hC, oManI hC, some_bind, h3, if_false, h4, or_false, decide_false]; rfl
/-- the row of bits grows by one -/
theorem biN_or (p : Nat → Bool) (j : Nat) (v : Bool) (h : p j = v) : (if v then nI (biN p j) ||| nI (2 ^ j) else nI (biN p j)) = nI (biN p (j + 1)) := by
  subst h
  by_cases hp : p j = true
  · rw [if_pos hp, orN, or_pow (biN_lt p j)]
    simp [biN, hp]
  · simp [biN, hp]
def FrS (c s : Nat) (μ μ' : MU) : Prop := ∀ a j, ¬ a = c + 13 → ¬ (a = c + 78 + s ∧ (j = 9 ∨ j = 10)) → μ' a j = μ a j
theorem FrS.ex {c s i : Nat} {μ μ' : MU} (h : FrS c s μ μ') (hi : i < 16) : exM μ' (c + 78 + s) (c + 22 + 2 * i) = exM μ (c + 78 + s) (c + 22 + 2 * i) := by
  unfold exM hisM
  rw [h (c + 78 + s) 0 (by omega) (by omega), h (c + 78 + s) 1 (by omega) (by omega), h (c + 78 + s) 2 (by omega) (by omega), h (c + 22 + 2 * i) 0 (by omega) (by omega), h (c + 22 + 2 * i) 2 (by omega) (by omega), h (c + 22 + 2 * i) 3 (by omega) (by omega)]
theorem FrS.ne {c s i : Nat} {μ μ' : MU} (h : FrS c s μ μ') (hi : i < 16) : neM μ' (c + 78 + s) (c + 22 + 2 * i) = neM μ (c + 78 + s) (c + 22 + 2 * i) := by
  unfold neM hisM
  rw [h (c + 78 + s) 0 (by omega) (by omega), h (c + 78 + s) 1 (by omega) (by omega), h (c + 78 + s) 2 (by omega) (by omega), h (c + 22 + 2 * i) 0 (by omega) (by omega), h (c + 22 + 2 * i) 2 (by omega) (by omega), h (c + 22 + 2 * i) 3 (by omega) (by omega)]
theorem k_addSherdL (hC : ShC S c) {s N : Nat} (hs : s < 40) (hN : N ≤ 16) (hc : μ c 6 = nI N) (h1 : nmB (μ (c + 78 + s) 0) = true) (h2 : ∀ i, i < N → nmB (μ (c + 22 + 2 * i) 2) = true) :
    ∀ k j fu (μ1 : MU), j + k = N → k < fu → FrS c s μ μ1 → μ1 (c + 78 + s) 9 = nI (biN (fun i => exM μ (c + 78 + s) (c + 22 + 2 * i)) j) → μ1 (c + 78 + s) 10 = nI (biN (fun i => neM μ (c + 78 + s) (c + 22 + 2 * i)) j) → ∃ μ' : MU, b_X2_addSherd_20 fu (some c) (some (c + 78 + s)) (nI j) (mkH n st S μ1) = some (μ c 12 + 1 - 1, mkH n st S (up2 μ' c 12 (μ c 12 + 1))) ∧ FrS c s μ μ' ∧ μ' (c + 78 + s) 9 = nI (biN (fun i => exM μ (c + 78 + s) (c + 22 + 2 * i)) N) ∧ μ' (c + 78 + s) 10 = nI (biN (fun i => neM μ (c + 78 + s) (c + 22 + 2 * i)) N) := by
  intro k
  induction k with
  | zero =>
    intro j fu μ1 hj hf hF h9 h10
    obtain ⟨fu, rfl⟩ : ∃ q, fu = q + 1 := ⟨fu - 1, by omega⟩
    obtain rfl : j = N := by omega
    refine ⟨μ1, ?_, hF, h9, h10⟩
    have q6 : μ1 c 6 = nI j := by rw [hF c 6 (by omega) (by omega), hc]
    have q12 : μ1 c 12 = μ c 12 := hF c 12 (by omega) (by omega)
    simp (disch := omega) only [b_X2_addSherd_20, cI6 hC, some_bind, q6, nn_lt, natF, if_false, cI12 hC, cP12 hC, up2_same, q12]
  | succ k ih =>
    intro j fu μ1 hj hf hF h9 h10
    obtain ⟨fu, rfl⟩ : ∃ q, fu = q + 1 := ⟨fu - 1, by omega⟩
    have q6 : μ1 c 6 = nI N := by rw [hF c 6 (by omega) (by omega), hc]
    obtain ⟨μ2, g1, g2, g3, g4⟩ := k_mean (n := n) (st := st) (μ := μ1) (S := S) hC hs (i := j) (by omega) (by rw [hF _ _ (by omega) (by omega)]; exact h1) (by rw [hF _ _ (by omega) (by omega)]; exact h2 j (by omega))
    rw [hF.ex (by omega), h9] at g2
    rw [hF.ne (by omega), h10] at g3
    replace g2 := g2.trans (biN_or (fun i => exM μ (c + 78 + s) (c + 22 + 2 * i)) j (exM μ (c + 78 + s) (c + 22 + 2 * j)) rfl)
    replace g3 := g3.trans (biN_or (fun i => neM μ (c + 78 + s) (c + 22 + 2 * i)) j (neM μ (c + 78 + s) (c + 22 + 2 * j)) rfl)
    have hF2 : FrS c s μ μ2 := fun a j h1 h2 => by rw [g4 a j h1 h2, hF a j h1 h2]
    obtain ⟨μ', r1, r2⟩ := ih (j + 1) fu μ2 (by omega) (by omega) hF2 g2 g3
    refine ⟨μ', ?_, r2⟩
    rw [← r1]
    simp (disch := omega) only [b_X2_addSherd_20, cI6 hC, some_bind, q6, nn_lt, natT, if_true, cR5 hC, cEmen hC, cck hC, g1, nI_1]
def FrT (c : Nat) (μ μ' : MU) : Prop := ∀ a j, ¬ a = c + 13 → ¬ (c + 78 ≤ a ∧ a < c + 118 ∧ (j = 9 ∨ j = 10)) → μ' a j = μ a j
theorem FrT.ex {c s i : Nat} {μ μ' : MU} (h : FrT c μ μ') (hi : i < 16) (hs : s < 40) : exM μ' (c + 78 + s) (c + 22 + 2 * i) = exM μ (c + 78 + s) (c + 22 + 2 * i) := by
  unfold exM hisM
  rw [h (c + 78 + s) 0 (by omega) (by omega), h (c + 78 + s) 1 (by omega) (by omega), h (c + 78 + s) 2 (by omega) (by omega), h (c + 22 + 2 * i) 0 (by omega) (by omega), h (c + 22 + 2 * i) 2 (by omega) (by omega), h (c + 22 + 2 * i) 3 (by omega) (by omega)]
theorem FrT.ne {c s i : Nat} {μ μ' : MU} (h : FrT c μ μ') (hi : i < 16) (hs : s < 40) : neM μ' (c + 78 + s) (c + 22 + 2 * i) = neM μ (c + 78 + s) (c + 22 + 2 * i) := by
  unfold neM hisM
  rw [h (c + 78 + s) 0 (by omega) (by omega), h (c + 78 + s) 1 (by omega) (by omega), h (c + 78 + s) 2 (by omega) (by omega), h (c + 22 + 2 * i) 0 (by omega) (by omega), h (c + 22 + 2 * i) 2 (by omega) (by omega), h (c + 22 + 2 * i) 3 (by omega) (by omega)]
theorem k_addManL (hC : ShC S c) {N M : Nat} (hN : N < 16) (hM : M ≤ 40) (hc : μ c 6 = nI N) (hm : μ c 12 = nI M) (h1 : ∀ s, s < M → nmB (μ (c + 78 + s) 0) = true) (h2 : nmB (μ (c + 22 + 2 * N) 2) = true) :
    ∀ k j fu (μ1 : MU), j + k = M → k < fu → FrT c μ μ1 → (∀ s, s < 40 → μ1 (c + 78 + s) 9 = if s < j ∧ exM μ (c + 78 + s) (c + 22 + 2 * N) = true then μ (c + 78 + s) 9 ||| nI (2 ^ N) else μ (c + 78 + s) 9) → (∀ s, s < 40 → μ1 (c + 78 + s) 10 = if s < j ∧ neM μ (c + 78 + s) (c + 22 + 2 * N) = true then μ (c + 78 + s) 10 ||| nI (2 ^ N) else μ (c + 78 + s) 10) → ∃ μ' : MU, b_X2_addMan_24 fu (some c) (some (c + 22 + 2 * N)) (nI j) (mkH n st S μ1) = some (nI N, mkH n st S (up2 μ' c 6 (nI (N + 1)))) ∧ FrT c μ μ' ∧ (∀ s, s < M → μ' (c + 78 + s) 9 = if exM μ (c + 78 + s) (c + 22 + 2 * N) = true then μ (c + 78 + s) 9 ||| nI (2 ^ N) else μ (c + 78 + s) 9) ∧ (∀ s, s < M → μ' (c + 78 + s) 10 = if neM μ (c + 78 + s) (c + 22 + 2 * N) = true then μ (c + 78 + s) 10 ||| nI (2 ^ N) else μ (c + 78 + s) 10) := by
  intro k
  induction k with
  | zero =>
    intro j fu μ1 hj hf hF h9 h10
    obtain ⟨fu, rfl⟩ : ∃ q, fu = q + 1 := ⟨fu - 1, by omega⟩
    obtain rfl : j = M := by omega
    refine ⟨μ1, ?_, hF, fun s hs => ?_, fun s hs => ?_⟩
    · have q6 : μ1 c 6 = nI N := by rw [hF c 6 (by omega) (by omega), hc]
      have q12 : μ1 c 12 = nI j := by rw [hF c 12 (by omega) (by omega), hm]
      simp (disch := omega) only [b_X2_addMan_24, cI12 hC, some_bind, q12, nn_lt, natF, if_false, cI6 hC, cP6 hC, up2_same, q6, nI_1, nI_m1]
    · rw [h9 s (by omega)]; simp [hs]
    · rw [h10 s (by omega)]; simp [hs]
  | succ k ih =>
    intro j fu μ1 hj hf hF h9 h10
    obtain ⟨fu, rfl⟩ : ∃ q, fu = q + 1 := ⟨fu - 1, by omega⟩
    have q6 : μ1 c 6 = nI N := by rw [hF c 6 (by omega) (by omega), hc]
    have q12 : μ1 c 12 = nI M := by rw [hF c 12 (by omega) (by omega), hm]
    obtain ⟨μ2, g1, g2, g3, g4⟩ := k_mean (n := n) (st := st) (μ := μ1) (S := S) hC (s := j) (i := N) (by omega) (by omega) (by rw [hF _ _ (by omega) (by omega)]; exact h1 j (by omega)) (by rw [hF _ _ (by omega) (by omega)]; exact h2)
    have h9j : μ1 (c + 78 + j) 9 = μ (c + 78 + j) 9 := by rw [h9 j (by omega), if_neg (fun h => Nat.lt_irrefl _ h.1)]
    have h10j : μ1 (c + 78 + j) 10 = μ (c + 78 + j) 10 := by rw [h10 j (by omega), if_neg (fun h => Nat.lt_irrefl _ h.1)]
    rw [hF.ex (by omega) (by omega), h9j] at g2
    rw [hF.ne (by omega) (by omega), h10j] at g3
    have hF2 : FrT c μ μ2 := fun a i q1 q2 => by rw [g4 a i q1 (by omega), hF a i q1 q2]
    obtain ⟨μ', r1, r2⟩ := ih (j + 1) fu μ2 (by omega) (by omega) hF2 (by
      intro s hs
      by_cases hsj : s = j
      · subst hsj; rw [g2]; simp
      · rw [g4 _ _ (by omega) (by omega), h9 s hs]
        have : (s < j + 1) = (s < j) := propext ⟨fun h => by omega, fun h => by omega⟩
        simp only [this]) (by
      intro s hs
      by_cases hsj : s = j
      · subst hsj; rw [g3]; simp
      · rw [g4 _ _ (by omega) (by omega), h10 s hs]
        have : (s < j + 1) = (s < j) := propext ⟨fun h => by omega, fun h => by omega⟩
        simp only [this])
    refine ⟨μ', ?_, r2⟩
    rw [← r1]
    simp (disch := omega) only [b_X2_addMan_24, cI12 hC, some_bind, q12, nn_lt, natT, if_true, cR11 hC, cEsherds hC, cI6 hC, q6, cck hC, g1, nI_1]
end MEAN
