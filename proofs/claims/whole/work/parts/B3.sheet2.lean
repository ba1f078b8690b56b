-- ===== sheet =====
def usB (μ : MU) (x r k : Nat) : Bool := decide (μ (x + 191) k = nI r) || (decide (μ (x + 195) k = 4) && decide (μ (x + 196) k = nI r))
section SHEET2
variable {n n' : Nat} {st : Nat → Nat} {S S' : SH} {μ μ' : MU} {x b m c l : Nat} {D : DR}
theorem usedR_iff {r : Nat} : usedR μ x r ↔ anyS (usB μ x r) 4 0 = true := by
  unfold usedR
  constructor
  · rintro ⟨k, hk, h⟩
    have hb : usB μ x r k = true := by
      unfold usB
      rcases h with h | ⟨h1, h2⟩
      · simp [h]
      · simp [h1, h2]
    rcases (by omega : k = 0 ∨ k = 1 ∨ k = 2 ∨ k = 3) with rfl | rfl | rfl | rfl <;> simp [anyS, hb]
  · intro h
    have : usB μ x r 0 = true ∨ usB μ x r 1 = true ∨ usB μ x r 2 = true ∨ usB μ x r 3 = true := by
      simp only [anyS, Bool.or_eq_true] at h
      simpa [Nat.reduceAdd] using h
    have g : ∀ k, usB μ x r k = true → μ (x + 191) k = nI r ∨ (μ (x + 195) k = 4 ∧ μ (x + 196) k = nI r) := by
      intro k hk
      simpa [usB] using hk
    rcases this with h | h | h | h
    · exact ⟨0, by omega, g 0 h⟩
    · exact ⟨1, by omega, g 1 h⟩
    · exact ⟨2, by omega, g 2 h⟩
    · exact ⟨3, by omega, g 3 h⟩
/-- seven places do not hold eight rows -/
theorem pigeon : ∀ (N : Nat) (L : List Int32), N < 2 ^ 31 → (∀ r, r < N → nI r ∈ L) → N ≤ L.length := by
  intro N
  induction N with
  | zero => intro L _ _; omega
  | succ N ih =>
    intro L hN h
    have hm := h N (by omega)
    have := ih (L.erase (nI N)) (by omega) (fun r hr => (List.mem_erase_of_ne (fun e => by
      have := (nI_eq (by omega) (by omega)).mp e
      omega)).mpr (h r (by omega)))
    rw [List.length_erase_of_mem hm] at this
    have : 0 < L.length := List.length_pos_of_mem hm
    omega
theorem free_ex {k : Nat} (hk : k < 4) (h : μ (x + 191) k = -1) : ∃ r, r < 8 ∧ ¬ usedR μ x r := by
  refine Classical.byContradiction fun hc => ?_
  have hall : ∀ r, r < 8 → usedR μ x r := fun r hr => Classical.byContradiction fun q => hc ⟨r, hr, q⟩
  obtain ⟨L, hL⟩ : ∃ L : List Int32, L = [μ (x + 191) 0, μ (x + 191) 1, μ (x + 191) 2, μ (x + 191) 3, μ (x + 196) 0, μ (x + 196) 1, μ (x + 196) 2, μ (x + 196) 3] := ⟨_, rfl⟩
  have h1 : (-1 : Int32) ∈ L := by
    rw [hL]
    rcases (by omega : k = 0 ∨ k = 1 ∨ k = 2 ∨ k = 3) with rfl | rfl | rfl | rfl <;> simp [h]
  have h2 : L.length = 8 := by rw [hL]; rfl
  have := pigeon 8 (L.erase (-1)) (by omega) (fun r hr => (List.mem_erase_of_ne (n1_ne (by omega))).mpr (by
    obtain ⟨q, hq, hu⟩ := hall r hr
    rw [hL]
    rcases (by omega : q = 0 ∨ q = 1 ∨ q = 2 ∨ q = 3) with rfl | rfl | rfl | rfl <;> rcases hu with hu | ⟨-, hu⟩ <;> simp [← hu]))
  rw [List.length_erase_of_mem h1, h2] at this
  omega
theorem r_free12 (hS : ShM S (x + 175)) (k4 : Option Nat → Int32 → Int32 → Option Int32) {r : Nat} (hr : r < 8) : ∀ k j fu (u : Bool), j + k = 4 → k < fu → b_X12_freeRow_12 k4 (mkH n st S μ) fu (some (x + 175)) (nI r) (bI u) (nI j) = if (u || anyS (usB μ x r) k j) then k4 (some (x + 175)) (nI (r + 1)) 1 else k4 (some (x + 175)) (nI r) 0 := by
  intro k
  induction k with
  | zero =>
    intro j fu u hj hf
    obtain ⟨fu, rfl⟩ : ∃ q, fu = q + 1 := ⟨fu - 1, by omega⟩
    obtain rfl : j = 4 := by omega
    have e0 : nI r + 0 = nI r := nI_add r 0
    cases u with
    | false =>
      simp (disch := omega) only [b_X12_freeRow_12, lit_lt, natF, if_false, bI_if0, Bool.false_eq_true, Bool.false_or, anyS, e0]
      rfl
    | true =>
      have b1 : ¬ bI true = 0 := by decide
      simp (disch := omega) only [b_X12_freeRow_12, lit_lt, natF, if_false, b1, Bool.true_or, if_true, nI_1]
      rfl
  | succ k ih =>
    intro j fu u hj hf
    obtain ⟨fu, rfl⟩ : ∃ q, fu = q + 1 := ⟨fu - 1, by omega⟩
    have e31 : aI (mkH n st S μ) (some (x + 175 + 16)) (nI j) = some (μ (x + 191) j) := mA31 hS (by omega)
    have e35 : aI (mkH n st S μ) (some (x + 175 + 20)) (nI j) = some (μ (x + 195) j) := mA35 hS (by omega)
    have e36 : aI (mkH n st S μ) (some (x + 175 + 21)) (nI j) = some (μ (x + 196) j) := mA36 hS (by omega)
    have o1 : bI u ||| 1 = bI (u || true) := by cases u <;> decide
    have o0 : bI u ||| 0 = bI (u || false) := by cases u <;> decide
    have hany : anyS (usB μ x r) (k + 1) j = (usB μ x r j || anyS (usB μ x r) k (j + 1)) := rfl
    rw [hany, ← Bool.or_assoc]
    by_cases c1 : μ (x + 191) j = nI r
    · have hu : usB μ x r j = true := by simp [usB, c1]
      rw [hu, ← ih (j + 1) fu (u || true) (by omega) (by omega)]
      simp (disch := omega) only [b_X12_freeRow_12, b_X12_freeRow_53, lit_lt, natT, if_true, mR31 hS, some_bind, e31, c1, o1, nI_1]
    · by_cases c2 : μ (x + 195) j = 4
      · by_cases c3 : μ (x + 196) j = nI r
        · have hu : usB μ x r j = true := by simp [usB, c2, c3]
          rw [hu, ← ih (j + 1) fu (u || true) (by omega) (by omega)]
          simp (disch := omega) only [b_X12_freeRow_12, b_X12_freeRow_53, lit_lt, natT, if_true, mR31 hS, some_bind, e31, c1, if_false, mR35 hS, e35, c2, mR36 hS, e36, c3, o1, nI_1]
        · have hu : usB μ x r j = false := by simp [usB, c1, c3]
          rw [hu, ← ih (j + 1) fu (u || false) (by omega) (by omega)]
          simp (disch := omega) only [b_X12_freeRow_12, b_X12_freeRow_53, lit_lt, natT, if_true, mR31 hS, some_bind, e31, c1, if_false, mR35 hS, e35, c2, mR36 hS, e36, c3, o0, nI_1]
      · have hu : usB μ x r j = false := by simp [usB, c1, c2]
        rw [hu, ← ih (j + 1) fu (u || false) (by omega) (by omega)]
        simp (disch := omega) only [b_X12_freeRow_12, b_X12_freeRow_53, lit_lt, natT, if_true, mR31 hS, some_bind, e31, c1, if_false, mR35 hS, e35, c2, o0, nI_1]
theorem r_freeL (hS : ShM S (x + 175)) : ∀ k j fu, j + k = 8 → k + 2 < fu → (∃ r, j ≤ r ∧ r < 8 ∧ ¬ usedR μ x r) → ∃ r, r < 8 ∧ ¬ usedR μ x r ∧ b_X12_freeRow_4 (mkH n st S μ) fu (some (x + 175)) (nI j) 1 = some (nI r) := by
  obtain ⟨fq, hfq, hfl⟩ : ∃ q, FU = q ∧ 301 < q := ⟨FU, rfl, by decide⟩
  have i10 : ¬ (1 : Int32) = 0 := by decide
  intro k
  induction k with
  | zero => intro j fu hj hf h; obtain ⟨r, r1, r2, -⟩ := h; omega
  | succ k ih =>
    intro j fu hj hf h
    obtain ⟨fu, rfl⟩ : ∃ q, fu = q + 1 := ⟨fu - 1, by omega⟩
    have h12 := r_free12 (n := n) (st := st) (μ := μ) (x := x) hS (b_X12_freeRow_4 (mkH n st S μ) fu) (r := j) (by omega) 4 0 fq false (by omega) (by omega)
    rw [Bool.false_or] at h12
    have e : b_X12_freeRow_4 (mkH n st S μ) (fu + 1) (some (x + 175)) (nI j) 1 = b_X12_freeRow_12 (b_X12_freeRow_4 (mkH n st S μ) fu) (mkH n st S μ) fq (some (x + 175)) (nI j) (bI false) (nI 0) := by
      rw [← hfq]
      simp only [b_X12_freeRow_4, i10, if_false]
      rfl
    rw [e, h12]
    by_cases hu : usedR μ x j
    · rw [if_pos (usedR_iff.mp hu)]
      refine ih (j + 1) fu (by omega) (by omega) ?_
      obtain ⟨r, r1, r2, r3⟩ := h
      refine ⟨r, ?_, r2, r3⟩
      rcases Nat.eq_or_lt_of_le r1 with h | h
      · subst h; exact absurd hu r3
      · exact h
    · rw [if_neg (fun q => hu (usedR_iff.mpr q))]
      refine ⟨j, by omega, hu, ?_⟩
      obtain ⟨fw, rfl⟩ : ∃ q, fu = q + 1 := ⟨fu - 1, by omega⟩
      simp only [b_X12_freeRow_4, if_true]
theorem r_freeRow (hS : ShM S (x + 175)) {k : Nat} (hk : k < 4) (h : μ (x + 191) k = -1) : ∃ r, r < 8 ∧ ¬ usedR μ x r ∧ f_X12_freeRow (some (x + 175)) (mkH n st S μ) = some (nI r) := by
  obtain ⟨fu, hfu, hfl⟩ : ∃ q, FU = q ∧ 301 < q := ⟨FU, rfl, by decide⟩
  obtain ⟨r, r1, r2⟩ := free_ex hk h
  unfold f_X12_freeRow
  rw [hfu]
  exact r_freeL hS 8 0 fu (by omega) (by omega) ⟨r, by omega, r1, r2⟩
theorem r_sheetL (hS : ShM S m) {r : Nat} (hr : r < 8) : ∀ k j fu (μ : MU), j + k = 40 → k < fu → ∃ μ', b_X12_sheet_85 fu (some m) (nI r) (nI j) (mkH n st S μ) = some (1, mkH n st S μ') ∧ (∀ i, 40 * r + j ≤ i → i < 40 * r + 40 → μ' (m + 19) i = 0) ∧ ∀ a i, ¬ (a = m + 19 ∧ 40 * r + j ≤ i ∧ i < 40 * r + 40) → μ' a i = μ a i := by
  intro k
  induction k with
  | zero =>
    intro j fu μ hj hf
    obtain ⟨fu, rfl⟩ : ∃ q, fu = q + 1 := ⟨fu - 1, by omega⟩
    obtain rfl : j = 40 := by omega
    exact ⟨μ, by simp (disch := omega) only [b_X12_sheet_85, lit_lt, natF, if_false], fun i h1 h2 => absurd h2 (by omega), fun _ _ _ => rfl⟩
  | succ k ih =>
    intro j fu μ hj hf
    obtain ⟨fu, rfl⟩ : ∃ q, fu = q + 1 := ⟨fu - 1, by omega⟩
    obtain ⟨μ', r1, r2, r3⟩ := ih (j + 1) fu (up2 μ (m + 19) (40 * r + j) 0) (by omega) (by omega)
    refine ⟨μ', ?_, fun i h1 h2 => ?_, fun a i h => by rw [r3 a i (by omega), up2_ne (by omega)]⟩
    · rw [← r1]
      simp (disch := omega) only [b_X12_sheet_85, lit_lt, natT, if_true, mR34 hS, some_bind, lit_mul, nI_add, mS34 hS, nI_1]
    · by_cases e : i = 40 * r + j
      · rw [r3 _ _ (by omega), e, up2_same]
      · exact r2 i (by omega) h2
end SHEET2
