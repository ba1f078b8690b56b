-- ===== is a sherd good =====
def gdF (D : DR) (s : Nat) : Nat → Int32
  | 0 => bI (decide (meS D s ≠ 0))
  | 1 => bI (surB D s)
  | 2 => bI (decide (D (691 + s) ≠ 0))
  | 3 => bI (decide (¬ D (731 + s) < 0))
  | 4 => bI (decide (¬ D (771 + s) < 0))
  | 5 => bI (decide (D (811 + s) ≠ 0))
  | _ => D (851 + s)
def gooS (D : DR) (T : Nat → Int32) (N s : Nat) : Bool := decide (ruT T N (gdF D s) 0 (bI (decide (meS D s ≠ 0))) ≠ 0)
theorem if_bI {α : Type} (p : Prop) [Decidable p] (f : Int32 → α) : (if p then f 0 else f 1) = f (bI (decide (¬ p))) := by
  by_cases h : p
  · simp [h, bI]
  · simp [h, bI]
theorem if_bI' {α : Type} (p : Prop) [Decidable p] (f : Int32 → α) : (if p then f 1 else f 0) = f (bI (decide p)) := by
  by_cases h : p
  · simp [h, bI]
  · simp [h, bI]
section GOOD
variable {n : Nat} {st : Nat → Nat} {S : SH} {μ : MU} {x b m c l : Nat} {T : Nat → Int32} {N : Nat} {D : DR}
theorem nm0_pos {v : Int32} (h : v = 0 ∨ nmB v = true) : (0 < v) = (v ≠ 0) := by
  rcases h with h | h
  · subst h; simp
  · obtain ⟨k, rfl, k1, k2, -⟩ := nmB_ex h
    have e1 : (0 : Int32) < nI k := nI_lt (a := 0) k1 (by omega)
    have e2 : nI k ≠ 0 := fun h => by have := (nI_eq (a := k) (b := 0) (by omega) (by omega)).mp h; omega
    simp [e1, e2]
theorem hm_pos (D : DR) (s : Nat) : (0 < hmS D s) = (meS D s ≠ 0) := by
  unfold hmS
  by_cases h0 : meS D s = 0
  · rw [if_pos h0]; simp [h0]
  · rw [if_neg h0]
    have : ∀ v : Int32, (v = 3 ∨ v = 2 ∨ v = 1) → 0 < v := by intro v h; rcases h with rfl | rfl | rfl <;> decide
    have h2 : 0 < (if 1 < popN 16 (meS D s) then (3 : Int32) else if exN D s = 0 then 2 else 1) := by
      apply this
      split
      · exact Or.inl rfl
      · split
        · exact Or.inr (Or.inl rfl)
        · exact Or.inr (Or.inr rfl)
    simp [h0, h2]
theorem hm_one (hI : Inv D) (s : Nat) : (hmS D s = 1) = (surB D s = true) := by
  have hz := popN_zero 16 (meS D s) (meS_lt hI s)
  have hzx := popN_zero 16 (exN D s) (exN_lt hI s)
  apply propext
  constructor
  · intro h
    unfold hmS at h
    by_cases h0 : meS D s = 0
    · rw [if_pos h0] at h; exact absurd h (by decide)
    · rw [if_neg h0] at h
      by_cases h1 : 1 < popN 16 (meS D s)
      · rw [if_pos h1] at h; exact absurd h (by decide)
      · rw [if_neg h1] at h
        by_cases h2 : exN D s = 0
        · rw [if_pos h2] at h; exact absurd h (by decide)
        · have hme : meS D s = exN D s := by rw [meS, if_neg h2]
          rw [hme] at h1
          exact decide_eq_true (show popN 16 (exN D s) = 1 by
            have : ¬ popN 16 (exN D s) = 0 := fun h => h2 (hzx.mp h)
            omega)
  · intro h
    have h1 : popN 16 (exN D s) = 1 := of_decide_eq_true h
    have h2 : ¬ exN D s = 0 := fun h => by have := hzx.mpr h; omega
    have hme : meS D s = exN D s := by rw [meS, if_neg h2]
    unfold hmS
    rw [hme, if_neg h2, if_neg (by omega), if_neg h2]
theorem k_isGood (hX : ShX S x) (hs : Sim μ (x + 1) D) (hI : Inv D) (hl : l < 5) (hU : LawU μ (x + 1 + 118 + 6 * l) T N) (hN : N ≤ 300) {s : Nat} (h5 : s < nD D 5) : ∃ μ', f_X3_isGood (some (x + 1 + 118 + 6 * l)) (some (x + 1 + 78 + s)) (mkH n st S μ) = some (bI (gooS D T N s), mkH n st S μ') ∧ ∀ a j, ¬ a = x + 1 + 118 + 6 * l + 4 → ¬ a = x + 1 + 118 + 6 * l + 5 → μ' a j = μ a j := by
  have hC := hX.city
  have hL := hC.law l hl
  have b5 := hI.shes.2
  obtain ⟨L, hLe⟩ : ∃ L, L = x + 1 + 118 + 6 * l := ⟨_, rfl⟩
  have q1 := hs.she s 1 h5 (by omega)
  have q2 := hs.she s 2 h5 (by omega)
  have q3 := hs.she s 3 h5 (by omega)
  have q4 := hs.she s 4 h5 (by omega)
  have q5 := hs.she s 5 h5 (by omega)
  simp only [Nat.reduceMul, Nat.reduceAdd] at q1 q2 q3 q4 q5
  rw [← hLe] at hU hL ⊢
  obtain ⟨r6, hr6⟩ : ∃ q, D (851 + s) = bI q := by
    obtain ⟨k, hk, e⟩ := hI.sRdy s h5
    rcases (by omega : k = 0 ∨ k = 1) with rfl | rfl
    · exact ⟨false, e⟩
    · exact ⟨true, e⟩
  have kM := k_meant (n := n) (st := st) hC hs hI h5
  have hm := meS_lt hI s
  have hx : f_X3_isGood (some L) (some (x + 1 + 78 + s)) (mkH n st S μ) = b_X3_isGood_12 (some L) (some (x + 1 + 78 + s)) (bI (decide (meS D s ≠ 0))) (mkH n st S μ) := by
    simp (disch := omega) only [f_X3_isGood, oSheK hC, kM, some_bind, nI_eq0]
    exact if_bI (meS D s = 0) (fun q => b_X3_isGood_12 (some L) (some (x + 1 + 78 + s)) q (mkH n st S μ))
  rw [hx]
  rcases k_ask (n := n) (st := st) hL hU (i := 0) (by omega) with ⟨h1, h2⟩ | ⟨h1, h2, h3⟩
  · have h1' : f_X3_tells (some L) 0 (mkH n st S μ) = some 0 := h1
    refine ⟨μ, ?_, fun _ _ _ _ => rfl⟩
    simp only [b_X3_isGood_12, lck hL, h1', some_bind, if_true, rZ_bI, gooS, h2, bI_ne0]
  · have h1' : f_X3_tells (some L) 0 (mkH n st S μ) = some 1 := h1
    have n10 : ¬ (1 : Int32) = 0 := by decide
    obtain ⟨f0, hf0⟩ : ∃ q, q = decide (meS D s ≠ 0) := ⟨_, rfl⟩
    have h126 : ∀ (μ1 : MU) (q : Bool), (∀ a j, ¬ a = L + 4 → μ1 a j = μ a j) → b_X3_isGood_126 (some L) (some (x + 1 + 78 + s)) (some (L + 4)) 5 (bI q) (mkH n st S μ1) = (f_X3_holds (some L) 0 (mkH n st S (up2 (up2 μ1 (L + 4) (5) (bI q)) (L + 4) (6) (D (851 + s))))).bind fun p7 => (rZ p7.1).bind fun vz => some (vz, p7.2) := by
      intro μ1 q hf
      have e5 : up2 μ1 (L + 4) 5 (bI q) (x + 1 + 78 + s) 5 = bI r6 := by rw [up2_ne (by omega), hf _ _ (by omega), q5, hr6]
      simp (disch := omega) only [b_X3_isGood_126, k_asAnswer, some_bind, lit_sI, lS6 hL, lR6 hL, oSheI hC, e5, lck hL]
      rw [hr6]
    have h105 : ∀ (μ1 : MU) (q : Bool), (∀ a j, ¬ a = L + 4 → μ1 a j = μ a j) → b_X3_isGood_105 (some L) (some (x + 1 + 78 + s)) (some (L + 4)) 4 (bI q) (mkH n st S μ1) = b_X3_isGood_126 (some L) (some (x + 1 + 78 + s)) (some (L + 4)) 5 (bI (decide (D (811 + s) ≠ 0))) (mkH n st S (up2 μ1 (L + 4) 4 (bI q))) := by
      intro μ1 q hf
      have e5 : up2 μ1 (L + 4) 4 (bI q) (x + 1 + 78 + s) 4 = D (811 + s) := by rw [up2_ne (by omega), hf _ _ (by omega), q4]
      simp (disch := omega) only [b_X3_isGood_105, k_asAnswer, some_bind, lit_sI, lS6 hL, lR6 hL, oSheI hC, e5]
      exact if_bI (D (811 + s) = 0) (fun q' => b_X3_isGood_126 (some L) (some (x + 1 + 78 + s)) (some (L + 4)) 5 q' (mkH n st S (up2 μ1 (L + 4) 4 (bI q))))
    have h84 : ∀ (μ1 : MU) (q : Bool), (∀ a j, ¬ a = L + 4 → μ1 a j = μ a j) → b_X3_isGood_84 (some L) (some (x + 1 + 78 + s)) (some (L + 4)) 3 (bI q) (mkH n st S μ1) = b_X3_isGood_105 (some L) (some (x + 1 + 78 + s)) (some (L + 4)) 4 (bI (decide (¬ D (771 + s) < 0))) (mkH n st S (up2 μ1 (L + 4) 3 (bI q))) := by
      intro μ1 q hf
      have e5 : up2 μ1 (L + 4) 3 (bI q) (x + 1 + 78 + s) 3 = D (771 + s) := by rw [up2_ne (by omega), hf _ _ (by omega), q3]
      simp (disch := omega) only [b_X3_isGood_84, k_asAnswer, some_bind, lit_sI, lS6 hL, lR6 hL, oSheI hC, e5]
      exact if_bI (D (771 + s) < 0) (fun q' => b_X3_isGood_105 (some L) (some (x + 1 + 78 + s)) (some (L + 4)) 4 q' (mkH n st S (up2 μ1 (L + 4) 3 (bI q))))
    have h63 : ∀ (μ1 : MU) (q : Bool), (∀ a j, ¬ a = L + 4 → μ1 a j = μ a j) → b_X3_isGood_63 (some L) (some (x + 1 + 78 + s)) (some (L + 4)) 2 (bI q) (mkH n st S μ1) = b_X3_isGood_84 (some L) (some (x + 1 + 78 + s)) (some (L + 4)) 3 (bI (decide (¬ D (731 + s) < 0))) (mkH n st S (up2 μ1 (L + 4) 2 (bI q))) := by
      intro μ1 q hf
      have e5 : up2 μ1 (L + 4) 2 (bI q) (x + 1 + 78 + s) 2 = D (731 + s) := by rw [up2_ne (by omega), hf _ _ (by omega), q2]
      simp (disch := omega) only [b_X3_isGood_63, k_asAnswer, some_bind, lit_sI, lS6 hL, lR6 hL, oSheI hC, e5]
      exact if_bI (D (731 + s) < 0) (fun q' => b_X3_isGood_84 (some L) (some (x + 1 + 78 + s)) (some (L + 4)) 3 q' (mkH n st S (up2 μ1 (L + 4) 2 (bI q))))
    have hs1 : Sim (up2 μ (L + 4) 0 (bI f0)) (x + 1) D := Sim.frX hI hs (fun a j h1 h2 h3 => up2_ne (by omega))
    have kS := k_isSure (n := n) (st := st) hC hs1 hI h5
    have e1 : up2 (up2 μ (L + 4) 0 (bI f0)) (L + 4) 1 (bI (surB D s)) (x + 1 + 78 + s) 1 = D (691 + s) := by rw [up2_ne (by omega), up2_ne (by omega), q1]
    have h12 : b_X3_isGood_12 (some L) (some (x + 1 + 78 + s)) (bI f0) (mkH n st S μ) = b_X3_isGood_63 (some L) (some (x + 1 + 78 + s)) (some (L + 4)) 2 (bI (decide (D (691 + s) ≠ 0))) (mkH n st S (up2 (up2 μ (L + 4) 0 (bI f0)) (L + 4) 1 (bI (surB D s)))) := by
      simp (disch := omega) only [b_X3_isGood_12, lck hL, h1', some_bind, n10, if_false, lR6 hL, k_asAnswer, lit_sI, lS6 hL, oSheK hC, kS, oSheI hC, e1]
      exact if_bI (D (691 + s) = 0) (fun q' => b_X3_isGood_63 (some L) (some (x + 1 + 78 + s)) (some (L + 4)) 2 q' (mkH n st S (up2 (up2 μ (L + 4) 0 (bI f0)) (L + 4) 1 (bI (surB D s)))))
    obtain ⟨μ1, hμ1⟩ : ∃ q, q = (up2 (up2 (up2 (up2 (up2 (up2 (up2 μ (L + 4) (0) (bI f0)) (L + 4) (1) (bI (surB D s))) (L + 4) (2) (bI (decide (D (691 + s) ≠ 0)))) (L + 4) (3) (bI (decide (¬ D (731 + s) < 0)))) (L + 4) (4) (bI (decide (¬ D (771 + s) < 0)))) (L + 4) (5) (bI (decide (D (811 + s) ≠ 0)))) (L + 4) (6) (D (851 + s))) := ⟨_, rfl⟩
    obtain ⟨q, μ', g1, g2, g3⟩ := h3 μ1 (fun a j q1 q2 => by rw [hμ1]; simp (disch := omega) only [up2_ne])
    have g1' : f_X3_holds (some L) 0 (mkH n st S μ1) = some (bI q, mkH n st S μ') := g1
    have hc := hU.ru_c hN (i := 0) (by omega) (F := μ1 (L + 4)) (F' := gdF D s) (by
      intro k _ hk
      have hk4 : k < 7 := hk
      rw [hμ1]
      rcases (by omega : k = 0 ∨ k = 1 ∨ k = 2 ∨ k = 3 ∨ k = 4 ∨ k = 5 ∨ k = 6) with rfl | rfl | rfl | rfl | rfl | rfl | rfl
      · simp (disch := omega) only [up2_ne, up2_same, gdF, hf0]
      all_goals simp (disch := omega) only [up2_ne, up2_same, gdF])
    refine ⟨μ', ?_, fun a j q1 q2 => by rw [g3 a j q2, hμ1]; simp (disch := omega) only [up2_ne]⟩
    rw [gooS, ← hc, g2, bI_ne0, ← hf0, h12, h63 _ _ (fun a j h => by simp (disch := omega) only [up2_ne]), h84 _ _ (fun a j h => by simp (disch := omega) only [up2_ne]), h105 _ _ (fun a j h => by simp (disch := omega) only [up2_ne]), h126 _ _ (fun a j h => by simp (disch := omega) only [up2_ne]), ← hμ1, g1']
    simp only [some_bind, rZ_bI]
def FrJ (m : Nat) (μ μ' : MU) : Prop := ∀ a j, ¬ (a = m ∧ 11 ≤ j ∧ j ≤ 18) → ¬ (m + 4 ≤ a ∧ a ≤ m + 9) → μ' a j = μ a j
theorem r_isGood (hS : ShM S m) (hm : x ≤ m) (hB : BaseOK st S μ x b) (hD : μ (m + 1) = D) (hI : Inv D) {μc : MU} {L : Nat} (hU : LawU μc L (lawT D) (lawN D)) {s : Nat} (h5 : s < nD D 5) : ∃ μ', f_X12_isGood (some m) (nI s) (mkH n st S μ) = some (bI (gooS D (lawT D) (lawN D) s), mkH n st S μ') ∧ FrJ m μ μ' := by
  have b5 := hI.shes.2
  obtain ⟨μ0, k1, k2⟩ := r_meaning (n := n) (st := st) hS hD hI h5
  have hD0 : ∀ q, μ0 (m + 1) q = D q := fun q => by rw [k2 _ _ (by omega), hD]
  obtain ⟨f0, hf0⟩ : ∃ q, q = decide (meS D s ≠ 0) := ⟨_, rfl⟩
  have hx : f_X12_isGood (some m) (nI s) (mkH n st S μ) = b_X12_isGood_20 (some m) (nI s) (hmS D s) (some (m + 7)) 0 (bI f0) (mkH n st S μ0) := by
    simp only [f_X12_isGood, rck hS, k1, some_bind, mR8 hS, hm_pos]
    rw [hf0]
    exact if_bI' (meS D s ≠ 0) (fun q => b_X12_isGood_20 (some m) (nI s) (hmS D s) (some (m + 7)) 0 q (mkH n st S μ0))
  have h20 : b_X12_isGood_20 (some m) (nI s) (hmS D s) (some (m + 7)) 0 (bI f0) (mkH n st S μ0) = b_X12_isGood_36 (some m) (nI s) (some (m + 7)) 1 (bI (surB D s)) (mkH n st S (up2 μ0 (m + 7) 0 (bI f0))) := by
    simp (disch := omega) only [b_X12_isGood_20, lit_sI, mS8 hS, some_bind, mR8 hS, hm_one hI]
    have := if_bI' (surB D s = true) (fun q => b_X12_isGood_36 (some m) (nI s) (some (m + 7)) 1 q (mkH n st S (up2 μ0 (m + 7) 0 (bI f0))))
    rw [this]
    cases surB D s <;> rfl
  have h36 : ∀ (μ1 : MU) (q : Bool), (∀ a j, ¬ a = m + 7 → μ1 a j = μ0 a j) → b_X12_isGood_36 (some m) (nI s) (some (m + 7)) 1 (bI q) (mkH n st S μ1) = b_X12_isGood_60 (some m) (nI s) (some (m + 7)) 2 (bI (decide (D (691 + s) ≠ 0))) (mkH n st S (up2 μ1 (m + 7) 1 (bI q))) := by
    intro μ1 q hf
    have e5 : up2 μ1 (m + 7) 1 (bI q) (m + 1) (691 + s) = D (691 + s) := by rw [up2_ne (by omega), hf _ _ (by omega), hD0]
    simp (disch := omega) only [b_X12_isGood_36, lit_sI, mS8 hS, some_bind, mR8 hS, mR0 hS, lit_add, mA0 hS, e5, nm0_pos (hI.sFat s h5)]
    exact if_bI' (D (691 + s) ≠ 0) (fun q' => b_X12_isGood_60 (some m) (nI s) (some (m + 7)) 2 q' (mkH n st S (up2 μ1 (m + 7) 1 (bI q))))
  have h60 : ∀ (μ1 : MU) (q : Bool), (∀ a j, ¬ a = m + 7 → μ1 a j = μ0 a j) → b_X12_isGood_60 (some m) (nI s) (some (m + 7)) 2 (bI q) (mkH n st S μ1) = b_X12_isGood_84 (some m) (nI s) (some (m + 7)) 3 (bI (decide (¬ D (731 + s) < 0))) (mkH n st S (up2 μ1 (m + 7) 2 (bI q))) := by
    intro μ1 q hf
    have e5 : up2 μ1 (m + 7) 2 (bI q) (m + 1) (731 + s) = D (731 + s) := by rw [up2_ne (by omega), hf _ _ (by omega), hD0]
    simp (disch := omega) only [b_X12_isGood_60, lit_sI, mS8 hS, some_bind, mR8 hS, mR0 hS, lit_add, mA0 hS, e5]
    exact if_bI (D (731 + s) < 0) (fun q' => b_X12_isGood_84 (some m) (nI s) (some (m + 7)) 3 q' (mkH n st S (up2 μ1 (m + 7) 2 (bI q))))
  have h84 : ∀ (μ1 : MU) (q : Bool), (∀ a j, ¬ a = m + 7 → μ1 a j = μ0 a j) → b_X12_isGood_84 (some m) (nI s) (some (m + 7)) 3 (bI q) (mkH n st S μ1) = b_X12_isGood_108 (some m) (nI s) (some (m + 7)) 4 (bI (decide (¬ D (771 + s) < 0))) (mkH n st S (up2 μ1 (m + 7) 3 (bI q))) := by
    intro μ1 q hf
    have e5 : up2 μ1 (m + 7) 3 (bI q) (m + 1) (771 + s) = D (771 + s) := by rw [up2_ne (by omega), hf _ _ (by omega), hD0]
    simp (disch := omega) only [b_X12_isGood_84, lit_sI, mS8 hS, some_bind, mR8 hS, mR0 hS, lit_add, mA0 hS, e5]
    exact if_bI (D (771 + s) < 0) (fun q' => b_X12_isGood_108 (some m) (nI s) (some (m + 7)) 4 q' (mkH n st S (up2 μ1 (m + 7) 3 (bI q))))
  have h108 : ∀ (μ1 : MU) (q : Bool), (∀ a j, ¬ a = m + 7 → μ1 a j = μ0 a j) → b_X12_isGood_108 (some m) (nI s) (some (m + 7)) 4 (bI q) (mkH n st S μ1) = b_X12_isGood_132 (some m) (nI s) (some (m + 7)) 5 (bI (decide (D (811 + s) ≠ 0))) (mkH n st S (up2 μ1 (m + 7) 4 (bI q))) := by
    intro μ1 q hf
    have e5 : up2 μ1 (m + 7) 4 (bI q) (m + 1) (811 + s) = D (811 + s) := by rw [up2_ne (by omega), hf _ _ (by omega), hD0]
    simp (disch := omega) only [b_X12_isGood_108, lit_sI, mS8 hS, some_bind, mR8 hS, mR0 hS, lit_add, mA0 hS, e5, nm0_pos (hI.sSec s h5)]
    exact if_bI' (D (811 + s) ≠ 0) (fun q' => b_X12_isGood_132 (some m) (nI s) (some (m + 7)) 5 q' (mkH n st S (up2 μ1 (m + 7) 4 (bI q))))
  obtain ⟨μ1, hμ1⟩ : ∃ q, q = (up2 (up2 (up2 (up2 (up2 (up2 (up2 μ0 (m + 7) (0) (bI f0)) (m + 7) (1) (bI (surB D s))) (m + 7) (2) (bI (decide (D (691 + s) ≠ 0)))) (m + 7) (3) (bI (decide (¬ D (731 + s) < 0)))) (m + 7) (4) (bI (decide (¬ D (771 + s) < 0)))) (m + 7) (5) (bI (decide (D (811 + s) ≠ 0)))) (m + 7) (6) (D (851 + s))) := ⟨_, rfl⟩
  have hfr : ∀ a j, ¬ a = m + 7 → μ1 a j = μ0 a j := fun a j q1 => by rw [hμ1]; simp (disch := omega) only [up2_ne]
  obtain ⟨μ', r1, r2, -⟩ := r_ask (n := n) (st := st) (x := x) (b := b) (μ := μ1) hS hm (hB.congr (fun _ _ => rfl) (fun a j q => by rw [hfr a j (by omega), k2 a j (by omega)])) (by funext q; rw [hfr _ _ (by omega), hD0]) hI hU (i := 0) (by omega) (bI f0) (F' := gdF D s) (by
      intro k _ hk
      have hk4 : k < 7 := hk
      rw [hμ1]
      rcases (by omega : k = 0 ∨ k = 1 ∨ k = 2 ∨ k = 3 ∨ k = 4 ∨ k = 5 ∨ k = 6) with rfl | rfl | rfl | rfl | rfl | rfl | rfl
      · simp (disch := omega) only [up2_ne, up2_same, gdF, hf0]
      all_goals simp (disch := omega) only [up2_ne, up2_same, gdF])
  have r1' : f_X12_ruled (some m) 0 (bI f0) (mkH n st S μ1) = some (ruT (lawT D) (lawN D) (gdF D s) 0 (bI f0), mkH n st S μ') := r1
  refine ⟨μ', ?_, fun a j q1 q2 => by rw [r2 a j q1 (by omega) (by omega), hfr a j (by omega), k2 a j (by omega)]⟩
  have e6 : ∀ v : Int32, up2 ((up2 (up2 (up2 (up2 (up2 μ0 (m + 7) (0) (bI f0)) (m + 7) (1) (bI (surB D s))) (m + 7) (2) (bI (decide (D (691 + s) ≠ 0)))) (m + 7) (3) (bI (decide (¬ D (731 + s) < 0)))) (m + 7) (4) (bI (decide (¬ D (771 + s) < 0))))) (m + 7) 5 v (m + 1) (851 + s) = D (851 + s) := fun v => by
    simp (disch := omega) only [up2_ne, hD0]
  have e0 : μ1 (m + 7) 0 = bI f0 := by
    rw [hμ1]
    simp (disch := omega) only [up2_ne, up2_same]
  rw [hx, h20, h36 _ _ (fun a j h => by simp (disch := omega) only [up2_ne]), h60 _ _ (fun a j h => by simp (disch := omega) only [up2_ne]), h84 _ _ (fun a j h => by simp (disch := omega) only [up2_ne]), h108 _ _ (fun a j h => by simp (disch := omega) only [up2_ne])]
  simp (disch := omega) only [b_X12_isGood_132, lit_sI, mS8 hS, some_bind, mR8 hS, mR0 hS, lit_add, mA0 hS, e6]
  rw [← hμ1]
  simp (disch := omega) only [lit_aI, mA8 hS, e0, some_bind, rck hS, r1', gooS, ← hf0]
  by_cases h0 : ruT (lawT D) (lawN D) (gdF D s) 0 (bI f0) = 0
  · rw [if_pos h0, decide_eq_false (fun h => h h0)]; rfl
  · rw [if_neg h0, decide_eq_true h0]; rfl
end GOOD
