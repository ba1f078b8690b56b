-- ===== a city becomes another =====
def cpM (μ : MU) (a b q : Nat) : MU := fun z i => if z = b ∧ i < q then μ a i else μ z i
/-- one step: at the places Q the one at a has become the one at c -/
def StpQ (μ μ' : MU) (a c : Nat) (Q : Nat → Nat → Prop) : Prop := (∀ o j, o < 142 → Q o j → μ' (a + o) j = μ (c + o) j) ∧ (∀ o j, o < 142 → ¬ Q o j → μ' (a + o) j = μ (a + o) j) ∧ ∀ z j, ¬ (a ≤ z ∧ z < a + 142) → μ' z j = μ z j
def Cpd (μ0 μ : MU) (a c : Nat) (P : Nat → Nat → Prop) : Prop := (∀ o j, o < 142 → P o j → μ (a + o) j = μ0 (c + o) j) ∧ ∀ z j, ¬ (a ≤ z ∧ z < a + 142) → μ z j = μ0 z j
section CPM
variable {n : Nat} {st : Nat → Nat} {S : SH} {μ μ' μ0 : MU} {a c : Nat} {P Q : Nat → Nat → Prop}
theorem cpM_at {a b q i : Nat} (h : i < q) : cpM μ a b q b i = μ a i := by simp [cpM, h]
theorem cpM_ne {a b q z i : Nat} (h : ¬ (z = b ∧ i < q)) : cpM μ a b q z i = μ z i := by simp only [cpM, if_neg h]
theorem allI_mk {f : Nat → Value} {sp : Nat} : ∀ q, (∀ i, i < q → ∃ y, f (sp + i) = .int y) → allI f sp q = true := by
  intro q
  induction q with
  | zero => intro _; rfl
  | succ q ih =>
    intro h
    obtain ⟨y, hy⟩ := h q (by omega)
    simp [allI, ih (fun i hi => h i (by omega)), hy, toI]
theorem ob_cp {a b la lb q : Nat} (ha : nnS S a 100 la) (hb : nnS S b 100 lb) (hab : a ≠ b) (h1 : q ≤ la) (h2 : q ≤ lb) (hq : q < 2 ^ 31) : cpA (mkH n st S μ) (some a) 0 (some b) 0 (nI q) = some (mkH n st S (cpM μ a b q)) := by
  obtain ⟨ha1, ha2, ha3⟩ := ha
  obtain ⟨hb1, hb2, hb3⟩ := hb
  have z0 : (0 : Int32).toNatClampNeg = 0 := rfl
  have hall : allI ((mkH n st S μ).2.1 a).2.2 0 q = true := allI_mk q (fun i hi => ⟨μ a i, by
    show slV ((S a).2.2 (0 + i)) (μ a (0 + i)) = _
    rw [Nat.zero_add, ha3 i (by omega)]
    rfl⟩)
  have hc : (((mkH n st S μ).2.1 a).1 = 100 ∧ ((mkH n st S μ).2.1 b).1 = 100 ∧ a ≠ b) ∧ (¬ (0 : Int32) < 0 ∧ ¬ (0 : Int32) < 0 ∧ ¬ nI q < 0) ∧ ((0 : Int32).toNatClampNeg + (nI q).toNatClampNeg ≤ ((mkH n st S μ).2.1 a).2.1 ∧ (0 : Int32).toNatClampNeg + (nI q).toNatClampNeg ≤ ((mkH n st S μ).2.1 b).2.1) ∧ allI ((mkH n st S μ).2.1 a).2.2 (0 : Int32).toNatClampNeg (nI q).toNatClampNeg = true := by
    rw [z0, nI_clamp hq]
    refine ⟨⟨ha1, hb1, hab⟩, ⟨by decide, by decide, nI_pos hq⟩, ⟨?_, ?_⟩, hall⟩
    · show 0 + q ≤ (S a).2.1
      omega
    · show 0 + q ≤ (S b).2.1
      omega
  simp only [cpA]
  rw [if_pos hc, z0, nI_clamp hq]
  refine congrArg some (Prod.ext rfl (Prod.ext (funext fun z => ?_) rfl))
  by_cases hz : z = b
  · subst hz
    refine Prod.ext (by simp [va_up, mkH, hb1]) (Prod.ext (by simp [va_up, mkH]) (funext fun i => ?_))
    by_cases hi : i < q
    · simp [va_up, va_cpy, cpM, mkH, hi, ha3 i (by omega), hb3 i (by omega)]
    · simp [va_up, va_cpy, cpM, mkH, hi]
  · simp [va_up, cpM, mkH, hz]
theorem Cpd.step (h : Cpd μ0 μ a c P) (hd : a + 142 ≤ c ∨ c + 142 ≤ a) (q : StpQ μ μ' a c Q) : Cpd μ0 μ' a c (fun o j => P o j ∨ Q o j) := by
  obtain ⟨h1, h2⟩ := h
  obtain ⟨q1, q2, q3⟩ := q
  refine ⟨fun o j ho hp => ?_, fun z j hz => by rw [q3 z j hz]; exact h2 z j hz⟩
  by_cases hq : Q o j
  · rw [q1 o j ho hq]
    exact h2 _ _ (by omega)
  · rw [q2 o j ho hq]
    rcases hp with hp | hp
    · exact h1 o j ho hp
    · exact absurd hp hq
theorem Cpd.weak {P' : Nat → Nat → Prop} (h : Cpd μ0 μ a c P) (hw : ∀ o j, P' o j → P o j) : Cpd μ0 μ a c P' := ⟨fun o j ho hp => h.1 o j ho (hw o j hp), h.2⟩
theorem StpQ.put0 (j0 : Nat) (hd : a + 142 ≤ c ∨ c + 142 ≤ a) : StpQ μ (up2 μ a j0 (μ c j0)) a c (fun o j => o = 0 ∧ j = j0) := by
  refine ⟨?_, ?_, ?_⟩
  · rintro o j ho ⟨rfl, rfl⟩
    exact up2_same
  · intro o j ho hq
    exact up2_ne (by omega)
  · intro z j hz
    exact up2_ne (by omega)
theorem StpQ.cpy (o0 q : Nat) (ho0 : o0 < 142) : StpQ μ (cpM μ (c + o0) (a + o0) q) a c (fun o j => o = o0 ∧ j < q) := by
  refine ⟨?_, ?_, ?_⟩
  · rintro o j ho ⟨rfl, hj⟩
    exact cpM_at hj
  · intro o j ho hq
    exact cpM_ne (by omega)
  · intro z j hz
    exact cpM_ne (by omega)
/-- a loop that copies thing by thing -/
theorem loopC {LOOP : Nat → Int32 → AH → Option AH} {TAIL : AH → Option AH} {N f : Nat} {Q : Nat → Nat → Nat → Prop} (hd : a + 142 ≤ c ∨ c + 142 ≤ a)
    (hstep : ∀ fu i μ, i < N → (∀ z j, ¬ (a ≤ z ∧ z < a + 142) → μ z j = μ0 z j) → μ a f = μ0 c f → ∃ μ', LOOP (fu + 1) (nI i) (mkH n st S μ) = LOOP fu (nI (i + 1)) (mkH n st S μ') ∧ StpQ μ μ' a c (Q i))
    (hend : ∀ fu μ, (∀ z j, ¬ (a ≤ z ∧ z < a + 142) → μ z j = μ0 z j) → μ a f = μ0 c f → LOOP (fu + 1) (nI N) (mkH n st S μ) = TAIL (mkH n st S μ)) :
    ∀ k i fu (μ : MU) (P : Nat → Nat → Prop), i + k = N → k < fu → P 0 f → Cpd μ0 μ a c P → ∃ μ', LOOP fu (nI i) (mkH n st S μ) = TAIL (mkH n st S μ') ∧ Cpd μ0 μ' a c (fun o j => P o j ∨ ∃ q, i ≤ q ∧ q < N ∧ Q q o j) := by
  intro k
  induction k with
  | zero =>
    intro i fu μ P hi hf hp h
    obtain ⟨fu, rfl⟩ : ∃ q, fu = q + 1 := ⟨fu - 1, by omega⟩
    obtain rfl : i = N := by omega
    exact ⟨μ, hend fu μ h.2 (h.1 0 f (by omega) hp), h.weak (fun o j q => q.elim id (fun ⟨q, q1, q2, _⟩ => absurd q2 (by omega)))⟩
  | succ k ih =>
    intro i fu μ P hi hf hp h
    obtain ⟨fu, rfl⟩ : ∃ q, fu = q + 1 := ⟨fu - 1, by omega⟩
    obtain ⟨μ1, e1, e2⟩ := hstep fu i μ (by omega) h.2 (h.1 0 f (by omega) hp)
    obtain ⟨μ2, e3, e4⟩ := ih (i + 1) fu μ1 (fun o j => P o j ∨ Q i o j) (by omega) (by omega) (Or.inl hp) (h.step hd e2)
    refine ⟨μ2, by rw [e1, e3], e4.weak (fun o j q => ?_)⟩
    rcases q with q | ⟨q, q1, q2, q3⟩
    · exact Or.inl (Or.inl q)
    · by_cases hq : q = i
      · subst hq; exact Or.inl (Or.inr q3)
      · exact Or.inr ⟨q, by omega, q2, q3⟩
end CPM

section BECOME
variable {n : Nat} {st : Nat → Nat} {S : SH} {μ μ0 : MU} {a c l l' : Nat} {D : DR}
theorem k_bec9 (hA : ShC S a) (hC : ShC S c) (hd : a + 142 ≤ c ∨ c + 142 ≤ a) {i : Nat} (hi : i < 8) : ∃ μ' : MU, f_X9_become (some (a + 14 + i)) (some (c + 14 + i)) (mkH n st S μ) = some (mkH n st S μ') ∧ StpQ μ μ' a c (fun o j => o = 14 + i ∧ j < 4) := by
  refine ⟨(up2 (up2 (up2 (up2 (up2 (up2 μ (a + 14 + i) (0) (μ (c + 14 + i) 0)) (a + 14 + i) (1) (μ (c + 14 + i) 1)) (a + 14 + i) (2) (0)) (a + 14 + i) (3) (-1)) (a + 14 + i) (2) (μ (c + 14 + i) 2)) (a + 14 + i) (3) (μ (c + 14 + i) 3)), ?_, ?_, ?_, ?_⟩
  · simp (disch := omega) only [f_X9_become, f_X9_begin, oWardI hC, oWardP hA, oWardK hA, some_bind, up2_ne]
  · rintro o j ho ⟨rfl, hj⟩
    rw [← Nat.add_assoc, ← Nat.add_assoc]
    rcases (by omega : j = 0 ∨ j = 1 ∨ j = 2 ∨ j = 3) with rfl | rfl | rfl | rfl <;> simp (disch := omega) only [up2_ne, up2_same]
  · intro o j ho hq
    simp (disch := omega) only [up2_ne]
  · intro z j hz
    simp (disch := omega) only [up2_ne]
theorem k_bec1 (hA : ShC S a) {i : Nat} (hi : i < 8) : ∃ μ' : MU, f_X1_begin (some (a + 70 + i)) (μ (c + 70 + i) 0) (μ (c + 70 + i) 1) (μ (c + 70 + i) 2) (μ (c + 70 + i) 3) (mkH n st S μ) = some (mkH n st S μ') ∧ StpQ μ μ' a c (fun o j => o = 70 + i ∧ j < 4) := by
  refine ⟨(up2 (up2 (up2 (up2 μ (a + 70 + i) (0) (μ (c + 70 + i) 0)) (a + 70 + i) (1) (μ (c + 70 + i) 1)) (a + 70 + i) (2) (μ (c + 70 + i) 2)) (a + 70 + i) (3) (μ (c + 70 + i) 3)), ?_, ?_, ?_, ?_⟩
  · simp (disch := omega) only [f_X1_begin, oBarP hA, some_bind]
  · rintro o j ho ⟨rfl, hj⟩
    rw [← Nat.add_assoc, ← Nat.add_assoc]
    rcases (by omega : j = 0 ∨ j = 1 ∨ j = 2 ∨ j = 3) with rfl | rfl | rfl | rfl <;> simp (disch := omega) only [up2_ne, up2_same]
  · intro o j ho hq
    simp (disch := omega) only [up2_ne]
  · intro z j hz
    simp (disch := omega) only [up2_ne]
theorem k_bec10 (hA : ShC S a) (hC : ShC S c) (hd : a + 142 ≤ c ∨ c + 142 ≤ a) {i : Nat} (hi : i < 8) : ∃ μ' : MU, f_X10_become (some (a + 54 + 2 * i)) (some (c + 54 + 2 * i)) (mkH n st S μ) = some (mkH n st S μ') ∧ StpQ μ μ' a c (fun o j => (o = 54 + 2 * i ∧ j < 2) ∨ (o = 54 + 2 * i + 1 ∧ j < 16)) := by
  have cp : ∀ μ : MU, cpA (mkH n st S μ) (some (c + 54 + 2 * i + 1)) 0 (some (a + 54 + 2 * i + 1)) 0 16 = some (mkH n st S (cpM μ (c + 54 + 2 * i + 1) (a + 54 + 2 * i + 1) 16)) := fun μ => ob_cp (q := 16) (hC.heard i hi) (hA.heard i hi) (by omega) (by omega) (by omega) (by omega)
  refine ⟨cpM ((up2 (up2 μ (a + 54 + 2 * i) (0) (μ (c + 54 + 2 * i) 0)) (a + 54 + 2 * i) (1) (μ (c + 54 + 2 * i) 1))) (c + 54 + 2 * i + 1) (a + 54 + 2 * i + 1) 16, ?_, ?_, ?_, ?_⟩
  · simp (disch := omega) only [f_X10_become, oWordI hC, oWordP hA, oWordR hA, oWordR hC, some_bind, up2_ne, cp]
  · intro o j ho h
    rcases h with ⟨rfl, hj⟩ | ⟨rfl, hj⟩
    · rw [← Nat.add_assoc, ← Nat.add_assoc]
      rcases (by omega : j = 0 ∨ j = 1) with rfl | rfl <;> simp (disch := omega) only [cpM_ne, up2_ne, up2_same]
    · rw [← Nat.add_assoc, ← Nat.add_assoc, ← Nat.add_assoc, ← Nat.add_assoc, cpM_at hj]
      simp (disch := omega) only [up2_ne]
  · intro o j ho hq
    simp (disch := omega) only [cpM_ne, up2_ne]
  · intro z j hz
    simp (disch := omega) only [cpM_ne, up2_ne]
theorem k_bec5 (hA : ShC S a) (hC : ShC S c) (hd : a + 142 ≤ c ∨ c + 142 ≤ a) {i : Nat} (hi : i < 16) (hz : μ (c + 22 + 2 * i) 8 = 0 ∨ μ (c + 22 + 2 * i) 8 = 1) : ∃ μ' : MU, f_X5_become (some (a + 22 + 2 * i)) (some (c + 22 + 2 * i)) (mkH n st S μ) = some (mkH n st S μ') ∧ StpQ μ μ' a c (fun o j => (o = 22 + 2 * i ∧ j < 9) ∨ (o = 22 + 2 * i + 1 ∧ j < 16)) := by

  have cp : ∀ μ : MU, cpA (mkH n st S μ) (some (c + 22 + 2 * i + 1)) 0 (some (a + 22 + 2 * i + 1)) 0 16 = some (mkH n st S (cpM μ (c + 22 + 2 * i + 1) (a + 22 + 2 * i + 1) 16)) := fun μ => ob_cp (q := 16) (hC.fears i hi) (hA.fears i hi) (by omega) (by omega) (by omega) (by omega)
  have z8 : ∀ μ' : MU, pZ 5 8 (mkH n st S μ') (some (a + 22 + 2 * i)) (μ (c + 22 + 2 * i) 8) = some (mkH n st S (up2 μ' (a + 22 + 2 * i) 8 (μ (c + 22 + 2 * i) 8))) := fun μ' => oManZ hA hi (by omega) hz
  refine ⟨cpM ((up2 (up2 (up2 (up2 (up2 (filR ((up2 (up2 (up2 (up2 (up2 (up2 (up2 (up2 (up2 μ (a + 22 + 2 * i) (0) (μ (c + 22 + 2 * i) 0)) (a + 22 + 2 * i) (1) (μ (c + 22 + 2 * i) 1)) (a + 22 + 2 * i) (2) (μ (c + 22 + 2 * i) 2)) (a + 22 + 2 * i) (3) (μ (c + 22 + 2 * i) 3)) (a + 22 + 2 * i) (4) (0)) (a + 22 + 2 * i) (5) (0)) (a + 22 + 2 * i) (6) (-1)) (a + 22 + 2 * i) (7) (-1)) (a + 22 + 2 * i) (8) (0))) (a + 22 + 2 * i + 1) 0 16 0) (a + 22 + 2 * i) (4) (μ (c + 22 + 2 * i) 4)) (a + 22 + 2 * i) (5) (μ (c + 22 + 2 * i) 5)) (a + 22 + 2 * i) (6) (μ (c + 22 + 2 * i) 6)) (a + 22 + 2 * i) (7) (μ (c + 22 + 2 * i) 7)) (a + 22 + 2 * i) (8) (μ (c + 22 + 2 * i) 8))) (c + 22 + 2 * i + 1) (a + 22 + 2 * i + 1) 16, ?_, ?_, ?_, ?_⟩
  · simp (disch := omega) only [f_X5_become, oManI hC, oManP hA, oManK hA, k_manB hA, oManR hA, oManR hC, some_bind, up2_ne, filR_ne, z8, cp]
  · intro o j ho h
    rcases h with ⟨rfl, hj⟩ | ⟨rfl, hj⟩
    · rw [← Nat.add_assoc, ← Nat.add_assoc]
      rcases (by omega : j = 0 ∨ j = 1 ∨ j = 2 ∨ j = 3 ∨ j = 4 ∨ j = 5 ∨ j = 6 ∨ j = 7 ∨ j = 8) with rfl | rfl | rfl | rfl | rfl | rfl | rfl | rfl | rfl <;> simp (disch := omega) only [cpM_ne, up2_ne, up2_same, filR_ne]
    · rw [← Nat.add_assoc, ← Nat.add_assoc, ← Nat.add_assoc, ← Nat.add_assoc, cpM_at hj]
      simp (disch := omega) only [up2_ne, filR_ne]
  · intro o j ho hq
    simp (disch := omega) only [cpM_ne, up2_ne, filR_ne]
  · intro z j hz
    simp (disch := omega) only [cpM_ne, up2_ne, filR_ne]
theorem k_bec8 (hA : ShC S a) (hC : ShC S c) (hd : a + 142 ≤ c ∨ c + 142 ≤ a) {i : Nat} (hi : i < 40) (hz : μ (c + 78 + i) 5 = 0 ∨ μ (c + 78 + i) 5 = 1) : ∃ μ' : MU, f_X8_become (some (a + 78 + i)) (some (c + 78 + i)) (mkH n st S μ) = some (mkH n st S μ') ∧ StpQ μ μ' a c (fun o j => o = 78 + i ∧ j < 11) := by

  have z5 : ∀ μ' : MU, pZ 8 5 (mkH n st S μ') (some (a + 78 + i)) (μ (c + 78 + i) 5) = some (mkH n st S (up2 μ' (a + 78 + i) 5 (μ (c + 78 + i) 5))) := fun μ' => oSheZ hA hi (by omega) hz
  refine ⟨(up2 (up2 (up2 (up2 (up2 (up2 (up2 (up2 (up2 (up2 (up2 (up2 (up2 (up2 (up2 (up2 (up2 (up2 μ (a + 78 + i) (0) (μ (c + 78 + i) 0)) (a + 78 + i) (1) (μ (c + 78 + i) 1)) (a + 78 + i) (2) (μ (c + 78 + i) 2)) (a + 78 + i) (3) (μ (c + 78 + i) 3)) (a + 78 + i) (4) (0)) (a + 78 + i) (5) (0)) (a + 78 + i) (6) (0)) (a + 78 + i) (7) (0)) (a + 78 + i) (8) (-1)) (a + 78 + i) (9) (0)) (a + 78 + i) (10) (0)) (a + 78 + i) (4) (μ (c + 78 + i) 4)) (a + 78 + i) (5) (μ (c + 78 + i) 5)) (a + 78 + i) (6) (μ (c + 78 + i) 6)) (a + 78 + i) (7) (μ (c + 78 + i) 7)) (a + 78 + i) (8) (μ (c + 78 + i) 8)) (a + 78 + i) (9) (μ (c + 78 + i) 9)) (a + 78 + i) (10) (μ (c + 78 + i) 10)), ?_, ?_, ?_, ?_⟩
  · simp (disch := omega) only [f_X8_become, f_X8_begin, oSheI hC, oSheP hA, oSheK hA, oSheZ0 hA, some_bind, up2_ne, z5]
  · rintro o j ho ⟨rfl, hj⟩
    rw [← Nat.add_assoc, ← Nat.add_assoc]
    rcases (by omega : j = 0 ∨ j = 1 ∨ j = 2 ∨ j = 3 ∨ j = 4 ∨ j = 5 ∨ j = 6 ∨ j = 7 ∨ j = 8 ∨ j = 9 ∨ j = 10) with rfl | rfl | rfl | rfl | rfl | rfl | rfl | rfl | rfl | rfl | rfl <;> simp (disch := omega) only [up2_ne, up2_same]
  · intro o j ho hq
    simp (disch := omega) only [up2_ne]
  · intro z j hz
    simp (disch := omega) only [up2_ne]
/-- a law becomes another -/
theorem k_bec3 (hL : ShL S l) (hL' : ShL S l') (hd : l + 6 ≤ l' ∨ l' + 6 ≤ l) (h0 : μ l' 0 = 0 ∨ μ l' 0 = 1) {cs : Nat} (hcs : cs ≤ 320) (h3 : μ l' 3 = nI cs) : ∃ μ' : MU, f_X3_become (some l) (some l') (mkH n st S μ) = some (mkH n st S μ') ∧ (∀ j, j = 0 ∨ j = 1 ∨ j = 3 → μ' l j = μ l' j) ∧ (∀ j, j < cs → μ' (l + 1) j = μ (l' + 1) j) ∧ (∀ j, j < 4 → μ' (l + 2) j = μ (l' + 2) j) ∧ (∀ j, j < 4 → μ' (l + 3) j = μ (l' + 3) j) ∧ (∀ z j, ¬ ((z = l ∧ (j = 0 ∨ j = 1 ∨ j = 3)) ∨ (z = l + 1 ∧ j < cs) ∨ (z = l + 2 ∧ j < 4) ∨ (z = l + 3 ∧ j < 4)) → μ' z j = μ z j) := by
  have c1 : ∀ μ : MU, cpA (mkH n st S μ) (some (l' + 1)) 0 (some (l + 1)) 0 (nI cs) = some (mkH n st S (cpM μ (l' + 1) (l + 1) cs)) := fun μ => ob_cp hL'.code hL.code (by omega) (by omega) (by omega) (by omega)
  have c2 : ∀ μ : MU, cpA (mkH n st S μ) (some (l' + 2)) 0 (some (l + 2)) 0 4 = some (mkH n st S (cpM μ (l' + 2) (l + 2) 4)) := fun μ => ob_cp (q := 4) hL'.begins hL.begins (by omega) (by omega) (by omega) (by omega)
  have c3 : ∀ μ : MU, cpA (mkH n st S μ) (some (l' + 3)) 0 (some (l + 3)) 0 4 = some (mkH n st S (cpM μ (l' + 3) (l + 3) 4)) := fun μ => ob_cp (q := 4) hL'.ends hL.ends (by omega) (by omega) (by omega) (by omega)
  have z0 : ∀ μ' : MU, pZ 3 0 (mkH n st S μ') (some l) (μ l' 0) = some (mkH n st S (up2 μ' l 0 (μ l' 0))) := fun μ' => lZ0 hL h0
  refine ⟨cpM (cpM (cpM ((up2 (up2 (up2 μ (l) (0) (μ l' 0)) (l) (1) (μ l' 1)) (l) (3) (μ l' 3))) (l' + 1) (l + 1) cs) (l' + 2) (l + 2) 4) (l' + 3) (l + 3) 4, ?_, ?_, ?_, ?_, ?_, ?_⟩
  · simp (disch := omega) only [f_X3_become, lI0 hL', z0, some_bind, lI1 hL', lP1 hL, lI3 hL', lP3 hL, lR2 hL', lR2 hL, lI3 hL, up2_ne, up2_same, h3, c1, lR4 hL', lR4 hL, c2, lR5 hL', lR5 hL, c3]
  · rintro j (rfl | rfl | rfl) <;> simp (disch := omega) only [cpM_ne, up2_ne, up2_same]
  · intro j hj
    simp (disch := omega) only [cpM_ne, cpM_at, up2_ne]
  · intro j hj
    simp (disch := omega) only [cpM_ne, cpM_at, up2_ne]
  · intro j hj
    simp (disch := omega) only [cpM_ne, cpM_at, up2_ne]
  · intro z j hz
    simp (disch := omega) only [cpM_ne, up2_ne]
theorem LawOK.shift {μ' : MU} {T : Nat → Int32} {N cs : Nat} (h : LawOK μ l' T N) (h3 : μ l' 3 = nI cs) (hcs : cs ≤ 320) (e0 : ∀ j, j = 0 ∨ j = 1 ∨ j = 3 → μ' l j = μ l' j) (e1 : ∀ j, j < cs → μ' (l + 1) j = μ (l' + 1) j) (e2 : ∀ j, j < 4 → μ' (l + 2) j = μ (l' + 2) j) (e3 : ∀ j, j < 4 → μ' (l + 3) j = μ (l' + 3) j) : LawOK μ' l T N := by
  obtain ⟨cs', c1, c2, H, h1, h2⟩ := h
  obtain rfl : cs' = cs := by
    rw [h3] at c2
    have := (nI_eq (a := cs) (b := cs') (by omega) (by omega)).mp c2
    exact this.symm
  refine ⟨cs', c1, by rw [e0 3 (by omega)]; exact c2, H, fun F => ?_, fun i hi hh => by rw [e2 i hi]; exact h2 i hi hh⟩
  obtain ⟨k, z, k1, k2, k3, k4⟩ := h1 F
  refine ⟨k, z, k1, k2, by rw [e0 1 (by omega)]; exact k3, fun i hi hh => ?_⟩
  obtain ⟨b, e, q1, q2, q3, q4, q5⟩ := k4 i hi hh
  refine ⟨b, e, by rw [e2 i hi]; exact q1, by rw [e3 i hi]; exact q2, q3, q4, ?_⟩
  rw [q5]
  congr 3
  refine List.map_congr_left (fun j hj => ?_)
  rw [List.mem_range'_1] at hj
  exact (e1 j (by omega)).symm

def bT_183 (x0 x1 : Option Nat) (h : AH) : Option AH := some h
def bT_127 (x0 x1 : Option Nat) (h : AH) : Option AH := (gI 2 12 h x1).bind fun v11 => (pI 2 12 h x0 v11).bind fun h12 => b_X2_becomeNumbered_183 FU x0 x1 0 h12
def bT_88 (x0 x1 : Option Nat) (h : AH) : Option AH := (gI 2 10 h x1).bind fun v7 => (pI 2 10 h x0 v7).bind fun h8 => b_X2_becomeNumbered_127 FU x0 x1 0 h8
def bT_49 (x0 x1 : Option Nat) (h : AH) : Option AH := (gI 2 8 h x1).bind fun v7 => (pI 2 8 h x0 v7).bind fun h8 => b_X2_becomeNumbered_88 FU x0 x1 0 h8
def bT_10 (x0 x1 : Option Nat) (h : AH) : Option AH := (gI 2 6 h x1).bind fun v7 => (pI 2 6 h x0 v7).bind fun h8 => b_X2_becomeNumbered_49 FU x0 x1 0 h8
def bT_109 (x0 x1 : Option Nat) (h : AH) : Option AH := (ck 2 h x0 (f_X2_becomeNumbered x0 x1 h)).bind fun h6 => some h6
def bT_55 (x0 x1 : Option Nat) (h : AH) : Option AH := (gI 2 18 h x1).bind fun v6 => (pI 2 18 h x0 v6).bind fun h7 => (gR 2 17 h7 x1).bind fun v8 => (gR 2 17 h7 x0).bind fun v9 => (cpA h7 v8 0 v9 0 9).bind fun h10 => b_X2_become_109 FU x0 x1 0 h10
theorem bl_183 (hA : ShC S a) (hC : ShC S c) (hd : a + 142 ≤ c ∨ c + 142 ≤ a) (hs : Sim μ0 c D) (hI : Inv D) : ∀ k i fu (μ : MU) (P : Nat → Nat → Prop), i + k = nD D 5 → k < fu → P 0 12 → Cpd μ0 μ a c P → ∃ μ' : MU, b_X2_becomeNumbered_183 fu (some a) (some c) (nI i) (mkH n st S μ) = bT_183 (some a) (some c) (mkH n st S μ') ∧ Cpd μ0 μ' a c (fun o j => P o j ∨ ∃ q, i ≤ q ∧ q < nD D 5 ∧ (o = 78 + q ∧ j < 11)) := by
  have bb := hI.shes.2
  have en : D 5 = nI (nD D 5) := hI.shes.1
  have ec : μ0 c 12 = nI (nD D 5) := hs.sheN.trans en
  refine loopC (LOOP := fun fu i h => b_X2_becomeNumbered_183 fu (some a) (some c) i h) (TAIL := fun h => bT_183 (some a) (some c) h) (f := 12) (Q := fun q o j => o = 78 + q ∧ j < 11) hd ?_ ?_
  · intro fu i μ hi hF hf
    have hC0 : ∀ o j, o < 142 → μ (c + o) j = μ0 (c + o) j := fun o j ho => hF _ _ (by omega)
    have e1' : nI i + 1 = nI (i + 1) := nI_add i 1
    have ea : μ a 12 = nI (nD D 5) := hf.trans ec
    have hlt : nI i < nI (nD D 5) := nI_lt hi (by omega)
    have hz : μ (c + 78 + i) 5 = 0 ∨ μ (c + 78 + i) 5 = 1 := by
      have f5 := hs.she i 5 hi (by omega)
      simp only [Nat.reduceMul, Nat.reduceAdd] at f5
      obtain ⟨k, hk, e⟩ := hI.sRdy i hi
      rw [Nat.add_assoc, hC0 (78 + i) 5 (by omega), ← Nat.add_assoc, f5, e]
      rcases (by omega : k = 0 ∨ k = 1) with rfl | rfl
      · exact Or.inl rfl
      · exact Or.inr rfl
    obtain ⟨μ', e1, e2⟩ := k_bec8 (n := n) (st := st) (μ := μ) hA hC hd (i := i) (by omega) hz
    refine ⟨μ', ?_, e2⟩
    show b_X2_becomeNumbered_183 (fu + 1) (some a) (some c) (nI i) (mkH n st S μ) = b_X2_becomeNumbered_183 fu (some a) (some c) (nI (i + 1)) (mkH n st S μ')
    rw [b_X2_becomeNumbered_183]
    simp (disch := omega) only [cI12 hA, some_bind, ea, hlt, if_true, cR11 hA, cEsherds hA, cR11 hC, cEsherds hC, oSheK hA, e1, e1']
  · intro fu μ hF hf
    have ea : μ a 12 = nI (nD D 5) := hf.trans ec
    have hlt : ¬ nI (nD D 5) < nI (nD D 5) := fun q => by simp (disch := omega) only [nn_lt] at q; omega
    show b_X2_becomeNumbered_183 (fu + 1) (some a) (some c) (nI (nD D 5)) (mkH n st S μ) = bT_183 (some a) (some c) (mkH n st S μ)
    rw [b_X2_becomeNumbered_183, bT_183]
    simp only [cI12 hA, some_bind, ea, hlt, if_false]
theorem bl_127 (hA : ShC S a) (hC : ShC S c) (hd : a + 142 ≤ c ∨ c + 142 ≤ a) (hs : Sim μ0 c D) (hI : Inv D) : ∀ k i fu (μ : MU) (P : Nat → Nat → Prop), i + k = nD D 4 → k < fu → P 0 10 → Cpd μ0 μ a c P → ∃ μ' : MU, b_X2_becomeNumbered_127 fu (some a) (some c) (nI i) (mkH n st S μ) = bT_127 (some a) (some c) (mkH n st S μ') ∧ Cpd μ0 μ' a c (fun o j => P o j ∨ ∃ q, i ≤ q ∧ q < nD D 4 ∧ (o = 70 + q ∧ j < 4)) := by
  have bb := hI.bars.2
  have en : D 4 = nI (nD D 4) := hI.bars.1
  have ec : μ0 c 10 = nI (nD D 4) := hs.barN.trans en
  refine loopC (LOOP := fun fu i h => b_X2_becomeNumbered_127 fu (some a) (some c) i h) (TAIL := fun h => bT_127 (some a) (some c) h) (f := 10) (Q := fun q o j => o = 70 + q ∧ j < 4) hd ?_ ?_
  · intro fu i μ hi hF hf
    have hC0 : ∀ o j, o < 142 → μ (c + o) j = μ0 (c + o) j := fun o j ho => hF _ _ (by omega)
    have e1' : nI i + 1 = nI (i + 1) := nI_add i 1
    have ea : μ a 10 = nI (nD D 4) := hf.trans ec
    have hlt : nI i < nI (nD D 4) := nI_lt hi (by omega)
    obtain ⟨μ', e1, e2⟩ := k_bec1 (n := n) (st := st) (μ := μ) (c := c) hA (i := i) (by omega)
    refine ⟨μ', ?_, e2⟩
    show b_X2_becomeNumbered_127 (fu + 1) (some a) (some c) (nI i) (mkH n st S μ) = b_X2_becomeNumbered_127 fu (some a) (some c) (nI (i + 1)) (mkH n st S μ')
    rw [b_X2_becomeNumbered_127]
    simp (disch := omega) only [cI10 hA, some_bind, ea, hlt, if_true, cR9 hA, cEbargains hA, cR9 hC, cEbargains hC, oBarK hA, oBarI hC, e1, e1']
  · intro fu μ hF hf
    have ea : μ a 10 = nI (nD D 4) := hf.trans ec
    have hlt : ¬ nI (nD D 4) < nI (nD D 4) := fun q => by simp (disch := omega) only [nn_lt] at q; omega
    show b_X2_becomeNumbered_127 (fu + 1) (some a) (some c) (nI (nD D 4)) (mkH n st S μ) = bT_127 (some a) (some c) (mkH n st S μ)
    rw [b_X2_becomeNumbered_127, bT_127]
    simp only [cI10 hA, some_bind, ea, hlt, if_false]
theorem bl_88 (hA : ShC S a) (hC : ShC S c) (hd : a + 142 ≤ c ∨ c + 142 ≤ a) (hs : Sim μ0 c D) (hI : Inv D) : ∀ k i fu (μ : MU) (P : Nat → Nat → Prop), i + k = nD D 3 → k < fu → P 0 8 → Cpd μ0 μ a c P → ∃ μ' : MU, b_X2_becomeNumbered_88 fu (some a) (some c) (nI i) (mkH n st S μ) = bT_88 (some a) (some c) (mkH n st S μ') ∧ Cpd μ0 μ' a c (fun o j => P o j ∨ ∃ q, i ≤ q ∧ q < nD D 3 ∧ ((o = 54 + 2 * q ∧ j < 2) ∨ (o = 54 + 2 * q + 1 ∧ j < 16))) := by
  have bb := hI.words.2
  have en : D 3 = nI (nD D 3) := hI.words.1
  have ec : μ0 c 8 = nI (nD D 3) := hs.wordN.trans en
  refine loopC (LOOP := fun fu i h => b_X2_becomeNumbered_88 fu (some a) (some c) i h) (TAIL := fun h => bT_88 (some a) (some c) h) (f := 8) (Q := fun q o j => (o = 54 + 2 * q ∧ j < 2) ∨ (o = 54 + 2 * q + 1 ∧ j < 16)) hd ?_ ?_
  · intro fu i μ hi hF hf
    have hC0 : ∀ o j, o < 142 → μ (c + o) j = μ0 (c + o) j := fun o j ho => hF _ _ (by omega)
    have e1' : nI i + 1 = nI (i + 1) := nI_add i 1
    have ea : μ a 8 = nI (nD D 3) := hf.trans ec
    have hlt : nI i < nI (nD D 3) := nI_lt hi (by omega)
    obtain ⟨μ', e1, e2⟩ := k_bec10 (n := n) (st := st) (μ := μ) hA hC hd (i := i) (by omega)
    refine ⟨μ', ?_, e2⟩
    show b_X2_becomeNumbered_88 (fu + 1) (some a) (some c) (nI i) (mkH n st S μ) = b_X2_becomeNumbered_88 fu (some a) (some c) (nI (i + 1)) (mkH n st S μ')
    rw [b_X2_becomeNumbered_88]
    simp (disch := omega) only [cI8 hA, some_bind, ea, hlt, if_true, cR7 hA, cEwords hA, cR7 hC, cEwords hC, oWordK hA, e1, e1']
  · intro fu μ hF hf
    have ea : μ a 8 = nI (nD D 3) := hf.trans ec
    have hlt : ¬ nI (nD D 3) < nI (nD D 3) := fun q => by simp (disch := omega) only [nn_lt] at q; omega
    show b_X2_becomeNumbered_88 (fu + 1) (some a) (some c) (nI (nD D 3)) (mkH n st S μ) = bT_88 (some a) (some c) (mkH n st S μ)
    rw [b_X2_becomeNumbered_88, bT_88]
    simp only [cI8 hA, some_bind, ea, hlt, if_false]
theorem bl_49 (hA : ShC S a) (hC : ShC S c) (hd : a + 142 ≤ c ∨ c + 142 ≤ a) (hs : Sim μ0 c D) (hI : Inv D) : ∀ k i fu (μ : MU) (P : Nat → Nat → Prop), i + k = nD D 2 → k < fu → P 0 6 → Cpd μ0 μ a c P → ∃ μ' : MU, b_X2_becomeNumbered_49 fu (some a) (some c) (nI i) (mkH n st S μ) = bT_49 (some a) (some c) (mkH n st S μ') ∧ Cpd μ0 μ' a c (fun o j => P o j ∨ ∃ q, i ≤ q ∧ q < nD D 2 ∧ ((o = 22 + 2 * q ∧ j < 9) ∨ (o = 22 + 2 * q + 1 ∧ j < 16))) := by
  have bb := hI.men.2
  have en : D 2 = nI (nD D 2) := hI.men.1
  have ec : μ0 c 6 = nI (nD D 2) := hs.manN.trans en
  refine loopC (LOOP := fun fu i h => b_X2_becomeNumbered_49 fu (some a) (some c) i h) (TAIL := fun h => bT_49 (some a) (some c) h) (f := 6) (Q := fun q o j => (o = 22 + 2 * q ∧ j < 9) ∨ (o = 22 + 2 * q + 1 ∧ j < 16)) hd ?_ ?_
  · intro fu i μ hi hF hf
    have hC0 : ∀ o j, o < 142 → μ (c + o) j = μ0 (c + o) j := fun o j ho => hF _ _ (by omega)
    have e1' : nI i + 1 = nI (i + 1) := nI_add i 1
    have ea : μ a 6 = nI (nD D 2) := hf.trans ec
    have hlt : nI i < nI (nD D 2) := nI_lt hi (by omega)
    have hz : μ (c + 22 + 2 * i) 8 = 0 ∨ μ (c + 22 + 2 * i) 8 = 1 := by
      have f8 := hs.man i 8 hi (by omega)
      simp only [Nat.reduceMul, Nat.reduceAdd] at f8
      obtain ⟨k, hk, e⟩ := hI.mRec i hi
      rw [Nat.add_assoc, hC0 (22 + 2 * i) 8 (by omega), ← Nat.add_assoc, f8, e]
      rcases (by omega : k = 0 ∨ k = 1) with rfl | rfl
      · exact Or.inl rfl
      · exact Or.inr rfl
    obtain ⟨μ', e1, e2⟩ := k_bec5 (n := n) (st := st) (μ := μ) hA hC hd (i := i) (by omega) hz
    refine ⟨μ', ?_, e2⟩
    show b_X2_becomeNumbered_49 (fu + 1) (some a) (some c) (nI i) (mkH n st S μ) = b_X2_becomeNumbered_49 fu (some a) (some c) (nI (i + 1)) (mkH n st S μ')
    rw [b_X2_becomeNumbered_49]
    simp (disch := omega) only [cI6 hA, some_bind, ea, hlt, if_true, cR5 hA, cEmen hA, cR5 hC, cEmen hC, oManK hA, e1, e1']
  · intro fu μ hF hf
    have ea : μ a 6 = nI (nD D 2) := hf.trans ec
    have hlt : ¬ nI (nD D 2) < nI (nD D 2) := fun q => by simp (disch := omega) only [nn_lt] at q; omega
    show b_X2_becomeNumbered_49 (fu + 1) (some a) (some c) (nI (nD D 2)) (mkH n st S μ) = bT_49 (some a) (some c) (mkH n st S μ)
    rw [b_X2_becomeNumbered_49, bT_49]
    simp only [cI6 hA, some_bind, ea, hlt, if_false]
theorem bl_10 (hA : ShC S a) (hC : ShC S c) (hd : a + 142 ≤ c ∨ c + 142 ≤ a) (hs : Sim μ0 c D) (hI : Inv D) : ∀ k i fu (μ : MU) (P : Nat → Nat → Prop), i + k = nD D 1 → k < fu → P 0 4 → Cpd μ0 μ a c P → ∃ μ' : MU, b_X2_becomeNumbered_10 fu (some a) (some c) (nI i) (mkH n st S μ) = bT_10 (some a) (some c) (mkH n st S μ') ∧ Cpd μ0 μ' a c (fun o j => P o j ∨ ∃ q, i ≤ q ∧ q < nD D 1 ∧ (o = 14 + q ∧ j < 4)) := by
  have bb := hI.wards.2
  have en : D 1 = nI (nD D 1) := hI.wards.1
  have ec : μ0 c 4 = nI (nD D 1) := hs.wardN.trans en
  refine loopC (LOOP := fun fu i h => b_X2_becomeNumbered_10 fu (some a) (some c) i h) (TAIL := fun h => bT_10 (some a) (some c) h) (f := 4) (Q := fun q o j => o = 14 + q ∧ j < 4) hd ?_ ?_
  · intro fu i μ hi hF hf
    have hC0 : ∀ o j, o < 142 → μ (c + o) j = μ0 (c + o) j := fun o j ho => hF _ _ (by omega)
    have e1' : nI i + 1 = nI (i + 1) := nI_add i 1
    have ea : μ a 4 = nI (nD D 1) := hf.trans ec
    have hlt : nI i < nI (nD D 1) := nI_lt hi (by omega)
    obtain ⟨μ', e1, e2⟩ := k_bec9 (n := n) (st := st) (μ := μ) hA hC hd (i := i) (by omega)
    refine ⟨μ', ?_, e2⟩
    show b_X2_becomeNumbered_10 (fu + 1) (some a) (some c) (nI i) (mkH n st S μ) = b_X2_becomeNumbered_10 fu (some a) (some c) (nI (i + 1)) (mkH n st S μ')
    rw [b_X2_becomeNumbered_10]
    simp (disch := omega) only [cI4 hA, some_bind, ea, hlt, if_true, cR3 hA, cEwards hA, cR3 hC, cEwards hC, oWardK hA, e1, e1']
  · intro fu μ hF hf
    have ea : μ a 4 = nI (nD D 1) := hf.trans ec
    have hlt : ¬ nI (nD D 1) < nI (nD D 1) := fun q => by simp (disch := omega) only [nn_lt] at q; omega
    show b_X2_becomeNumbered_10 (fu + 1) (some a) (some c) (nI (nD D 1)) (mkH n st S μ) = bT_10 (some a) (some c) (mkH n st S μ)
    rw [b_X2_becomeNumbered_10, bT_10]
    simp only [cI4 hA, some_bind, ea, hlt, if_false]
theorem bl_109 (hA : ShC S a) (hC : ShC S c) (hd : a + 142 ≤ c ∨ c + 142 ≤ a) (hs : Sim μ0 c D) (hI : Inv D) : ∀ k i fu (μ : MU) (P : Nat → Nat → Prop), i + k = 4 → k < fu → P 0 0 → Cpd μ0 μ a c P → ∃ μ' : MU, b_X2_become_109 fu (some a) (some c) (nI i) (mkH n st S μ) = bT_109 (some a) (some c) (mkH n st S μ') ∧ Cpd μ0 μ' a c (fun o j => P o j ∨ ∃ q, i ≤ q ∧ q < 4 ∧ ((o = 118 + 6 * q ∧ (j = 0 ∨ j = 1 ∨ j = 3)) ∨ (o = 118 + 6 * q + 1 ∧ j < (μ0 (c + 118 + 6 * q) 3).toNatClampNeg) ∨ (o = 118 + 6 * q + 2 ∧ j < 4) ∨ (o = 118 + 6 * q + 3 ∧ j < 4))) := by
  have b7 := hI.wards.2
  refine loopC (LOOP := fun fu i h => b_X2_become_109 fu (some a) (some c) i h) (TAIL := fun h => bT_109 (some a) (some c) h) (f := 0) (Q := fun q o j => (o = 118 + 6 * q ∧ (j = 0 ∨ j = 1 ∨ j = 3)) ∨ (o = 118 + 6 * q + 1 ∧ j < (μ0 (c + 118 + 6 * q) 3).toNatClampNeg) ∨ (o = 118 + 6 * q + 2 ∧ j < 4) ∨ (o = 118 + 6 * q + 3 ∧ j < 4)) hd ?_ ?_
  · intro fu i μ hi hF hf
    have hC0 : ∀ o j, o < 142 → μ (c + o) j = μ0 (c + o) j := fun o j ho => hF _ _ (by omega)
    have e1' : nI i + 1 = nI (i + 1) := nI_add i 1
    have hlt : nI i < (4 : Int32) := nI_lt (b := 4) hi (by omega)
    have hLa := hA.law i (by omega)
    have hLc := hC.law i (by omega)
    obtain ⟨cs, hcs, h3⟩ := hs.lawB i hi
    have t3 : (μ0 (c + 118 + 6 * i) 3).toNatClampNeg = cs := by rw [h3, nI_clamp (by omega)]
    have r0 : ∀ j, μ (c + 118 + 6 * i) j = μ0 (c + 118 + 6 * i) j := fun j => hF _ _ (by omega)
    have h0 : μ (c + 118 + 6 * i) 0 = 0 ∨ μ (c + 118 + 6 * i) 0 = 1 := by
      rw [r0]
      rcases hs.law i hi with ⟨-, q⟩ | ⟨-, q, -⟩
      · exact Or.inl q
      · exact Or.inr q
    obtain ⟨μ', e1, q0, q1, q2, q3, qF⟩ := k_bec3 (n := n) (st := st) (μ := μ) hLa hLc (by omega) h0 hcs (by rw [r0]; exact h3)
    refine ⟨μ', ?_, ?_, ?_, ?_⟩
    · show b_X2_become_109 (fu + 1) (some a) (some c) (nI i) (mkH n st S μ) = b_X2_become_109 fu (some a) (some c) (nI (i + 1)) (mkH n st S μ')
      rw [b_X2_become_109]
      simp (disch := omega) only [hlt, if_true, cR13 hA, cR13 hC, some_bind, cElaws hA, cElaws hC, ob_ck hLa.obj, e1, e1']
    · intro o j ho h
      rcases h with ⟨rfl, hj⟩ | ⟨rfl, hj⟩ | ⟨rfl, hj⟩ | ⟨rfl, hj⟩
      · rw [← Nat.add_assoc, ← Nat.add_assoc]; exact q0 j hj
      · rw [t3] at hj
        rw [← Nat.add_assoc, ← Nat.add_assoc, ← Nat.add_assoc, ← Nat.add_assoc]; exact q1 j hj
      · rw [← Nat.add_assoc, ← Nat.add_assoc, ← Nat.add_assoc, ← Nat.add_assoc]; exact q2 j hj
      · rw [← Nat.add_assoc, ← Nat.add_assoc, ← Nat.add_assoc, ← Nat.add_assoc]; exact q3 j hj
    · intro o j ho h
      rw [t3] at h
      exact qF _ _ (by omega)
    · intro z j hz
      exact qF _ _ (by omega)
  · intro fu μ hF hf
    have hlt : ¬ nI 4 < (4 : Int32) := by decide
    show b_X2_become_109 (fu + 1) (some a) (some c) (nI 4) (mkH n st S μ) = bT_109 (some a) (some c) (mkH n st S μ)
    rw [b_X2_become_109, bT_109]
    simp only [hlt, if_false]
theorem bl_55 (hA : ShC S a) (hC : ShC S c) (hd : a + 142 ≤ c ∨ c + 142 ≤ a) (hs : Sim μ0 c D) (hI : Inv D) : ∀ k i fu (μ : MU) (P : Nat → Nat → Prop), i + k = 2 → k < fu → P 0 0 → Cpd μ0 μ a c P → ∃ μ' : MU, b_X2_become_55 fu (some a) (some c) (nI i) (mkH n st S μ) = bT_55 (some a) (some c) (mkH n st S μ') ∧ Cpd μ0 μ' a c (fun o j => P o j ∨ ∃ q, i ≤ q ∧ q < 2 ∧ (o = 10 + q ∧ j < 5)) := by
  have b7 := hI.wards.2
  refine loopC (LOOP := fun fu i h => b_X2_become_55 fu (some a) (some c) i h) (TAIL := fun h => bT_55 (some a) (some c) h) (f := 0) (Q := fun q o j => o = 10 + q ∧ j < 5) hd ?_ ?_
  · intro fu i μ hi hF hf
    have hC0 : ∀ o j, o < 142 → μ (c + o) j = μ0 (c + o) j := fun o j ho => hF _ _ (by omega)
    have e1' : nI i + 1 = nI (i + 1) := nI_add i 1
    have hlt : nI i < (2 : Int32) := nI_lt (b := 2) hi (by omega)
    have cp : ∀ μ : MU, cpA (mkH n st S μ) (some (c + 10 + i)) 0 (some (a + 10 + i)) 0 5 = some (mkH n st S (cpM μ (c + 10 + i) (a + 10 + i) 5)) := fun μ => ob_cp (q := 5) (hC.tally i hi) (hA.tally i hi) (by omega) (by omega) (by omega) (by omega)
    refine ⟨cpM μ (c + 10 + i) (a + 10 + i) 5, ?_, ?_⟩
    · show b_X2_become_55 (fu + 1) (some a) (some c) (nI i) (mkH n st S μ) = b_X2_become_55 fu (some a) (some c) (nI (i + 1)) (mkH n st S _)
      rw [b_X2_become_55]
      simp (disch := omega) only [hlt, if_true, cR16 hA, cR16 hC, some_bind, cEtallies hA, cEtallies hC, cp, e1']
    · have := StpQ.cpy (μ := μ) (a := a) (c := c) (10 + i) 5 (by omega)
      rw [← Nat.add_assoc, ← Nat.add_assoc] at this
      exact this
  · intro fu μ hF hf
    have hlt : ¬ nI 2 < (2 : Int32) := by decide
    show b_X2_become_55 (fu + 1) (some a) (some c) (nI 2) (mkH n st S μ) = bT_55 (some a) (some c) (mkH n st S μ)
    rw [b_X2_become_55, bT_55]
    simp only [hlt, if_false]
theorem k_become (hA : ShC S a) (hC : ShC S c) (hd : a + 142 ≤ c ∨ c + 142 ≤ a) (hs : Sim μ c D) (hI : Inv D) : ∃ μ' : MU, f_X2_become (some a) (some c) (mkH n st S μ) = some (mkH n st S μ') ∧ Sim μ' a D ∧ ∀ z j, ¬ (a ≤ z ∧ z < a + 142) → μ' z j = μ z j := by
  have b1 := hI.wards.2
  have b2 := hI.men.2
  have b3 := hI.words.2
  have b4 := hI.bars.2
  have b5 := hI.shes.2
  have b6 := hI.wets.2
  have b8 := hI.heaped.2
  have fuL : FU = 4000 := rfl
  have cp1 : ∀ μ : MU, cpA (mkH n st S μ) (some (c + 1)) 0 (some (a + 1)) 0 20 = some (mkH n st S (cpM μ (c + 1) (a + 1) 20)) := fun μ => ob_cp (q := 20) hC.wet hA.wet (by omega) (by omega) (by omega) (by omega)
  have cp8 : ∀ μ : MU, cpA (mkH n st S μ) (some (c + 8)) 0 (some (a + 8)) 0 4 = some (mkH n st S (cpM μ (c + 8) (a + 8) 4)) := fun μ => ob_cp (q := 4) hC.rules hA.rules (by omega) (by omega) (by omega) (by omega)
  have cp12 : ∀ μ : MU, cpA (mkH n st S μ) (some (c + 12)) 0 (some (a + 12)) 0 9 = some (mkH n st S (cpM μ (c + 12) (a + 12) 9)) := fun μ => ob_cp (q := 9) hC.heap hA.heap (by omega) (by omega) (by omega) (by omega)
  have n1 : Cpd μ μ a c (fun _ _ => False) := ⟨fun _ _ _ h => h.elim, fun _ _ _ => rfl⟩
  have n2 := n1.step hd (StpQ.put0 (μ := μ) 0 hd)
  obtain ⟨m1, em1⟩ : ∃ z, z = up2 μ a 0 (μ c 0) := ⟨_, rfl⟩
  rw [← em1] at n2
  have n3 := n2.step hd (StpQ.put0 (μ := m1) 2 hd)
  obtain ⟨m2, em2⟩ : ∃ z, z = up2 m1 a 2 (m1 c 2) := ⟨_, rfl⟩
  rw [← em2] at n3
  have n4 := n3.step hd (StpQ.cpy (μ := m2) (a := a) (c := c) 1 20 (by omega))
  obtain ⟨m3, em3⟩ : ∃ z, z = cpM m2 (c + 1) (a + 1) 20 := ⟨_, rfl⟩
  rw [← em3] at n4
  have n5 := n4.step hd (StpQ.put0 (μ := m3) 14 hd)
  obtain ⟨m4, em4⟩ : ∃ z, z = up2 m3 a 14 (m3 c 14) := ⟨_, rfl⟩
  rw [← em4] at n5
  have n6 := n5.step hd (StpQ.cpy (μ := m4) (a := a) (c := c) 8 4 (by omega))
  obtain ⟨m5, em5⟩ : ∃ z, z = cpM m4 (c + 8) (a + 8) 4 := ⟨_, rfl⟩
  rw [← em5] at n6
  obtain ⟨m6, em6, n7⟩ := bl_55 (n := n) (st := st) hA hC hd hs hI (2) 0 FU m5 _ (by omega) (by omega) (Or.inl (Or.inl (Or.inl (Or.inl (Or.inr ⟨rfl, rfl⟩))))) n6
  have n8 := n7.step hd (StpQ.put0 (μ := m6) 18 hd)
  obtain ⟨m7, em7⟩ : ∃ z, z = up2 m6 a 18 (m6 c 18) := ⟨_, rfl⟩
  rw [← em7] at n8
  have n9 := n8.step hd (StpQ.cpy (μ := m7) (a := a) (c := c) 12 9 (by omega))
  obtain ⟨m8, em8⟩ : ∃ z, z = cpM m7 (c + 12) (a + 12) 9 := ⟨_, rfl⟩
  rw [← em8] at n9
  obtain ⟨m9, em9, n10⟩ := bl_109 (n := n) (st := st) hA hC hd hs hI (4) 0 FU m8 _ (by omega) (by omega) (Or.inl (Or.inl (Or.inl (Or.inl (Or.inl (Or.inl (Or.inl (Or.inr ⟨rfl, rfl⟩)))))))) n9
  have n11 := n10.step hd (StpQ.put0 (μ := m9) 4 hd)
  obtain ⟨m10, em10⟩ : ∃ z, z = up2 m9 a 4 (m9 c 4) := ⟨_, rfl⟩
  rw [← em10] at n11
  obtain ⟨m11, em11, n12⟩ := bl_10 (n := n) (st := st) hA hC hd hs hI (nD D 1) 0 FU m10 _ (by omega) (by omega) (Or.inr ⟨rfl, rfl⟩) n11
  have n13 := n12.step hd (StpQ.put0 (μ := m11) 6 hd)
  obtain ⟨m12, em12⟩ : ∃ z, z = up2 m11 a 6 (m11 c 6) := ⟨_, rfl⟩
  rw [← em12] at n13
  obtain ⟨m13, em13, n14⟩ := bl_49 (n := n) (st := st) hA hC hd hs hI (nD D 2) 0 FU m12 _ (by omega) (by omega) (Or.inr ⟨rfl, rfl⟩) n13
  have n15 := n14.step hd (StpQ.put0 (μ := m13) 8 hd)
  obtain ⟨m14, em14⟩ : ∃ z, z = up2 m13 a 8 (m13 c 8) := ⟨_, rfl⟩
  rw [← em14] at n15
  obtain ⟨m15, em15, n16⟩ := bl_88 (n := n) (st := st) hA hC hd hs hI (nD D 3) 0 FU m14 _ (by omega) (by omega) (Or.inr ⟨rfl, rfl⟩) n15
  have n17 := n16.step hd (StpQ.put0 (μ := m15) 10 hd)
  obtain ⟨m16, em16⟩ : ∃ z, z = up2 m15 a 10 (m15 c 10) := ⟨_, rfl⟩
  rw [← em16] at n17
  obtain ⟨m17, em17, n18⟩ := bl_127 (n := n) (st := st) hA hC hd hs hI (nD D 4) 0 FU m16 _ (by omega) (by omega) (Or.inr ⟨rfl, rfl⟩) n17
  have n19 := n18.step hd (StpQ.put0 (μ := m17) 12 hd)
  obtain ⟨m18, em18⟩ : ∃ z, z = up2 m17 a 12 (m17 c 12) := ⟨_, rfl⟩
  rw [← em18] at n19
  obtain ⟨m19, em19, n20⟩ := bl_183 (n := n) (st := st) hA hC hd hs hI (nD D 5) 0 FU m18 _ (by omega) (by omega) (Or.inr ⟨rfl, rfl⟩) n19
  refine ⟨m19, ?_, ?_, n20.2⟩
  · have z0 : nI 0 = (0 : Int32) := rfl
    simp only [z0] at em6 em9 em11 em13 em15 em17 em19
    simp only [f_X2_become, cI0 hC, cP0 hA, ← em1, some_bind, cI2 hC, cP2 hA, ← em2, cR1 hC, cR1 hA, cp1, ← em3, cI14 hC, cP14 hA, ← em4, cR15 hC, cR15 hA, cp8, ← em5]
    rw [em6]
    simp only [bT_55, cI18 hC, cP18 hA, ← em7, some_bind, cR17 hC, cR17 hA, cp12, ← em8]
    rw [em9]
    simp only [bT_109, cck hA, f_X2_becomeNumbered, cI4 hC, cP4 hA, some_bind, ← em10]
    rw [em11]
    simp only [bT_10, cI6 hC, cP6 hA, some_bind, ← em12]
    rw [em13]
    simp only [bT_49, cI8 hC, cP8 hA, some_bind, ← em14]
    rw [em15]
    simp only [bT_88, cI10 hC, cP10 hA, some_bind, ← em16]
    rw [em17]
    simp only [bT_127, cI12 hC, cP12 hA, some_bind, ← em18]
    rw [em19]
    rfl
  · obtain ⟨hc, -⟩ := n20
    have g0 : m19 a 0 = μ c 0 := hc 0 0 (by omega) (Or.inl (Or.inl (Or.inl (Or.inl (Or.inl (Or.inl (Or.inl (Or.inl (Or.inl (Or.inl (Or.inl (Or.inl (Or.inl (Or.inl (Or.inl (Or.inl (Or.inl (Or.inl (Or.inr (⟨rfl, rfl⟩))))))))))))))))))))
    have g2 : m19 a 2 = μ c 2 := hc 0 2 (by omega) (Or.inl (Or.inl (Or.inl (Or.inl (Or.inl (Or.inl (Or.inl (Or.inl (Or.inl (Or.inl (Or.inl (Or.inl (Or.inl (Or.inl (Or.inl (Or.inl (Or.inl (Or.inr (⟨rfl, rfl⟩)))))))))))))))))))
    have g14 : m19 a 14 = μ c 14 := hc 0 14 (by omega) (Or.inl (Or.inl (Or.inl (Or.inl (Or.inl (Or.inl (Or.inl (Or.inl (Or.inl (Or.inl (Or.inl (Or.inl (Or.inl (Or.inl (Or.inl (Or.inr (⟨rfl, rfl⟩)))))))))))))))))
    have g18 : m19 a 18 = μ c 18 := hc 0 18 (by omega) (Or.inl (Or.inl (Or.inl (Or.inl (Or.inl (Or.inl (Or.inl (Or.inl (Or.inl (Or.inl (Or.inl (Or.inl (Or.inr (⟨rfl, rfl⟩))))))))))))))
    have g4 : m19 a 4 = μ c 4 := hc 0 4 (by omega) (Or.inl (Or.inl (Or.inl (Or.inl (Or.inl (Or.inl (Or.inl (Or.inl (Or.inl (Or.inr (⟨rfl, rfl⟩)))))))))))
    have g6 : m19 a 6 = μ c 6 := hc 0 6 (by omega) (Or.inl (Or.inl (Or.inl (Or.inl (Or.inl (Or.inl (Or.inl (Or.inr (⟨rfl, rfl⟩)))))))))
    have g8 : m19 a 8 = μ c 8 := hc 0 8 (by omega) (Or.inl (Or.inl (Or.inl (Or.inl (Or.inl (Or.inr (⟨rfl, rfl⟩)))))))
    have g10 : m19 a 10 = μ c 10 := hc 0 10 (by omega) (Or.inl (Or.inl (Or.inl (Or.inr (⟨rfl, rfl⟩)))))
    have g12 : m19 a 12 = μ c 12 := hc 0 12 (by omega) (Or.inl (Or.inr (⟨rfl, rfl⟩)))
    have rW : ∀ j : Nat, j < 20 → m19 (a + 1) j = μ (c + 1) j := fun j h0 => hc (1) j (by omega) (Or.inl (Or.inl (Or.inl (Or.inl (Or.inl (Or.inl (Or.inl (Or.inl (Or.inl (Or.inl (Or.inl (Or.inl (Or.inl (Or.inl (Or.inl (Or.inl (Or.inr (⟨rfl, h0⟩))))))))))))))))))
    have rR : ∀ j : Nat, j < 4 → m19 (a + 8) j = μ (c + 8) j := fun j h0 => hc (8) j (by omega) (Or.inl (Or.inl (Or.inl (Or.inl (Or.inl (Or.inl (Or.inl (Or.inl (Or.inl (Or.inl (Or.inl (Or.inl (Or.inl (Or.inl (Or.inr (⟨rfl, h0⟩))))))))))))))))
    have rH : ∀ j : Nat, j < 9 → m19 (a + 12) j = μ (c + 12) j := fun j h0 => hc (12) j (by omega) (Or.inl (Or.inl (Or.inl (Or.inl (Or.inl (Or.inl (Or.inl (Or.inl (Or.inl (Or.inl (Or.inl (Or.inr (⟨rfl, h0⟩)))))))))))))
    have rT : ∀ q j : Nat, q < 2 → j < 5 → m19 (a + (10 + q)) j = μ (c + (10 + q)) j := fun q j h0 h1 => hc ((10 + q)) j (by omega) (Or.inl (Or.inl (Or.inl (Or.inl (Or.inl (Or.inl (Or.inl (Or.inl (Or.inl (Or.inl (Or.inl (Or.inl (Or.inl (Or.inr (⟨q, by omega, h0, rfl, h1⟩)))))))))))))))
    have rwd : ∀ q j : Nat, q < nD D 1 → j < 4 → m19 (a + (14 + q)) j = μ (c + (14 + q)) j := fun q j h0 h1 => hc ((14 + q)) j (by omega) (Or.inl (Or.inl (Or.inl (Or.inl (Or.inl (Or.inl (Or.inl (Or.inl (Or.inr (⟨q, by omega, h0, rfl, h1⟩))))))))))
    have rm : ∀ q j : Nat, q < nD D 2 → j < 9 → m19 (a + (22 + 2 * q)) j = μ (c + (22 + 2 * q)) j := fun q j h0 h1 => hc ((22 + 2 * q)) j (by omega) (Or.inl (Or.inl (Or.inl (Or.inl (Or.inl (Or.inl (Or.inr (⟨q, by omega, h0, Or.inl ⟨rfl, h1⟩⟩))))))))
    have rf : ∀ q j : Nat, q < nD D 2 → j < 16 → m19 (a + (22 + 2 * q + 1)) j = μ (c + (22 + 2 * q + 1)) j := fun q j h0 h1 => hc ((22 + 2 * q + 1)) j (by omega) (Or.inl (Or.inl (Or.inl (Or.inl (Or.inl (Or.inl (Or.inr (⟨q, by omega, h0, Or.inr ⟨rfl, h1⟩⟩))))))))
    have rv : ∀ q j : Nat, q < nD D 3 → j < 2 → m19 (a + (54 + 2 * q)) j = μ (c + (54 + 2 * q)) j := fun q j h0 h1 => hc ((54 + 2 * q)) j (by omega) (Or.inl (Or.inl (Or.inl (Or.inl (Or.inr (⟨q, by omega, h0, Or.inl ⟨rfl, h1⟩⟩))))))
    have rh : ∀ q j : Nat, q < nD D 3 → j < 16 → m19 (a + (54 + 2 * q + 1)) j = μ (c + (54 + 2 * q + 1)) j := fun q j h0 h1 => hc ((54 + 2 * q + 1)) j (by omega) (Or.inl (Or.inl (Or.inl (Or.inl (Or.inr (⟨q, by omega, h0, Or.inr ⟨rfl, h1⟩⟩))))))
    have rb : ∀ q j : Nat, q < nD D 4 → j < 4 → m19 (a + (70 + q)) j = μ (c + (70 + q)) j := fun q j h0 h1 => hc ((70 + q)) j (by omega) (Or.inl (Or.inl (Or.inr (⟨q, by omega, h0, rfl, h1⟩))))
    have rs : ∀ q j : Nat, q < nD D 5 → j < 11 → m19 (a + (78 + q)) j = μ (c + (78 + q)) j := fun q j h0 h1 => hc ((78 + q)) j (by omega) (Or.inr (⟨q, by omega, h0, rfl, h1⟩))
    have r0 : ∀ q j : Nat, q < 4 → (j = 0 ∨ j = 1 ∨ j = 3) → m19 (a + (118 + 6 * q)) j = μ (c + (118 + 6 * q)) j := fun q j h0 h1 => hc ((118 + 6 * q)) j (by omega) (Or.inl (Or.inl (Or.inl (Or.inl (Or.inl (Or.inl (Or.inl (Or.inl (Or.inl (Or.inl (Or.inr (⟨q, by omega, h0, Or.inl ⟨rfl, h1⟩⟩))))))))))))
    have r1 : ∀ q j : Nat, q < 4 → j < (μ (c + 118 + 6 * q) 3).toNatClampNeg → m19 (a + (118 + 6 * q + 1)) j = μ (c + (118 + 6 * q + 1)) j := fun q j h0 h1 => hc ((118 + 6 * q + 1)) j (by omega) (Or.inl (Or.inl (Or.inl (Or.inl (Or.inl (Or.inl (Or.inl (Or.inl (Or.inl (Or.inl (Or.inr (⟨q, by omega, h0, Or.inr (Or.inl ⟨rfl, h1⟩)⟩))))))))))))
    have r2 : ∀ q j : Nat, q < 4 → j < 4 → m19 (a + (118 + 6 * q + 2)) j = μ (c + (118 + 6 * q + 2)) j := fun q j h0 h1 => hc ((118 + 6 * q + 2)) j (by omega) (Or.inl (Or.inl (Or.inl (Or.inl (Or.inl (Or.inl (Or.inl (Or.inl (Or.inl (Or.inl (Or.inr (⟨q, by omega, h0, Or.inr (Or.inr (Or.inl ⟨rfl, h1⟩))⟩))))))))))))
    have r3 : ∀ q j : Nat, q < 4 → j < 4 → m19 (a + (118 + 6 * q + 3)) j = μ (c + (118 + 6 * q + 3)) j := fun q j h0 h1 => hc ((118 + 6 * q + 3)) j (by omega) (Or.inl (Or.inl (Or.inl (Or.inl (Or.inl (Or.inl (Or.inl (Or.inl (Or.inl (Or.inl (Or.inr (⟨q, by omega, h0, Or.inr (Or.inr (Or.inr ⟨rfl, h1⟩))⟩))))))))))))
    simp only [← Nat.add_assoc] at rT rwd rm rf rv rh rb rs r0 r1 r2 r3
    refine ⟨g0.trans hs.today, ⟨g2.trans hs.wetN, fun i hi => (rW i (by omega)).trans (hs.wet i hi)⟩, ⟨g4.trans hs.wardN, fun i hi => (rwd i 0 hi (by omega)).trans (hs.tribe i hi), fun i hi => (rwd i 1 hi (by omega)).trans (hs.mins i hi), fun i hi => by rw [rwd i 2 hi (by omega), rwd i 3 hi (by omega)]; exact hs.harv i hi⟩, ⟨g6.trans hs.manN, fun i j hi hj => (rm i j hi hj).trans (hs.man i j hi hj), fun i k hi hk => (rf i k hi hk).trans (hs.fear i k hi hk)⟩, ⟨g8.trans hs.wordN, fun v j hv hj => (rv v j hv hj).trans (hs.word v j hv hj), fun v i hv hi => (rh v i hv (by omega)).trans (hs.heard v i hv hi), fun v i hv h1 h2 => (rh v i hv h2).trans (hs.unheard v i hv h1 h2)⟩, ⟨g10.trans hs.barN, fun b j hb hj => (rb b j hb hj).trans (hs.bar b j hb hj)⟩, ⟨g12.trans hs.sheN, fun s j h hj => (rs s j h (by omega)).trans (hs.she s j h hj)⟩, ⟨fun s h => (rs s 9 h (by omega)).trans (hs.exact s h), fun s h => (rs s 10 h (by omega)).trans (hs.near s h)⟩, ⟨g14.trans hs.force, fun j hj => (rR j hj).trans (hs.rule j hj), fun t g ht hg => (rT t g ht hg).trans (hs.tal t g ht hg)⟩, ⟨g18.trans hs.heapN, fun k hk => (rH k (by omega)).trans (hs.heap k hk)⟩, ?_, ?_⟩
    · intro i hi
      obtain ⟨cs, hcs, h3⟩ := hs.lawB i hi
      have t3 : (μ (c + 118 + 6 * i) 3).toNatClampNeg = cs := by rw [h3, nI_clamp (by omega)]
      rcases hs.law i hi with ⟨q1, q2⟩ | ⟨q1, q2, q3⟩
      · exact Or.inl ⟨q1, (r0 i 0 hi (by omega)).trans q2⟩
      · exact Or.inr ⟨q1, (r0 i 0 hi (by omega)).trans q2, q3.shift h3 hcs (fun j hj => r0 i j hi hj) (fun j hj => r1 i j hi (by rw [t3]; exact hj)) (fun j hj => r2 i j hi hj) (fun j hj => r3 i j hi hj)⟩
    · intro i hi
      obtain ⟨cs, hcs, h3⟩ := hs.lawB i hi
      exact ⟨cs, hcs, (r0 i 3 hi (by omega)).trans h3⟩
end BECOME
