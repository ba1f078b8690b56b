-- ===== hands: the search =====
theorem dig_sym : ∀ a, a < 10 → ∀ b, b < 10 → mAbs (nI a - nI b) = mAbs (nI b - nI a) := by decide +kernel
theorem al_sym : ∀ k j a b (w : Int32), a < 2 ^ 31 → b < 2 ^ 31 → (itS alStep k j (nI a, nI b, w)).2.2 = (itS alStep k j (nI b, nI a, w)).2.2 := by
  intro k
  induction k with
  | zero => intro j a b w _ _; rfl
  | succ k ih =>
    intro j a b w ha hb
    have r1 : iRem (nI a) 10 = nI (a % 10) := pk_rem (d := 10) ha (by decide) (by decide)
    have r2 : iRem (nI b) 10 = nI (b % 10) := pk_rem (d := 10) hb (by decide) (by decide)
    have d1 : nI a / 10 = nI (a / 10) := pk_div (d := 10) ha (by decide) (by decide)
    have d2 : nI b / 10 = nI (b / 10) := pk_div (d := 10) hb (by decide) (by decide)
    have e := dig_sym (a % 10) (Nat.mod_lt _ (by omega)) (b % 10) (Nat.mod_lt _ (by omega))
    simp only [itS, alStep, r1, r2, d1, d2]
    rw [e]
    exact ih (j + 1) (a / 10) (b / 10) _ (by omega) (by omega)
theorem alB_sym {D : DR} (hI : Inv D) {s o : Nat} (h1 : s < nD D 5) (h2 : o < nD D 5) : alB D s o = alB D o s := by
  obtain ⟨a, ha, ea⟩ := hI.sHand s h1
  obtain ⟨b, hb, eb⟩ := hI.sHand o h2
  unfold alB
  rw [ea, eb, al_sym 4 0 a b 0 (by omega) (by omega)]
theorem xorN (a b : Nat) : nI a ^^^ nI b = nI (a ^^^ b) := by
  apply Int32.toBitVec_inj.mp
  rw [Int32.toBitVec_xor, nI_bv, nI_bv, nI_bv]
  exact (BitVec.ofNat_xor (x := a) (y := b)).symm
theorem andNot0 {A B : Nat} (hA : A < 2 ^ 16) : (nI A &&& (nI B ^^^ (-1)) = 0) = ∀ k, A.testBit k = true → k < 32 → B.testBit k = true := by
  have e1 : (-1 : Int32) = nI (2 ^ 32 - 1) := by decide
  have hle : A &&& (B ^^^ (2 ^ 32 - 1)) ≤ A := Nat.and_le_left
  have e2 : (nI A &&& (nI B ^^^ (-1)) = 0) = (A &&& (B ^^^ (2 ^ 32 - 1)) = 0) := by
    rw [e1, xorN, andN]
    exact propext (nI_eq (a := A &&& (B ^^^ (2 ^ 32 - 1))) (b := 0) (by omega) (by omega))
  rw [e2]
  refine propext ⟨fun h k hk h32 => ?_, fun h => ?_⟩
  · have q := congrArg (fun z => z.testBit k) h
    simp only [Nat.testBit_and, Nat.testBit_xor, Nat.testBit_two_pow_sub_one, hk, h32, decide_true, Nat.zero_testBit, Bool.true_and] at q
    simpa using q
  · refine Nat.eq_of_testBit_eq (fun k => ?_)
    rw [Nat.testBit_and, Nat.testBit_xor, Nat.testBit_two_pow_sub_one, Nat.zero_testBit]
    by_cases hk : A.testBit k = true
    · by_cases h32 : k < 32
      · rw [h k hk h32, hk]
        simp [h32]
      · have : A < 2 ^ k := Nat.lt_of_lt_of_le hA (Nat.pow_le_pow_right (by omega) (by omega))
        rw [Nat.testBit_lt_two_pow this] at hk
        cases hk
    · simp [hk]
def alH (D : DR) (k i : Nat) : Bool := alB D (nD D (1011 + k)) (nD D (1011 + i))
def okP (al : Nat → Nat → Bool) (P : Nat → Nat) (i p : Nat) : Nat → Bool
  | 0 => true
  | k + 1 => okP al P i p k && (decide (P k ≠ p) || al k i)
def upN (P : Nat → Nat) (i p : Nat) : Nat → Nat := fun k => if k = i then p else P k
def seL (al : Nat → Nat → Bool) (kr : Nat → (Nat → Nat) → Option (Nat → Nat)) (most i used : Nat) (P : Nat → Nat) : Nat → Nat → Option (Nat → Nat)
  | 0, _ => none
  | q + 1, p => if used < p ∨ most ≤ p then none else if okP al P i p i then (match kr (if p = used then used + 1 else used) (upN P i p) with
      | some P' => some P'
      | none => seL al kr most i used P q (p + 1)) else seL al kr most i used P q (p + 1)
def seP (al : Nat → Nat → Bool) (most : Nat) : Nat → Nat → Nat → (Nat → Nat) → Option (Nat → Nat)
  | 0, _, _, P => some P
  | r + 1, i, used, P => seL al (seP al most r (i + 1)) most i used P 11 0
section SEARCH
variable {al : Nat → Nat → Bool} {most i used : Nat} {P : Nat → Nat}
theorem okP_iff (p : Nat) : ∀ K, okP al P i p K = true ↔ ∀ k, k < K → P k = p → al k i = true := by
  intro K
  induction K with
  | zero => exact ⟨fun _ k hk => absurd hk (by omega), fun _ => rfl⟩
  | succ K ih =>
    rw [okP, Bool.and_eq_true, ih]
    refine ⟨fun ⟨h1, h2⟩ k hk hp => ?_, fun h => ⟨fun k hk hp => h k (by omega) hp, ?_⟩⟩
    · by_cases hkK : k = K
      · subst hkK
        simp only [hp, ne_eq, not_true, decide_false, Bool.false_or] at h2
        exact h2
      · exact h1 k (by omega) hp
    · by_cases hp : P K = p
      · rw [h K (by omega) hp, Bool.or_true]
      · rw [decide_eq_true hp, Bool.true_or]
theorem upN_at {p : Nat} : upN P i p i = p := by simp [upN]
theorem upN_ne {p k : Nat} (h : ¬ k = i) : upN P i p k = P k := by simp [upN, h]
theorem seL_some {kr : Nat → (Nat → Nat) → Option (Nat → Nat)} (hu : used < most) (hok : okP al P i used i = true) (hkr : (kr (used + 1) (upN P i used)).isSome = true) : ∀ q p, p ≤ used → used - p < q → (seL al kr most i used P q p).isSome = true := by
  intro q
  induction q with
  | zero => intro p _ h; omega
  | succ q ih =>
    intro p hp hq
    rw [seL, if_neg (by omega)]
    by_cases hpu : p = used
    · subst hpu
      rw [if_pos hok, if_pos rfl]
      obtain ⟨P', hP'⟩ := Option.isSome_iff_exists.mp hkr
      rw [hP']
      rfl
    · have hn := ih (p + 1) (by omega) (by omega)
      by_cases hk : okP al P i p i = true
      · rw [if_pos hk]
        cases hz : kr (if p = used then used + 1 else used) (upN P i p) with
        | some P' => rfl
        | none => exact hn
      · rw [if_neg hk]
        exact hn
theorem seP_some : ∀ r i used (P : Nat → Nat), used + r ≤ 10 → (∀ k, k < i → P k < used) → used + r ≤ most → (seP al most r i used P).isSome = true := by
  intro r
  induction r with
  | zero => intro i used P _ _ _; rfl
  | succ r ih =>
    intro i used P hu9 hP hm
    rw [seP]
    refine seL_some (by omega) ((okP_iff used i).mpr (fun k hk hp => absurd hp (by have := hP k hk; omega))) ?_ 11 0 (by omega) (by omega)
    exact ih (i + 1) (used + 1) (upN P i used) (by omega) (fun k hk => by
      by_cases hki : k = i
      · subst hki; rw [upN_at]; omega
      · rw [upN_ne hki]; have := hP k (by omega); omega) (by omega)
end SEARCH
