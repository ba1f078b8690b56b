-- ===== loops as iterations =====
def itS {σ : Type} (f : Nat → σ → σ) : Nat → Nat → σ → σ
  | 0, _, s => s
  | k + 1, j, s => itS f k (j + 1) (f j s)
theorem itS_snoc {σ : Type} (f : Nat → σ → σ) (k : Nat) : ∀ (j : Nat) (s : σ), itS f (k + 1) j s = f (j + k) (itS f k j s) := by
  induction k with
  | zero => intro j s; rfl
  | succ k ih =>
    intro j s
    show itS f (k + 1) (j + 1) (f j s) = f (j + (k + 1)) (itS f k (j + 1) (f j s))
    rw [ih, show j + 1 + k = j + (k + 1) from by omega]
theorem itS_congr {σ : Type} {f g : Nat → σ → σ} (k : Nat) : ∀ (j : Nat) (s : σ), (∀ i s, j ≤ i → i < j + k → f i s = g i s) → itS f k j s = itS g k j s := by
  induction k with
  | zero => intro j s _; rfl
  | succ k ih =>
    intro j s h
    show itS f k (j + 1) (f j s) = itS g k (j + 1) (g j s)
    rw [h j s (by omega) (by omega)]
    exact ih (j + 1) _ (fun i s h1 h2 => h i s (by omega) (by omega))
theorem itS_inv {σ : Type} {f : Nat → σ → σ} (P : Nat → σ → Prop) (k : Nat) : ∀ (j : Nat) (s : σ), P j s → (∀ i s, j ≤ i → i < j + k → P i s → P (i + 1) (f i s)) → P (j + k) (itS f k j s) := by
  induction k with
  | zero => intro j s h _; exact h
  | succ k ih =>
    intro j s h hs
    have := ih (j + 1) (f j s) (hs j s (by omega) (by omega) h) (fun i s h1 h2 h3 => hs i s (by omega) (by omega) h3)
    rw [show j + (k + 1) = j + 1 + k from by omega]
    exact this
/-- two iterations side by side -/
theorem itS_rel {σ τ : Type} {f : Nat → σ → σ} {g : Nat → τ → τ} (P : σ → τ → Prop) (k : Nat) : ∀ (j : Nat) (s : σ) (t : τ), P s t → (∀ i s t, j ≤ i → i < j + k → P s t → P (f i s) (g i t)) → P (itS f k j s) (itS g k j t) := by
  induction k with
  | zero => intro j s t h _; exact h
  | succ k ih =>
    intro j s t h hs
    exact ih (j + 1) _ _ (hs j s t (by omega) (by omega) h) (fun i s t h1 h2 h3 => hs i s t (by omega) (by omega) h3)
/-- does it hold of one from j on, k of them -/
def anyS (p : Nat → Bool) : Nat → Nat → Bool
  | 0, _ => false
  | k + 1, j => p j || anyS p k (j + 1)
def allS (p : Nat → Bool) : Nat → Nat → Bool
  | 0, _ => true
  | k + 1, j => p j && allS p k (j + 1)
theorem allS_iff (p : Nat → Bool) (k : Nat) : ∀ j, allS p k j = true ↔ ∀ i, j ≤ i → i < j + k → p i = true := by
  induction k with
  | zero => intro j; simp [allS]; intro i h1 h2; omega
  | succ k ih =>
    intro j
    simp only [allS, Bool.and_eq_true, ih]
    constructor
    · intro ⟨h1, h2⟩ i hi hk
      by_cases h : i = j
      · rw [h]; exact h1
      · exact h2 i (by omega) (by omega)
    · intro h
      exact ⟨h j (by omega) (by omega), fun i h1 h2 => h i (by omega) (by omega)⟩
-- ===== numbers =====
theorem i32_lt {a b : Int32} : a < b ↔ a.toInt < b.toInt := Int32.lt_iff_toInt_lt
theorem i32_le {a b : Int32} : a ≤ b ↔ a.toInt ≤ b.toInt := Int32.le_iff_toInt_le
theorem i32_nlt {a b : Int32} : ¬ a < b ↔ b.toInt ≤ a.toInt := by rw [i32_lt]; omega
theorem i32_eq {a b : Int32} : a = b ↔ a.toInt = b.toInt := ⟨fun h => by rw [h], fun h => Int32.toInt_inj.mp h⟩
theorem i32_add {a b : Int32} (h1 : - 2147483648 ≤ a.toInt + b.toInt) (h2 : a.toInt + b.toInt < 2147483648) : (a + b).toInt = a.toInt + b.toInt := by
  rw [Int32.toInt_add]
  exact Int.bmod_eq_of_le (by omega) (by omega)
theorem i32_sub {a b : Int32} (h1 : - 2147483648 ≤ a.toInt - b.toInt) (h2 : a.toInt - b.toInt < 2147483648) : (a - b).toInt = a.toInt - b.toInt := by
  rw [Int32.toInt_sub]
  exact Int.bmod_eq_of_le (by omega) (by omega)
theorem i32_lo (a : Int32) : - 2147483648 ≤ a.toInt := by
  have := Int32.le_toInt a
  omega
theorem i32_hi (a : Int32) : a.toInt < 2147483648 := by
  have := Int32.toInt_lt a
  omega
theorem i32_of (k : Nat) (hk : k < 2 ^ 31) : (no_index (OfNat.ofNat k) : Int32).toInt = (OfNat.ofNat k : Int) := nI_toInt hk
theorem i32_0 : (0 : Int32).toInt = 0 := by decide
theorem i32_m1 : (-1 : Int32).toInt = -1 := by decide
-- ===== an index into a count =====
def ixB (a : Int32) (N : Nat) : Bool := decide (¬ a < 0 ∧ a < nI N)
theorem ixB_in {a : Int32} {N : Nat} (hN : N < 2 ^ 31) : inS a 0 (nI N - 1) = ixB a N := by
  unfold inS ixB
  have h0 := i32_0
  have hn := nI_toInt hN
  have h1 : (1 : Int32).toInt = 1 := by decide
  have hs : (nI N - 1).toInt = (N : Int) - 1 := by rw [i32_sub] <;> omega
  congr 1
  simp only [i32_lt, hs, h0, hn, eq_iff_iff]
  omega
theorem ixB_ex {a : Int32} {N : Nat} (hN : N < 2 ^ 31) (h : ixB a N = true) : ∃ i, i < N ∧ a = nI i := by
  simp only [ixB, decide_eq_true_eq] at h
  obtain ⟨j, hj, rfl⟩ := nI_of h.1
  exact ⟨j, (nI_ltI hj hN).mp h.2, rfl⟩
theorem ixB_of {i N : Nat} (hN : N < 2 ^ 31) (h : i < N) : ixB (nI i) N = true := by
  simp only [ixB, decide_eq_true_eq]
  exact ⟨nI_pos (by omega), nI_lt h hN⟩
/-- a number is one of a range -/
theorem inS_ex {a : Int32} {M : Nat} (hM : M < 2 ^ 31) (h : inS a 0 (nI M) = true) : ∃ i, i ≤ M ∧ a = nI i := by
  simp only [inS, decide_eq_true_eq] at h
  obtain ⟨j, hj, rfl⟩ := nI_of h.1
  refine ⟨j, ?_, rfl⟩
  have := mt (nI_lt (a := M) (b := j) · hj) h.2
  omega
theorem inS_o {a : Int32} {M : Nat} (hM : M < 2 ^ 31) (h : inS a (-1) (nI M) = true) : isO a (M + 1) := by
  simp only [inS, decide_eq_true_eq, i32_lt, i32_m1] at h
  rw [nI_toInt hM] at h
  by_cases h0 : a < 0
  · left
    rw [i32_lt, i32_0] at h0
    rw [i32_eq, i32_m1]
    omega
  · obtain ⟨j, hj, rfl⟩ := nI_of h0
    rw [nI_toInt hj] at h
    exact Or.inr ⟨j, by omega, rfl⟩
theorem inS_n {a : Int32} {M : Nat} (hM : M < 2 ^ 31) (h : inS a 0 (nI M) = true) : isN a (M + 1) := by
  obtain ⟨i, hi, rfl⟩ := inS_ex hM h
  exact ⟨i, by omega, rfl⟩
theorem isO_neg {v : Int32} {b : Nat} (h : isO v b) (hb : b < 2 ^ 31) : v < 0 ↔ v = -1 := by
  rcases h with rfl | ⟨k, hk, rfl⟩
  · exact ⟨fun _ => rfl, fun _ => by decide⟩
  · constructor
    · intro h; exact absurd h (nI_pos (by omega))
    · intro h; rw [h]; decide
theorem isO_n {v : Int32} {b : Nat} (h : isO v b) (h0 : ¬ v < 0) : ∃ k, k < b ∧ v = nI k := by
  rcases h with rfl | h
  · exact absurd (by decide) h0
  · exact h
-- ===== small questions =====
section SMALL
variable {n : Nat} {st : Nat → Nat} {S : SH} {μ : MU} {m c : Nat} {D : DR}
theorem k_within (a b c : Int32) (h : AH) : f_X11_within a b c h = some (bI (inS a b c)) := by
  unfold f_X11_within inS bI
  by_cases h1 : a < b
  · simp [h1]
  · by_cases h2 : c < a
    · simp [h1, h2]
    · simp [h1, h2]
theorem k_isDay (k : Int32) (h : AH) : f_X11_isDay k h = some (bI (inS k 0 9999)) := by
  simp [f_X11_isDay, k_within, rZ_bI]
theorem k_isClub (k : Int32) (h : AH) : f_X11_isClub k h = some (bI (inS k 0 5)) := by
  simp [f_X11_isClub, k_within, rZ_bI]
theorem r_isWard (hS : ShM S m) (hD : μ (m + 1) = D) (hI : Inv D) (a : Int32) : f_X12_isWard (some m) a (mkH n st S μ) = some (bI (ixB a (nD D 1))) := by
  obtain ⟨e0, b0⟩ := hI.today
  obtain ⟨e1, b1⟩ := hI.wards
  obtain ⟨e2, b2⟩ := hI.men
  obtain ⟨e3, b3⟩ := hI.words
  obtain ⟨e4, b4⟩ := hI.bars
  obtain ⟨e5, b5⟩ := hI.shes
  obtain ⟨e6, b6⟩ := hI.wets
  obtain ⟨e8, b8⟩ := hI.heaped
  simp (disch := omega) only [some_bind, ite_bI0, lit_add, lit_addr, lit_mul, lit_aI, lit_aZ, lit_aR, lit_sI, lit_sZ, nI_add, pk_mul, nn_lt, up2_same, up2_ne, if_pos, if_neg, Nat.reduceAdd, Nat.reduceMul, Option.bind_some, mR0 hS, mA0 hS, mS0 hS, mR1 hS, mA1 hS, mS1 hS, mI2 hS, mP2 hS, mZ2_0 hS, mZ2_1 hS, mR3 hS, mA3 hS, mS3 hS, mI4 hS, mP4 hS, mR5 hS, mA5 hS, mS5 hS, mR6 hS, mA6 hS, mS6 hS, mR7 hS, mA7 hS, mS7 hS, mR8 hS, mA8 hS, mS8 hS, mR9 hS, mA9 hS, mS9 hS, mR10 hS, mA10 hS, mS10 hS, mI11 hS, mP11 hS, mI12 hS, mP12 hS, mI13 hS, mP13 hS, mI14 hS, mP14 hS, mI15 hS, mP15 hS, mI16 hS, mP16 hS, mI17 hS, mP17 hS, mI18 hS, mP18 hS, mR19 hS, mA19 hS, mS19 hS, mR20 hS, mA20 hS, mS20 hS, mR21 hS, mA21 hS, mS21 hS, mI22 hS, mP22 hS, mI23 hS, mP23 hS, mI24 hS, mP24 hS, mI25 hS, mP25 hS, mI26 hS, mP26 hS, mR27 hS, mA27 hS, mS27 hS, mR28 hS, mA28 hS, mS28 hS, mI29 hS, mP29 hS, mR30 hS, mA30 hS, mS30 hS, mR31 hS, mA31 hS, mS31 hS, mR32 hS, mA32 hS, mS32 hS, mR33 hS, mA33 hS, mS33 hS, mR34 hS, mA34 hS, mS34 hS, mR35 hS, mA35 hS, mS35 hS, mR36 hS, mA36 hS, mS36 hS, mR37 hS, mA37 hS, mS37 hS, mI38 hS, mP38 hS, mI39 hS, mP39 hS, mI40 hS, mP40 hS, mI41 hS, mP41 hS, mI42 hS, mP42 hS, mZ42_0 hS, mZ42_1 hS, rck hS, f_X12_isWard, hD, s_in, rZ_bI]
  rw [e1, ixB_in (by omega)]
theorem r_isMan (hS : ShM S m) (hD : μ (m + 1) = D) (hI : Inv D) (a : Int32) : f_X12_isMan (some m) a (mkH n st S μ) = some (bI (ixB a (nD D 2))) := by
  obtain ⟨e0, b0⟩ := hI.today
  obtain ⟨e1, b1⟩ := hI.wards
  obtain ⟨e2, b2⟩ := hI.men
  obtain ⟨e3, b3⟩ := hI.words
  obtain ⟨e4, b4⟩ := hI.bars
  obtain ⟨e5, b5⟩ := hI.shes
  obtain ⟨e6, b6⟩ := hI.wets
  obtain ⟨e8, b8⟩ := hI.heaped
  simp (disch := omega) only [some_bind, ite_bI0, lit_add, lit_addr, lit_mul, lit_aI, lit_aZ, lit_aR, lit_sI, lit_sZ, nI_add, pk_mul, nn_lt, up2_same, up2_ne, if_pos, if_neg, Nat.reduceAdd, Nat.reduceMul, Option.bind_some, mR0 hS, mA0 hS, mS0 hS, mR1 hS, mA1 hS, mS1 hS, mI2 hS, mP2 hS, mZ2_0 hS, mZ2_1 hS, mR3 hS, mA3 hS, mS3 hS, mI4 hS, mP4 hS, mR5 hS, mA5 hS, mS5 hS, mR6 hS, mA6 hS, mS6 hS, mR7 hS, mA7 hS, mS7 hS, mR8 hS, mA8 hS, mS8 hS, mR9 hS, mA9 hS, mS9 hS, mR10 hS, mA10 hS, mS10 hS, mI11 hS, mP11 hS, mI12 hS, mP12 hS, mI13 hS, mP13 hS, mI14 hS, mP14 hS, mI15 hS, mP15 hS, mI16 hS, mP16 hS, mI17 hS, mP17 hS, mI18 hS, mP18 hS, mR19 hS, mA19 hS, mS19 hS, mR20 hS, mA20 hS, mS20 hS, mR21 hS, mA21 hS, mS21 hS, mI22 hS, mP22 hS, mI23 hS, mP23 hS, mI24 hS, mP24 hS, mI25 hS, mP25 hS, mI26 hS, mP26 hS, mR27 hS, mA27 hS, mS27 hS, mR28 hS, mA28 hS, mS28 hS, mI29 hS, mP29 hS, mR30 hS, mA30 hS, mS30 hS, mR31 hS, mA31 hS, mS31 hS, mR32 hS, mA32 hS, mS32 hS, mR33 hS, mA33 hS, mS33 hS, mR34 hS, mA34 hS, mS34 hS, mR35 hS, mA35 hS, mS35 hS, mR36 hS, mA36 hS, mS36 hS, mR37 hS, mA37 hS, mS37 hS, mI38 hS, mP38 hS, mI39 hS, mP39 hS, mI40 hS, mP40 hS, mI41 hS, mP41 hS, mI42 hS, mP42 hS, mZ42_0 hS, mZ42_1 hS, rck hS, f_X12_isMan, hD, s_in, rZ_bI]
  rw [e2, ixB_in (by omega)]
theorem r_isSherd (hS : ShM S m) (hD : μ (m + 1) = D) (hI : Inv D) (a : Int32) : f_X12_isSherd (some m) a (mkH n st S μ) = some (bI (ixB a (nD D 5))) := by
  obtain ⟨e0, b0⟩ := hI.today
  obtain ⟨e1, b1⟩ := hI.wards
  obtain ⟨e2, b2⟩ := hI.men
  obtain ⟨e3, b3⟩ := hI.words
  obtain ⟨e4, b4⟩ := hI.bars
  obtain ⟨e5, b5⟩ := hI.shes
  obtain ⟨e6, b6⟩ := hI.wets
  obtain ⟨e8, b8⟩ := hI.heaped
  simp (disch := omega) only [some_bind, ite_bI0, lit_add, lit_addr, lit_mul, lit_aI, lit_aZ, lit_aR, lit_sI, lit_sZ, nI_add, pk_mul, nn_lt, up2_same, up2_ne, if_pos, if_neg, Nat.reduceAdd, Nat.reduceMul, Option.bind_some, mR0 hS, mA0 hS, mS0 hS, mR1 hS, mA1 hS, mS1 hS, mI2 hS, mP2 hS, mZ2_0 hS, mZ2_1 hS, mR3 hS, mA3 hS, mS3 hS, mI4 hS, mP4 hS, mR5 hS, mA5 hS, mS5 hS, mR6 hS, mA6 hS, mS6 hS, mR7 hS, mA7 hS, mS7 hS, mR8 hS, mA8 hS, mS8 hS, mR9 hS, mA9 hS, mS9 hS, mR10 hS, mA10 hS, mS10 hS, mI11 hS, mP11 hS, mI12 hS, mP12 hS, mI13 hS, mP13 hS, mI14 hS, mP14 hS, mI15 hS, mP15 hS, mI16 hS, mP16 hS, mI17 hS, mP17 hS, mI18 hS, mP18 hS, mR19 hS, mA19 hS, mS19 hS, mR20 hS, mA20 hS, mS20 hS, mR21 hS, mA21 hS, mS21 hS, mI22 hS, mP22 hS, mI23 hS, mP23 hS, mI24 hS, mP24 hS, mI25 hS, mP25 hS, mI26 hS, mP26 hS, mR27 hS, mA27 hS, mS27 hS, mR28 hS, mA28 hS, mS28 hS, mI29 hS, mP29 hS, mR30 hS, mA30 hS, mS30 hS, mR31 hS, mA31 hS, mS31 hS, mR32 hS, mA32 hS, mS32 hS, mR33 hS, mA33 hS, mS33 hS, mR34 hS, mA34 hS, mS34 hS, mR35 hS, mA35 hS, mS35 hS, mR36 hS, mA36 hS, mS36 hS, mR37 hS, mA37 hS, mS37 hS, mI38 hS, mP38 hS, mI39 hS, mP39 hS, mI40 hS, mP40 hS, mI41 hS, mP41 hS, mI42 hS, mP42 hS, mZ42_0 hS, mZ42_1 hS, rck hS, f_X12_isSherd, hD, s_in, rZ_bI]
  rw [e5, ixB_in (by omega)]
theorem has_ix (a v : Int32) (N : Nat) (hv : v = nI N) : (if a < 0 then some 0 else if a < v then some 1 else some 0 : Option Int32) = some (bI (ixB a N)) := by
  subst hv
  unfold ixB bI
  by_cases h1 : a < 0
  · simp [h1]
  · by_cases h2 : a < nI N
    · simp [h1, h2]
    · simp [h1, h2]
theorem k_hasWard (hC : ShC S c) (hs : Sim μ c D) (hI : Inv D) (a : Int32) : f_X2_hasWard (some c) a (mkH n st S μ) = some (bI (ixB a (nD D 1))) := by
  simp (disch := omega) only [some_bind, ite_bI0, lit_add, lit_addr, lit_mul, lit_aI, lit_aZ, lit_aR, lit_sI, lit_sZ, nI_add, pk_mul, nn_lt, up2_same, up2_ne, if_pos, if_neg, Nat.reduceAdd, Nat.reduceMul, Option.bind_some, cI0 hC, cP0 hC, cR1 hC, cI2 hC, cP2 hC, cR3 hC, cI4 hC, cP4 hC, cR5 hC, cI6 hC, cP6 hC, cR7 hC, cI8 hC, cP8 hC, cR9 hC, cI10 hC, cP10 hC, cR11 hC, cI12 hC, cP12 hC, cR13 hC, cI14 hC, cP14 hC, cR15 hC, cR16 hC, cR17 hC, cI18 hC, cP18 hC, cR19 hC, cck hC, cAWet hC, cSWet hC, cARul hC, cSRul hC, cAHea hC, cSHea hC, cALin hC, cSLin hC, cATal hC, cSTal hC, cEwards hC, cEmen hC, cEwords hC, cEbargains hC, cEsherds hC, cElaws hC, cEtallies hC, oWardI hC, oWardP hC, oWardZ0 hC, oWardZ1 hC, oWardK hC, oBarI hC, oBarP hC, oBarZ0 hC, oBarZ1 hC, oBarK hC, oSheI hC, oSheP hC, oSheZ0 hC, oSheZ1 hC, oSheK hC, oManI hC, oManP hC, oManZ0 hC, oManZ1 hC, oManK hC, oManR hC, oManA hC, oManS hC, oWordI hC, oWordP hC, oWordZ0 hC, oWordZ1 hC, oWordK hC, oWordR hC, oWordA hC, oWordS hC, f_X2_hasWard]
  exact has_ix a _ _ (by rw [hs.wardN]; exact hI.wards.1)
theorem k_hasMan (hC : ShC S c) (hs : Sim μ c D) (hI : Inv D) (a : Int32) : f_X2_hasMan (some c) a (mkH n st S μ) = some (bI (ixB a (nD D 2))) := by
  simp (disch := omega) only [some_bind, ite_bI0, lit_add, lit_addr, lit_mul, lit_aI, lit_aZ, lit_aR, lit_sI, lit_sZ, nI_add, pk_mul, nn_lt, up2_same, up2_ne, if_pos, if_neg, Nat.reduceAdd, Nat.reduceMul, Option.bind_some, cI0 hC, cP0 hC, cR1 hC, cI2 hC, cP2 hC, cR3 hC, cI4 hC, cP4 hC, cR5 hC, cI6 hC, cP6 hC, cR7 hC, cI8 hC, cP8 hC, cR9 hC, cI10 hC, cP10 hC, cR11 hC, cI12 hC, cP12 hC, cR13 hC, cI14 hC, cP14 hC, cR15 hC, cR16 hC, cR17 hC, cI18 hC, cP18 hC, cR19 hC, cck hC, cAWet hC, cSWet hC, cARul hC, cSRul hC, cAHea hC, cSHea hC, cALin hC, cSLin hC, cATal hC, cSTal hC, cEwards hC, cEmen hC, cEwords hC, cEbargains hC, cEsherds hC, cElaws hC, cEtallies hC, oWardI hC, oWardP hC, oWardZ0 hC, oWardZ1 hC, oWardK hC, oBarI hC, oBarP hC, oBarZ0 hC, oBarZ1 hC, oBarK hC, oSheI hC, oSheP hC, oSheZ0 hC, oSheZ1 hC, oSheK hC, oManI hC, oManP hC, oManZ0 hC, oManZ1 hC, oManK hC, oManR hC, oManA hC, oManS hC, oWordI hC, oWordP hC, oWordZ0 hC, oWordZ1 hC, oWordK hC, oWordR hC, oWordA hC, oWordS hC, f_X2_hasMan]
  exact has_ix a _ _ (by rw [hs.manN]; exact hI.men.1)
theorem k_hasBargain (hC : ShC S c) (hs : Sim μ c D) (hI : Inv D) (a : Int32) : f_X2_hasBargain (some c) a (mkH n st S μ) = some (bI (ixB a (nD D 4))) := by
  simp (disch := omega) only [some_bind, ite_bI0, lit_add, lit_addr, lit_mul, lit_aI, lit_aZ, lit_aR, lit_sI, lit_sZ, nI_add, pk_mul, nn_lt, up2_same, up2_ne, if_pos, if_neg, Nat.reduceAdd, Nat.reduceMul, Option.bind_some, cI0 hC, cP0 hC, cR1 hC, cI2 hC, cP2 hC, cR3 hC, cI4 hC, cP4 hC, cR5 hC, cI6 hC, cP6 hC, cR7 hC, cI8 hC, cP8 hC, cR9 hC, cI10 hC, cP10 hC, cR11 hC, cI12 hC, cP12 hC, cR13 hC, cI14 hC, cP14 hC, cR15 hC, cR16 hC, cR17 hC, cI18 hC, cP18 hC, cR19 hC, cck hC, cAWet hC, cSWet hC, cARul hC, cSRul hC, cAHea hC, cSHea hC, cALin hC, cSLin hC, cATal hC, cSTal hC, cEwards hC, cEmen hC, cEwords hC, cEbargains hC, cEsherds hC, cElaws hC, cEtallies hC, oWardI hC, oWardP hC, oWardZ0 hC, oWardZ1 hC, oWardK hC, oBarI hC, oBarP hC, oBarZ0 hC, oBarZ1 hC, oBarK hC, oSheI hC, oSheP hC, oSheZ0 hC, oSheZ1 hC, oSheK hC, oManI hC, oManP hC, oManZ0 hC, oManZ1 hC, oManK hC, oManR hC, oManA hC, oManS hC, oWordI hC, oWordP hC, oWordZ0 hC, oWordZ1 hC, oWordK hC, oWordR hC, oWordA hC, oWordS hC, f_X2_hasBargain]
  exact has_ix a _ _ (by rw [hs.barN]; exact hI.bars.1)
theorem k_hasSherd (hC : ShC S c) (hs : Sim μ c D) (hI : Inv D) (a : Int32) : f_X2_hasSherd (some c) a (mkH n st S μ) = some (bI (ixB a (nD D 5))) := by
  simp (disch := omega) only [some_bind, ite_bI0, lit_add, lit_addr, lit_mul, lit_aI, lit_aZ, lit_aR, lit_sI, lit_sZ, nI_add, pk_mul, nn_lt, up2_same, up2_ne, if_pos, if_neg, Nat.reduceAdd, Nat.reduceMul, Option.bind_some, cI0 hC, cP0 hC, cR1 hC, cI2 hC, cP2 hC, cR3 hC, cI4 hC, cP4 hC, cR5 hC, cI6 hC, cP6 hC, cR7 hC, cI8 hC, cP8 hC, cR9 hC, cI10 hC, cP10 hC, cR11 hC, cI12 hC, cP12 hC, cR13 hC, cI14 hC, cP14 hC, cR15 hC, cR16 hC, cR17 hC, cI18 hC, cP18 hC, cR19 hC, cck hC, cAWet hC, cSWet hC, cARul hC, cSRul hC, cAHea hC, cSHea hC, cALin hC, cSLin hC, cATal hC, cSTal hC, cEwards hC, cEmen hC, cEwords hC, cEbargains hC, cEsherds hC, cElaws hC, cEtallies hC, oWardI hC, oWardP hC, oWardZ0 hC, oWardZ1 hC, oWardK hC, oBarI hC, oBarP hC, oBarZ0 hC, oBarZ1 hC, oBarK hC, oSheI hC, oSheP hC, oSheZ0 hC, oSheZ1 hC, oSheK hC, oManI hC, oManP hC, oManZ0 hC, oManZ1 hC, oManK hC, oManR hC, oManA hC, oManS hC, oWordI hC, oWordP hC, oWordZ0 hC, oWordZ1 hC, oWordK hC, oWordR hC, oWordA hC, oWordS hC, f_X2_hasSherd]
  exact has_ix a _ _ (by rw [hs.sheN]; exact hI.shes.1)
theorem k_areTwoMen (hC : ShC S c) (hs : Sim μ c D) (hI : Inv D) (a b : Int32) : f_X2_areTwoMen (some c) a b (mkH n st S μ) = some (bI (ixB a (nD D 2) && ixB b (nD D 2) && decide (a ≠ b))) := by
  simp (disch := omega) only [some_bind, ite_bI0, lit_add, lit_addr, lit_mul, lit_aI, lit_aZ, lit_aR, lit_sI, lit_sZ, nI_add, pk_mul, nn_lt, up2_same, up2_ne, if_pos, if_neg, Nat.reduceAdd, Nat.reduceMul, Option.bind_some, cI0 hC, cP0 hC, cR1 hC, cI2 hC, cP2 hC, cR3 hC, cI4 hC, cP4 hC, cR5 hC, cI6 hC, cP6 hC, cR7 hC, cI8 hC, cP8 hC, cR9 hC, cI10 hC, cP10 hC, cR11 hC, cI12 hC, cP12 hC, cR13 hC, cI14 hC, cP14 hC, cR15 hC, cR16 hC, cR17 hC, cI18 hC, cP18 hC, cR19 hC, cck hC, cAWet hC, cSWet hC, cARul hC, cSRul hC, cAHea hC, cSHea hC, cALin hC, cSLin hC, cATal hC, cSTal hC, cEwards hC, cEmen hC, cEwords hC, cEbargains hC, cEsherds hC, cElaws hC, cEtallies hC, oWardI hC, oWardP hC, oWardZ0 hC, oWardZ1 hC, oWardK hC, oBarI hC, oBarP hC, oBarZ0 hC, oBarZ1 hC, oBarK hC, oSheI hC, oSheP hC, oSheZ0 hC, oSheZ1 hC, oSheK hC, oManI hC, oManP hC, oManZ0 hC, oManZ1 hC, oManK hC, oManR hC, oManA hC, oManS hC, oWordI hC, oWordP hC, oWordZ0 hC, oWordZ1 hC, oWordK hC, oWordR hC, oWordA hC, oWordS hC, f_X2_areTwoMen, k_hasMan hC hs hI]
  cases ixB a (nD D 2) <;> cases ixB b (nD D 2) <;> by_cases h : a = b <;> simp [h, bI]
-- ===== names =====
theorem rem27 {k : Nat} (h : k < 2 ^ 31) : iRem (nI k) 27 = nI (k % 27) := pk_rem (d := 27) h (by decide) (by decide)
theorem div27 {k : Nat} (h : k < 2 ^ 31) : nI k / 27 = nI (k / 27) := pk_div (d := 27) h (by decide) (by decide)
theorem isName_loop11 (h : AH) : ∀ (f k fu : Nat), k < 27 ^ f → k < 2 ^ 31 → f < fu → b_X11_isName_15 h fu (nI k) = some (bI (nzS f k)) := by
  intro f
  induction f with
  | zero =>
    intro k fu hk h31 hf
    obtain ⟨fu, rfl⟩ : ∃ q, fu = q + 1 := ⟨fu - 1, by omega⟩
    obtain rfl : k = 0 := by omega
    rfl
  | succ f ih =>
    intro k fu hk h31 hf
    obtain ⟨fu, rfl⟩ : ∃ q, fu = q + 1 := ⟨fu - 1, by omega⟩
    have hk' : k / 27 < 27 ^ f := by
      rw [Nat.div_lt_iff_lt_mul (by omega)]
      rw [Nat.pow_succ] at hk
      exact hk
    have hd := ih (k / 27) fu hk' (by omega) (by omega)
    simp (disch := omega) only [b_X11_isName_15, rem27, div27, hd, nzS, lit_gt, lit_eq]
    by_cases h0 : k = 0
    · simp [h0, bI]
    · by_cases h1 : k % 27 = 0
      · simp [h0, h1, bI]
      · simp [h0, h1, bI]
theorem nz_more : ∀ (f k : Nat), k < 27 ^ f → nzS (f + 1) k = nzS f k := by
  intro f
  induction f with
  | zero => intro k hk; obtain rfl : k = 0 := by omega
            rfl
  | succ f ih =>
    intro k hk
    have hk' : k / 27 < 27 ^ f := by
      rw [Nat.div_lt_iff_lt_mul (by omega)]
      rw [Nat.pow_succ] at hk
      exact hk
    rw [nzS, ih _ hk']
    rfl
theorem nl_le : ∀ (f k j : Nat), j < f → (nlS f k ≤ j ↔ k < 27 ^ j) := by
  intro f
  induction f with
  | zero => intro k j hj; omega
  | succ f ih =>
    intro k j hj
    by_cases h0 : k = 0
    · subst h0
      simp [nlS, Nat.pow_pos]
    · rw [nlS, if_neg h0]
      cases j with
      | zero => simp; omega
      | succ j =>
        have := ih (k / 27) j (by omega)
        rw [Nat.pow_succ, ← Nat.div_lt_iff_lt_mul (by omega), ← this]
        omega
theorem isName_loop12 (h : AH) (x : Int32) (hx : 0 < x) : ∀ (f k n0 fu : Nat), k < 27 ^ f → k < 2 ^ 31 → f < fu → n0 + f < 100 → b_X12_isName_4 h fu x (nI k) (nI n0) = some (bI (nzS f k && decide (n0 + nlS f k ≤ 6))) := by
  intro f
  induction f with
  | zero =>
    intro k n0 fu hk h31 hf hn0
    obtain ⟨fu, rfl⟩ : ∃ q, fu = q + 1 := ⟨fu - 1, by omega⟩
    obtain rfl : k = 0 := by omega
    simp (disch := omega) only [b_X12_isName_4, hx, if_true, nzS, nlS, lit_gt]
    by_cases h6 : 6 < n0
    · simp [h6, bI, show ¬ n0 ≤ 6 from by omega, show ¬ (0 : Int32) < nI 0 from by decide]
    · simp [h6, bI, show n0 ≤ 6 from by omega, show ¬ (0 : Int32) < nI 0 from by decide]
  | succ f ih =>
    intro k n0 fu hk h31 hf hn0
    obtain ⟨fu, rfl⟩ : ∃ q, fu = q + 1 := ⟨fu - 1, by omega⟩
    have hk' : k / 27 < 27 ^ f := by
      rw [Nat.div_lt_iff_lt_mul (by omega)]
      rw [Nat.pow_succ] at hk
      exact hk
    have hd := ih (k / 27) (n0 + 1) fu hk' (by omega) (by omega) (by omega)
    simp (disch := omega) only [b_X12_isName_4, rem27, div27, lit_addr, hd, nzS, nlS, lit_gt, lit_eq, hx, if_true]
    by_cases h0 : k = 0
    · by_cases h6 : 6 < n0
      · simp [h0, h6, bI, show ¬ n0 ≤ 6 from by omega]
      · simp [h0, h6, bI, show n0 ≤ 6 from by omega]
    · by_cases h1 : k % 27 = 0
      · simp [h0, h1, bI, show 0 < k from by omega]
      · simp [h0, h1, show 0 < k from by omega, show n0 + 1 + nlS f (k / 27) = n0 + (nlS f (k / 27) + 1) from by omega]
theorem k_isName (v : Int32) (h : AH) : f_X11_isName v h = some (bI (nmB v)) := by
  unfold f_X11_isName nmB
  by_cases h1 : v < 1
  · simp [h1, bI]
  · by_cases h2 : v < 387420489
    · simp only [h1, h2, if_true, if_false]
      obtain ⟨k, hk, rfl⟩ := nI_of (x := v) (by rw [i32_lt, i32_0]; rw [i32_lt] at h1; have : (1 : Int32).toInt = 1 := by decide
                                                omega)
      rw [nI_clamp hk]
      exact isName_loop11 h 6 k FU (by rw [i32_lt, nI_toInt hk] at h2; have : (387420489 : Int32).toInt = 387420489 := by decide
                                       omega) hk (by decide)
    · simp [h1, h2, bI]
theorem r_isName (v : Int32) (h : AH) : f_X12_isName v h = some (bI (nmB v)) := by
  unfold f_X12_isName nmB
  have e1 : (1 : Int32).toInt = 1 := by decide
  by_cases h1 : v < 1
  · have h0 : ¬ 0 < v := by
      rw [i32_lt, i32_0]; rw [i32_lt] at h1; omega
    show b_X12_isName_4 h (3999 + 1) v v 0 = _
    simp [b_X12_isName_4, h1, h0, bI]
  · obtain ⟨k, hk, rfl⟩ := nI_of (x := v) (by rw [i32_lt, i32_0]; rw [i32_lt] at h1; omega)
    have hp : 0 < nI k := by rw [i32_lt, i32_0]; rw [i32_lt] at h1; omega
    have := isName_loop12 h (nI k) hp 7 k 0 FU (by omega) hk (by decide) (by omega)
    rw [show (0 : Int32) = nI 0 from rfl, this, nI_clamp hk, if_neg h1]
    have e2 : (387420489 : Int32).toInt = 387420489 := by decide
    have hl := nl_le 7 k 6 (by omega)
    by_cases h2 : nI k < 387420489
    · rw [if_pos h2]
      have h3 : k < 27 ^ 6 := by rw [i32_lt, nI_toInt hk] at h2; omega
      rw [nz_more 6 k h3]
      have : nlS 7 k ≤ 6 := hl.mpr h3
      simp [this]
    · rw [if_neg h2]
      have h3 : ¬ k < 27 ^ 6 := by rw [i32_lt, nI_toInt hk] at h2; omega
      have : ¬ nlS 7 k ≤ 6 := fun h => h3 (hl.mp h)
      simp [this]
theorem nmB_ex {v : Int32} (h : nmB v = true) : ∃ k, v = nI k ∧ 0 < k ∧ k < 387420489 ∧ nzS 6 k = true := by
  unfold nmB at h
  have e1 : (1 : Int32).toInt = 1 := by decide
  have e2 : (387420489 : Int32).toInt = 387420489 := by decide
  by_cases h1 : v < 1
  · simp [h1] at h
  · by_cases h2 : v < 387420489
    · simp only [h1, h2, if_true, if_false] at h
      obtain ⟨k, hk, rfl⟩ := nI_of (x := v) (by rw [i32_lt, i32_0]; rw [i32_lt] at h1; omega)
      rw [nI_clamp hk] at h
      rw [i32_lt, nI_toInt hk] at h1 h2
      exact ⟨k, rfl, by omega, by omega, h⟩
    · simp [h1, h2] at h
-- ===== wet days, dread, bargains, the sent, who comes =====
def wetB (D : DR) (day : Int32) : Bool := anyS (fun i => decide (D (55 + i) = day)) (nD D 6) 0
theorem r_isWet (hS : ShM S m) (hD : μ (m + 1) = D) (hI : Inv D) (day : Int32) : f_X12_isWet (some m) day (mkH n st S μ) = some (bI (wetB D day)) := by
  obtain ⟨e0, b0⟩ := hI.today
  obtain ⟨e1, b1⟩ := hI.wards
  obtain ⟨e2, b2⟩ := hI.men
  obtain ⟨e3, b3⟩ := hI.words
  obtain ⟨e4, b4⟩ := hI.bars
  obtain ⟨e5, b5⟩ := hI.shes
  obtain ⟨e6, b6⟩ := hI.wets
  obtain ⟨e8, b8⟩ := hI.heaped
  have hl : ∀ k j fu, j + k = nD D 6 → k < fu → b_X12_isWet_2 (mkH n st S μ) fu (some m) day (nI j) = some (bI (anyS (fun i => decide (D (55 + i) = day)) k j)) := by
    intro k
    induction k with
    | zero =>
      intro j fu hj hf
      obtain ⟨fu, rfl⟩ : ∃ q, fu = q + 1 := ⟨fu - 1, by omega⟩
      simp (disch := omega) only [some_bind, ite_bI0, lit_add, lit_addr, lit_mul, lit_aI, lit_aZ, lit_aR, lit_sI, lit_sZ, nI_add, pk_mul, nn_lt, up2_same, up2_ne, if_pos, if_neg, Nat.reduceAdd, Nat.reduceMul, Option.bind_some, mR0 hS, mA0 hS, mS0 hS, mR1 hS, mA1 hS, mS1 hS, mI2 hS, mP2 hS, mZ2_0 hS, mZ2_1 hS, mR3 hS, mA3 hS, mS3 hS, mI4 hS, mP4 hS, mR5 hS, mA5 hS, mS5 hS, mR6 hS, mA6 hS, mS6 hS, mR7 hS, mA7 hS, mS7 hS, mR8 hS, mA8 hS, mS8 hS, mR9 hS, mA9 hS, mS9 hS, mR10 hS, mA10 hS, mS10 hS, mI11 hS, mP11 hS, mI12 hS, mP12 hS, mI13 hS, mP13 hS, mI14 hS, mP14 hS, mI15 hS, mP15 hS, mI16 hS, mP16 hS, mI17 hS, mP17 hS, mI18 hS, mP18 hS, mR19 hS, mA19 hS, mS19 hS, mR20 hS, mA20 hS, mS20 hS, mR21 hS, mA21 hS, mS21 hS, mI22 hS, mP22 hS, mI23 hS, mP23 hS, mI24 hS, mP24 hS, mI25 hS, mP25 hS, mI26 hS, mP26 hS, mR27 hS, mA27 hS, mS27 hS, mR28 hS, mA28 hS, mS28 hS, mI29 hS, mP29 hS, mR30 hS, mA30 hS, mS30 hS, mR31 hS, mA31 hS, mS31 hS, mR32 hS, mA32 hS, mS32 hS, mR33 hS, mA33 hS, mS33 hS, mR34 hS, mA34 hS, mS34 hS, mR35 hS, mA35 hS, mS35 hS, mR36 hS, mA36 hS, mS36 hS, mR37 hS, mA37 hS, mS37 hS, mI38 hS, mP38 hS, mI39 hS, mP39 hS, mI40 hS, mP40 hS, mI41 hS, mP41 hS, mI42 hS, mP42 hS, mZ42_0 hS, mZ42_1 hS, rck hS, b_X12_isWet_2, hD, e6]
      rfl
    | succ k ih =>
      intro j fu hj hf
      obtain ⟨fu, rfl⟩ : ∃ q, fu = q + 1 := ⟨fu - 1, by omega⟩
      simp (disch := omega) only [some_bind, ite_bI0, lit_add, lit_addr, lit_mul, lit_aI, lit_aZ, lit_aR, lit_sI, lit_sZ, nI_add, pk_mul, nn_lt, up2_same, up2_ne, if_pos, if_neg, Nat.reduceAdd, Nat.reduceMul, Option.bind_some, mR0 hS, mA0 hS, mS0 hS, mR1 hS, mA1 hS, mS1 hS, mI2 hS, mP2 hS, mZ2_0 hS, mZ2_1 hS, mR3 hS, mA3 hS, mS3 hS, mI4 hS, mP4 hS, mR5 hS, mA5 hS, mS5 hS, mR6 hS, mA6 hS, mS6 hS, mR7 hS, mA7 hS, mS7 hS, mR8 hS, mA8 hS, mS8 hS, mR9 hS, mA9 hS, mS9 hS, mR10 hS, mA10 hS, mS10 hS, mI11 hS, mP11 hS, mI12 hS, mP12 hS, mI13 hS, mP13 hS, mI14 hS, mP14 hS, mI15 hS, mP15 hS, mI16 hS, mP16 hS, mI17 hS, mP17 hS, mI18 hS, mP18 hS, mR19 hS, mA19 hS, mS19 hS, mR20 hS, mA20 hS, mS20 hS, mR21 hS, mA21 hS, mS21 hS, mI22 hS, mP22 hS, mI23 hS, mP23 hS, mI24 hS, mP24 hS, mI25 hS, mP25 hS, mI26 hS, mP26 hS, mR27 hS, mA27 hS, mS27 hS, mR28 hS, mA28 hS, mS28 hS, mI29 hS, mP29 hS, mR30 hS, mA30 hS, mS30 hS, mR31 hS, mA31 hS, mS31 hS, mR32 hS, mA32 hS, mS32 hS, mR33 hS, mA33 hS, mS33 hS, mR34 hS, mA34 hS, mS34 hS, mR35 hS, mA35 hS, mS35 hS, mR36 hS, mA36 hS, mS36 hS, mR37 hS, mA37 hS, mS37 hS, mI38 hS, mP38 hS, mI39 hS, mP39 hS, mI40 hS, mP40 hS, mI41 hS, mP41 hS, mI42 hS, mP42 hS, mZ42_0 hS, mZ42_1 hS, rck hS, b_X12_isWet_2, hD, e6, ih]
      by_cases h : D (55 + j) = day
      · simp [h, anyS, bI]
      · simp [h, anyS]
  exact hl (nD D 6) 0 FU (by omega) (by simp only [FU]; omega)
theorem k_isWet (hC : ShC S c) (hs : Sim μ c D) (hI : Inv D) (day : Int32) : f_X2_isWet (some c) day (mkH n st S μ) = some (bI (wetB D day)) := by
  obtain ⟨e0, b0⟩ := hI.today
  obtain ⟨e1, b1⟩ := hI.wards
  obtain ⟨e2, b2⟩ := hI.men
  obtain ⟨e3, b3⟩ := hI.words
  obtain ⟨e4, b4⟩ := hI.bars
  obtain ⟨e5, b5⟩ := hI.shes
  obtain ⟨e6, b6⟩ := hI.wets
  obtain ⟨e8, b8⟩ := hI.heaped
  have z0 := hs.today
  have z1 := hs.wardN
  have z2 := hs.manN
  have z3 := hs.wordN
  have z4 := hs.barN
  have z5 := hs.sheN
  have z6 := hs.wetN
  have z8 := hs.heapN
  have hl : ∀ k j fu, j + k = nD D 6 → k < fu → b_X2_isWet_2 (mkH n st S μ) fu (some c) day (nI j) = some (bI (anyS (fun i => decide (D (55 + i) = day)) k j)) := by
    intro k
    induction k with
    | zero =>
      intro j fu hj hf
      obtain ⟨fu, rfl⟩ : ∃ q, fu = q + 1 := ⟨fu - 1, by omega⟩
      simp (disch := omega) only [some_bind, ite_bI0, lit_add, lit_addr, lit_mul, lit_aI, lit_aZ, lit_aR, lit_sI, lit_sZ, nI_add, pk_mul, nn_lt, up2_same, up2_ne, if_pos, if_neg, Nat.reduceAdd, Nat.reduceMul, Option.bind_some, cI0 hC, cP0 hC, cR1 hC, cI2 hC, cP2 hC, cR3 hC, cI4 hC, cP4 hC, cR5 hC, cI6 hC, cP6 hC, cR7 hC, cI8 hC, cP8 hC, cR9 hC, cI10 hC, cP10 hC, cR11 hC, cI12 hC, cP12 hC, cR13 hC, cI14 hC, cP14 hC, cR15 hC, cR16 hC, cR17 hC, cI18 hC, cP18 hC, cR19 hC, cck hC, cAWet hC, cSWet hC, cARul hC, cSRul hC, cAHea hC, cSHea hC, cALin hC, cSLin hC, cATal hC, cSTal hC, cEwards hC, cEmen hC, cEwords hC, cEbargains hC, cEsherds hC, cElaws hC, cEtallies hC, oWardI hC, oWardP hC, oWardZ0 hC, oWardZ1 hC, oWardK hC, oBarI hC, oBarP hC, oBarZ0 hC, oBarZ1 hC, oBarK hC, oSheI hC, oSheP hC, oSheZ0 hC, oSheZ1 hC, oSheK hC, oManI hC, oManP hC, oManZ0 hC, oManZ1 hC, oManK hC, oManR hC, oManA hC, oManS hC, oWordI hC, oWordP hC, oWordZ0 hC, oWordZ1 hC, oWordK hC, oWordR hC, oWordA hC, oWordS hC, b_X2_isWet_2, z6, e6]
      rfl
    | succ k ih =>
      intro j fu hj hf
      obtain ⟨fu, rfl⟩ : ∃ q, fu = q + 1 := ⟨fu - 1, by omega⟩
      simp (disch := omega) only [some_bind, ite_bI0, lit_add, lit_addr, lit_mul, lit_aI, lit_aZ, lit_aR, lit_sI, lit_sZ, nI_add, pk_mul, nn_lt, up2_same, up2_ne, if_pos, if_neg, Nat.reduceAdd, Nat.reduceMul, Option.bind_some, cI0 hC, cP0 hC, cR1 hC, cI2 hC, cP2 hC, cR3 hC, cI4 hC, cP4 hC, cR5 hC, cI6 hC, cP6 hC, cR7 hC, cI8 hC, cP8 hC, cR9 hC, cI10 hC, cP10 hC, cR11 hC, cI12 hC, cP12 hC, cR13 hC, cI14 hC, cP14 hC, cR15 hC, cR16 hC, cR17 hC, cI18 hC, cP18 hC, cR19 hC, cck hC, cAWet hC, cSWet hC, cARul hC, cSRul hC, cAHea hC, cSHea hC, cALin hC, cSLin hC, cATal hC, cSTal hC, cEwards hC, cEmen hC, cEwords hC, cEbargains hC, cEsherds hC, cElaws hC, cEtallies hC, oWardI hC, oWardP hC, oWardZ0 hC, oWardZ1 hC, oWardK hC, oBarI hC, oBarP hC, oBarZ0 hC, oBarZ1 hC, oBarK hC, oSheI hC, oSheP hC, oSheZ0 hC, oSheZ1 hC, oSheK hC, oManI hC, oManP hC, oManZ0 hC, oManZ1 hC, oManK hC, oManR hC, oManA hC, oManS hC, oWordI hC, oWordP hC, oWordZ0 hC, oWordZ1 hC, oWordK hC, oWordR hC, oWordA hC, oWordS hC, b_X2_isWet_2, z6, e6, ih, hs.wet]
      by_cases h : D (55 + j) = day
      · simp [h, anyS, bI]
      · simp [h, anyS]
  exact hl (nD D 6) 0 FU (by omega) (by simp only [FU]; omega)
end SMALL
