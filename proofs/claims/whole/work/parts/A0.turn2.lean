-- ===== the least set, by both =====
section TURN2
variable {n : Nat} {st : Nat → Nat} {S : SH} {μ : MU} {x b m c l j : Nat} {D : DR} {T : Nat → Int32} {Nt : Nat}
def keyN (s : Nat) : Nat := popN 16 s * 64 + s
def cSets : List Nat := [0, 1, 2, 4, 8, 16, 32, 3, 5, 6, 9, 10, 12, 17, 18, 20, 24, 33, 34, 36, 40, 48, 7, 11, 13, 14, 19, 21, 22, 25, 26, 28, 35, 37, 38, 41, 42, 44, 49, 50, 52, 56, 15, 23, 27, 29, 30, 39, 43, 45, 46, 51, 53, 54, 57, 58, 60, 31, 47, 55, 59, 61, 62, 63]
/-- the least that is so: -1, none -/
def minK (P : Nat → Bool) (v : Int32) : Prop := (v = -1 ∧ ∀ s, s < 64 → P s = false) ∨ ∃ t, t < 64 ∧ v = nI t ∧ P t = true ∧ ∀ s, s < 64 → P s = true → keyN t ≤ keyN s
theorem keyN_inj : ∀ s, s < 64 → ∀ t, t < 64 → keyN s = keyN t → s = t := by decide +kernel
theorem keyN_and : ∀ s, s < 64 → ∀ u, u < 64 → keyN (s &&& u) ≤ keyN s ∧ s &&& u < 64 := by decide +kernel
theorem and_not : ∀ s, s < 64 → ∀ u, u < 64 → (nI s &&& (nI u ^^^ (-1)) = 0 ↔ s &&& u = s) := by decide +kernel
theorem cSets_lt : ∀ s ∈ cSets, s < 64 := by decide
theorem cSets_in : ∀ s, s < 64 → s ∈ cSets := by decide
def incK : List Nat → Bool
  | [] => true
  | [_] => true
  | a :: c :: r => decide (keyN a < keyN c) && incK (c :: r)
theorem cSets_inc : incK cSets = true := by decide +kernel
theorem incK_le : ∀ (l : List Nat) (a : Nat), incK (a :: l) = true → ∀ s ∈ l, keyN a < keyN s := by
  intro l
  induction l with
  | nil => intro a _ s hs; cases hs
  | cons c r ih =>
    intro a h s hs
    rw [incK, Bool.and_eq_true, decide_eq_true_eq] at h
    rcases List.mem_cons.mp hs with e | e
    · rw [e]; exact h.1
    · exact Nat.lt_trans h.1 (ih c h.2 s e)
theorem minK_uni {P : Nat → Bool} {v w : Int32} (h1 : minK P v) (h2 : minK P w) : v = w := by
  rcases h1 with ⟨rfl, h1⟩ | ⟨t, t1, rfl, t2, t3⟩
  · rcases h2 with ⟨rfl, -⟩ | ⟨s, s1, -, s2, -⟩
    · rfl
    · rw [h1 s s1] at s2; cases s2
  · rcases h2 with ⟨-, h2⟩ | ⟨s, s1, rfl, s2, s3⟩
    · rw [h2 t t1] at t2; cases t2
    · rw [keyN_inj t t1 s s1 (Nat.le_antisymm (t3 s s1 s2) (s3 t t1 t2))]
/-- clubs of those that come, but one -/
def usS (D : DR) (day : Int32) (y : Nat) (j : Nat) : Nat := orK (fun i => if decide (¬ i = y) && (decide (¬ D (91 + i) < 0) && comB D i day) then 2 ^ nD D (91 + i) else 0) j
theorem usS_lt (hI : Inv D) (day : Int32) (y : Nat) {j : Nat} (hj : j ≤ nD D 2) : usS D day y j < 64 := by
  refine orK_lt (w := 6) j fun i hi => ?_
  split
  · rename_i h
    simp only [Bool.and_eq_true, decide_eq_true_eq] at h
    exact Nat.pow_lt_pow_right (by omega) (club_of hI (by omega) h.2.1).2
  · exact Nat.two_pow_pos 6
theorem orK_bit {g : Nat → Nat} {i q : Nat} : ∀ k, i < k → (g i).testBit q = true → (orK g k).testBit q = true := by
  intro k
  induction k with
  | zero => intro h; omega
  | succ k ih =>
    intro h hb
    rw [orK, Nat.testBit_or]
    by_cases e : i = k
    · subst e; rw [hb, Bool.or_true]
    · rw [ih (by omega) hb, Bool.true_or]
theorem cnt_c {p q : Nat → Bool} : ∀ k j, (∀ i, j ≤ i → i < j + k → p i = q i) → cntB p k j = cntB q k j := by
  intro k
  induction k with
  | zero => intro j _; rfl
  | succ k ih =>
    intro j h
    rw [cntB, cntB, h j (by omega) (by omega), ih (j + 1) fun i h1 h2 => h i (by omega) (by omega)]
theorem orK_c {p q : Nat → Nat} : ∀ k, (∀ i, i < k → p i = q i) → orK p k = orK q k := by
  intro k
  induction k with
  | zero => intro _; rfl
  | succ k ih =>
    intro h
    rw [orK, orK, h k (by omega), ih fun i hi => h i (by omega)]
theorem caS_c {C C' : Nat → Int32} (h : ∀ i, i < nD D 2 → C i = C' i) : caS D T Nt C = caS D T Nt C' := by
  have e1 : aTs C (nD D 2) = aTs C' (nD D 2) := cnt_c _ _ fun i _ hi => by rw [h i (by omega)]
  have e2 : aLs C (nD D 2) = aLs C' (nD D 2) := funext fun w => cnt_c _ _ fun i _ hi => by rw [h i (by omega)]
  have e3 : aGs D C (nD D 2) = aGs D C' (nD D 2) := funext fun w => orK_c _ fun i hi => by rw [h i hi]
  unfold caS
  rw [e1, e2, e3]
theorem incK_tail {a : Nat} {l : List Nat} (h : incK (a :: l) = true) : incK l = true := by
  cases l with
  | nil => rfl
  | cons c r => rw [incK, Bool.and_eq_true] at h; exact h.2
theorem stV3 : stV 3 = cSets.map nI := by decide
/-- clubs without men that come change nothing -/
theorem tuP_and (day : Int32) (y s : Nat) : tuP D T Nt day y (s &&& usS D day y (nD D 2)) = tuP D T Nt day y s := by
  have hC : ∀ i, i < nD D 2 → tuC D day y (s &&& usS D day y (nD D 2)) i = tuC D day y s i := by
    intro i hi
    have : tuB D day y (s &&& usS D day y (nD D 2)) i = tuB D day y s i := by
      unfold tuB
      rw [Nat.testBit_and]
      by_cases h : (decide (¬ i = y) && (decide (¬ D (91 + i) < 0) && comB D i day)) = true
      · have hb : (usS D day y (nD D 2)).testBit (nD D (91 + i)) = true := by
          refine orK_bit (nD D 2) hi ?_
          rw [if_pos h, Nat.testBit_two_pow]
          simp
        rw [hb, Bool.and_true]
      · cases h1 : decide (¬ i = y) with
        | false => rfl
        | true =>
          cases h2 : decide (¬ D (91 + i) < 0) with
          | false => rfl
          | true =>
            rw [h1, h2] at h
            simp only [Bool.true_and] at h
            have : comB D i day = false := by simpa using h
            rw [this]
            simp
    unfold tuC
    rw [this]
  unfold tuP
  rw [caS_c hC]
theorem k_usefulL (hX : ShX S x) (hs : Sim μ (x + 1) D) (hI : Inv D) {day : Int32} {y : Nat} (hy : y < nD D 2) (h6 : μ x 6 = nI (biN (fun i => comB D i day) (nD D 2))) : ∀ k j fu, j + k = nD D 2 → k < fu → b_X11_clubsOfComers_4 (mkH n st S μ) fu (some x) (nI y) (nI (usS D day y j)) (nI j) = some (nI (usS D day y (nD D 2))) := by
  have hCy := hX.city
  obtain ⟨e2, b2⟩ := hI.men
  have z2 : μ (x + 1) 6 = nI (nD D 2) := by rw [hs.manN, e2]
  have hbl : biN (fun i => comB D i day) (nD D 2) < 2 ^ 31 := Nat.lt_of_lt_of_le (biN_lt _ _) (Nat.pow_le_pow_right (by omega) (by omega))
  intro k
  induction k with
  | zero =>
    intro j fu hj hf
    obtain ⟨fu, rfl⟩ : ∃ q, fu = q + 1 := ⟨fu - 1, by omega⟩
    obtain rfl : j = nD D 2 := by omega
    simp (disch := omega) only [b_X11_clubsOfComers_4, xR0 hX, some_bind, cI6 hCy, z2, nn_lt, natF, if_false]
  | succ k ih =>
    intro j fu hj hf
    obtain ⟨fu, rfl⟩ : ∃ q, fu = q + 1 := ⟨fu - 1, by omega⟩
    have m1 := hs.man j 1 (by omega) (by omega)
    simp only [Nat.reduceMul, Nat.reduceAdd] at m1
    have ht := tstN (a := biN (fun i => comB D i day) (nD D 2)) (k := j) hbl (by omega)
    rw [biN_test, decide_eq_true (show j < nD D 2 by omega), Bool.true_and] at ht
    have i0 := ih (j + 1) fu (by omega) (by omega)
    rw [← i0]
    have hst : usS D day y (j + 1) = usS D day y j ||| (if decide (¬ j = y) && (decide (¬ D (91 + j) < 0) && comB D j day) then 2 ^ nD D (91 + j) else 0) := rfl
    have hpre : b_X11_clubsOfComers_4 (mkH n st S μ) (fu + 1) (some x) (nI y) (nI (usS D day y j)) (nI j) = if nI j = nI y then b_X11_clubsOfComers_4 (mkH n st S μ) fu (some x) (nI y) (nI (usS D day y j)) (nI (j + 1)) else if D (91 + j) < 0 then b_X11_clubsOfComers_4 (mkH n st S μ) fu (some x) (nI y) (nI (usS D day y j)) (nI (j + 1)) else if comB D j day = true then b_X11_clubsOfComers_4 (mkH n st S μ) fu (some x) (nI y) (nI (usS D day y j) ||| (1 <<< (D (91 + j) &&& 31))) (nI (j + 1)) else b_X11_clubsOfComers_4 (mkH n st S μ) fu (some x) (nI y) (nI (usS D day y j)) (nI (j + 1)) := by
      obtain ⟨us, hus⟩ : ∃ u, u = usS D day y j := ⟨_, rfl⟩
      rw [← hus]
      simp (disch := omega) only [b_X11_clubsOfComers_4, xR0 hX, some_bind, cI6 hCy, z2, nn_lt, natT, if_true, cR5 hCy, cEmen hCy, oManI hCy, m1, xI6 hX, h6, ht, bI_if0, nI_1]
    rw [hpre, hst]
    by_cases c1 : j = y
    · rw [if_pos (by rw [c1])]
      simp [c1]
    · rw [if_neg (fun h => c1 ((nI_eq (by omega) (by omega)).mp h))]
      by_cases c2 : D (91 + j) < 0
      · rw [if_pos c2]
        simp [c2]
      · rw [if_neg c2]
        obtain ⟨e1, l1⟩ := club_of hI (show j < nD D 2 by omega) c2
        by_cases c3 : comB D j day = true
        · rw [if_pos c3]
          have : (decide (¬ j = y) && (decide (¬ D (91 + j) < 0) && comB D j day)) = true := by simp [c1, c2, c3]
          rw [if_pos this]
          have hsl : (1 : Int32) <<< (D (91 + j) &&& 31) = nI (2 ^ nD D (91 + j)) := by
            have := shl1 (k := nD D (91 + j)) (by omega)
            rw [← e1] at this
            exact this
          rw [hsl, orN]
        · rw [if_neg c3]
          have : ¬ (decide (¬ j = y) && (decide (¬ D (91 + j) < 0) && comB D j day)) = true := by simp [c3]
          rw [if_neg this, Nat.or_zero]
/-- the class looks through its sets -/
theorem k_turnL (hX : ShX S x) (hs : Sim μ (x + 1) D) (hI : Inv D) (hBs : BaseOK st S μ x b) {day : Int32} {y : Nat} (hy : y < nD D 2) (hl : l < 5) (hU : LawU μ (x + 1 + 118 + 6 * l) T Nt) (hNt : Nt ≤ 300) (hC : ∀ i, i < nD D 2 → μ (x + 165) i = drS D i day (-1) false) (h6 : μ x 6 = nI (biN (fun i => comB D i day) (nD D 2))) (hsn : sntB D y day = false) : ∀ (rest : List Nat) q fu (μ1 : MU), q ≤ 64 → cSets.drop q = rest → incK rest = true → rest.length < fu → (∀ s ∈ cSets, s ∉ rest → tuP D T Nt day y s = true → s &&& usS D day y (nD D 2) = s → False) → (∀ a i, ¬ (x + 158 ≤ a ∧ a ≤ x + 162) → ¬ a = x + 1 + 118 + 6 * l + 4 → ¬ a = x + 1 + 118 + 6 * l + 5 → μ1 a i = μ a i) → ∃ v μ', b_X11_turnFor_35 fu (some x) (nI y) (some (x + 1 + 118 + 6 * l)) (nI (usS D day y (nD D 2))) (some (st 3)) (nI 64) (nI q) (mkH n st S μ1) = some (v, mkH n st S μ') ∧ minK (tuP D T Nt day y) v ∧ ∀ a i, ¬ (x + 158 ≤ a ∧ a ≤ x + 162) → ¬ a = x + 1 + 118 + 6 * l + 4 → ¬ a = x + 1 + 118 + 6 * l + 5 → μ' a i = μ a i := by
  have hul := usS_lt hI day y (Nat.le_refl (nD D 2))
  have hmin : ∀ s, s < 64 → tuP D T Nt day y s = true → ∃ s', s' < 64 ∧ s' ∈ cSets ∧ tuP D T Nt day y s' = true ∧ s' &&& usS D day y (nD D 2) = s' ∧ keyN s' ≤ keyN s := by
    intro s hs hP
    obtain ⟨k1, k2⟩ := keyN_and s hs (usS D day y (nD D 2)) hul
    exact ⟨s &&& usS D day y (nD D 2), k2, cSets_in _ k2, by rw [tuP_and]; exact hP, by rw [Nat.and_assoc, Nat.and_self], k1⟩
  intro rest
  induction rest with
  | nil =>
    intro q fu μ1 hq64 hq _ hf hno hF
    obtain ⟨fu, rfl⟩ : ∃ q, fu = q + 1 := ⟨fu - 1, by omega⟩
    have hlen : 64 ≤ q := by
      have : (cSets.drop q).length = 0 := by rw [hq]; rfl
      rw [List.length_drop, show cSets.length = 64 from rfl] at this
      omega
    obtain rfl : q = 64 := by omega
    refine ⟨-1, μ1, ?_, Or.inl ⟨rfl, fun s hs => ?_⟩, hF⟩
    · simp (disch := omega) only [b_X11_turnFor_35, nn_lt, natF, if_false]
    · cases hP : tuP D T Nt day y s with
      | false => rfl
      | true =>
        obtain ⟨s', s1, s2, s3, s4, -⟩ := hmin s hs hP
        exact absurd (hno s' s2 (by simp) s3 s4) (by intro h; exact h)
  | cons s rest ih =>
    intro q fu μ1 hq64 hq hinc hf hno hF
    obtain ⟨fu, rfl⟩ : ∃ q, fu = q + 1 := ⟨fu - 1, by omega⟩
    obtain ⟨d1, d2⟩ := drop_cons hq
    have hql : q < 64 := by
      rcases Nat.lt_or_ge q 64 with h | h
      · exact h
      · rw [List.getElem?_eq_none (by rw [show cSets.length = 64 from rfl]; exact h)] at d1; cases d1
    have hsc : s ∈ cSets := List.mem_of_getElem? d1
    have hs64 := cSets_lt s hsc
    have hB1 : BaseOK st S μ1 x b := hBs.congr (fun _ _ => rfl) (fun a i h => hF a i (by omega) (by omega) (by omega))
    have a3 := st_aI (n := n) hB1 (j := 3) (q := q) (v := nI s) (by omega) (by rw [stV3, List.getElem?_map, d1]; rfl)
    have hlr : (s :: rest).length = rest.length + 1 := rfl
    have hgoon : (tuP D T Nt day y s = true → s &&& usS D day y (nD D 2) = s → False) → ∀ μ2 : MU, (∀ a i, ¬ (x + 158 ≤ a ∧ a ≤ x + 162) → ¬ a = x + 1 + 118 + 6 * l + 4 → ¬ a = x + 1 + 118 + 6 * l + 5 → μ2 a i = μ a i) → ∃ v μ', b_X11_turnFor_35 fu (some x) (nI y) (some (x + 1 + 118 + 6 * l)) (nI (usS D day y (nD D 2))) (some (st 3)) (nI 64) (nI (q + 1)) (mkH n st S μ2) = some (v, mkH n st S μ') ∧ minK (tuP D T Nt day y) v ∧ ∀ a i, ¬ (x + 158 ≤ a ∧ a ≤ x + 162) → ¬ a = x + 1 + 118 + 6 * l + 4 → ¬ a = x + 1 + 118 + 6 * l + 5 → μ' a i = μ a i := by
      intro hns μ2 h2
      refine ih (q + 1) fu μ2 (by omega) d2 (incK_tail hinc) (by omega) (fun t t1 t2 t3 t4 => ?_) h2
      by_cases e : t = s
      · subst e; exact hns t3 t4
      · exact hno t t1 (fun h => by
          rcases List.mem_cons.mp h with h | h
          · exact e h
          · exact t2 h) t3 t4
    obtain ⟨us, hus⟩ : ∃ u, u = usS D day y (nD D 2) := ⟨_, rfl⟩
    have han := and_not s hs64 us (by rw [hus]; exact hul)
    rw [← hus] at hgoon ⊢
    have hpre : b_X11_turnFor_35 (fu + 1) (some x) (nI y) (some (x + 1 + 118 + 6 * l)) (nI us) (some (st 3)) (nI 64) (nI q) (mkH n st S μ1) = if nI s &&& (nI us ^^^ (-1)) = 0 then (f_X11_goesWith (some x) (nI y) (nI s) (some (x + 1 + 118 + 6 * l)) (mkH n st S μ1)).bind (fun p2 => if p2.1 = 0 then b_X11_turnFor_35 fu (some x) (nI y) (some (x + 1 + 118 + 6 * l)) (nI us) (some (st 3)) (nI 64) (nI (q + 1)) p2.2 else some (nI s, p2.2)) else b_X11_turnFor_35 fu (some x) (nI y) (some (x + 1 + 118 + 6 * l)) (nI us) (some (st 3)) (nI 64) (nI (q + 1)) (mkH n st S μ1) := by
      simp (disch := omega) only [b_X11_turnFor_35, nn_lt, natT, if_true, a3, some_bind, xck hX, nI_1]
    rw [hpre]
    by_cases hsub : s &&& us = s
    · rw [if_pos (han.mpr hsub)]
      have hs1 : Sim μ1 (x + 1) D := Sim.frX hI hs (fun a i h1 h2 h3 => hF a i (by omega) (by omega) (by omega))
      have hU1 : LawU μ1 (x + 1 + 118 + 6 * l) T Nt := hU.congr (fun a i h => hF a i (by omega) (by omega) (by omega))
      obtain ⟨μ2, g1, g2⟩ := k_goesWith (n := n) (st := st) hX hs1 hI hy hs64 hl hU1 hNt (fun i hi => by rw [hF _ _ (by omega) (by omega) (by omega)]; exact hC i hi) (by rw [hF _ _ (by omega) (by omega) (by omega)]; exact h6) hsn
      have hF2 : ∀ a i, ¬ (x + 158 ≤ a ∧ a ≤ x + 162) → ¬ a = x + 1 + 118 + 6 * l + 4 → ¬ a = x + 1 + 118 + 6 * l + 5 → μ2 a i = μ a i := fun a i q1 q2 q3 => by rw [g2 a i q1 q2 q3, hF a i q1 q2 q3]
      rw [g1, some_bind]
      cases hP : tuP D T Nt day y s with
      | false =>
        obtain ⟨v, μ', r1, r2⟩ := hgoon (fun h => by rw [hP] at h; cases h) μ2 hF2
        refine ⟨v, μ', ?_, r2⟩
        rw [← r1]
        rfl
      | true =>
        have bt : ¬ bI true = 0 := by decide
        refine ⟨nI s, μ2, by simp only [bt, if_false], Or.inr ⟨s, hs64, rfl, hP, fun t ht hPt => ?_⟩, hF2⟩
        obtain ⟨t', u1, u2, u3, u4, u5⟩ := hmin t ht hPt
        rcases Decidable.em (t' ∈ s :: rest) with h | h
        · rcases List.mem_cons.mp h with h | h
          · rw [h] at u5; exact u5
          · exact Nat.le_trans (Nat.le_of_lt (incK_le rest s hinc t' h)) u5
        · exact absurd (hno t' u2 h u3 u4) (by intro h; exact h)
    · rw [if_neg (fun h => hsub (han.mp h))]
      exact hgoon (fun _ h => hsub h) μ1 hF
theorem k_turnFor (hX : ShX S x) (hs : Sim μ (x + 1) D) (hI : Inv D) (hBs : BaseOK st S μ x b) {day : Int32} {y : Nat} (hy : y < nD D 2) (hl : l < 5) (hU : LawU μ (x + 1 + 118 + 6 * l) T Nt) (hNt : Nt ≤ 300) (hC : ∀ i, i < nD D 2 → μ (x + 165) i = drS D i day (-1) false) (h6 : μ x 6 = nI (biN (fun i => comB D i day) (nD D 2))) : ∃ v μ', f_X11_turnFor (some x) (nI y) day (some (x + 1 + 118 + 6 * l)) (mkH n st S μ) = some (v, mkH n st S μ') ∧ (sntB D y day = true ∧ v = -1 ∨ sntB D y day = false ∧ minK (tuP D T Nt day y) v) ∧ ∀ a i, ¬ (x + 158 ≤ a ∧ a ≤ x + 162) → ¬ a = x + 1 + 118 + 6 * l + 4 → ¬ a = x + 1 + 118 + 6 * l + 5 → μ' a i = μ a i := by
  have hCy := hX.city
  have b2 := hI.men.2
  have n1 := n1_ne (show y < 2 ^ 31 by omega)
  have kS := k_isSent (n := n) (st := st) hCy hs hI hy day (-1)
  rw [show (decide (nI y = (-1 : Int32)) || sntB D y day) = sntB D y day by simp [n1]] at kS
  obtain ⟨fu, hfu, hfl⟩ : ∃ q, FU = q ∧ 301 < q := ⟨FU, rfl, by decide⟩
  cases hsn : sntB D y day with
  | true =>
    rw [hsn] at kS
    have bt : ¬ bI true = 0 := by decide
    exact ⟨-1, μ, by simp only [f_X11_turnFor, xR0 hX, some_bind, cck hCy, kS, bt, if_false], Or.inl ⟨rfl, rfl⟩, fun _ _ _ _ _ => rfl⟩
  | false =>
    rw [hsn] at kS
    have kU := k_usefulL (n := n) (st := st) hX hs hI hy h6 (nD D 2) 0 fu (by omega) (by omega)
    have e : f_X11_clubsOfComers (some x) (nI y) (mkH n st S μ) = some (nI (usS D day y (nD D 2))) := by
      unfold f_X11_clubsOfComers
      rw [hfu]
      exact kU
    obtain ⟨v, μ', r1, r2, r3⟩ := k_turnL (n := n) (st := st) (b := b) hX hs hI hBs hy hl hU hNt hC h6 hsn cSets 0 fu μ (by omega) rfl cSets_inc (by rw [show cSets.length = 64 from rfl]; omega) (fun t t1 t2 => absurd t1 t2) (fun _ _ _ _ _ => rfl)
    refine ⟨v, μ', ?_, Or.inr ⟨rfl, r2⟩, r3⟩
    have aL := st_aL (n := n) hBs (j := 3) (by omega)
    have h3 : (mkH n st S μ).2.2 3 = st 3 := rfl
    have hl3 : (stV 3).length = 64 := rfl
    rw [hl3] at aL
    rw [← r1, ← hfu]
    simp only [f_X11_turnFor, xR0 hX, some_bind, cck hCy, kS, bI_if0, Bool.false_eq_true, if_false, xck hX, e, h3, aL]
    rfl
end TURN2
