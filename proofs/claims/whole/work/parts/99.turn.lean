-- ===== how few clubs must turn =====
/-- is he turned -/
def tuB (D : DR) (day : Int32) (y set i : Nat) : Bool := decide (¬ i = y) && (decide (¬ D (91 + i) < 0) && (set.testBit (nD D (91 + i)) && comB D i day))
def tuC (D : DR) (day : Int32) (y set : Nat) : Nat → Int32 := fun i => if tuB D day y set i then (if sntB D y day then -1 else nI y) else drS D i day (-1) false
def tuP (D : DR) (T : Nat → Int32) (Nt : Nat) (day : Int32) (y set : Nat) : Bool := decide (caS D T Nt (tuC D day y set) = nI y)
section TURN
variable {n : Nat} {st : Nat → Nat} {S : SH} {μ : MU} {x b m c l j : Nat} {D : DR} {T : Nat → Int32} {Nt : Nat}
theorem tuC_rng (hI : Inv D) (day : Int32) {y : Nat} (hy : y < nD D 2) (set i : Nat) : isO (tuC D day y set i) (nD D 2) := by
  unfold tuC
  split
  · split
    · exact Or.inl rfl
    · exact Or.inr ⟨y, hy, rfl⟩
  · exact drS_rng hI i day (-1) false
theorem club_of (hI : Inv D) {i : Nat} (hi : i < nD D 2) (h : ¬ D (91 + i) < 0) : D (91 + i) = nI (nD D (91 + i)) ∧ nD D (91 + i) < 6 := by
  rcases hI.mClub i hi with e | ⟨k, hk, e⟩
  · rw [e] at h; exact absurd (by decide) h
  · have := nD_of e (by omega)
    exact ⟨by rw [this]; exact e, by omega⟩
theorem thr_com {i : Nat} (hi : i < 2 ^ 31) (day : Int32) : thrS D i day (-1) = comB D i day := by simp [thrS, n1_ne hi]
theorem k_goL (hX : ShX S x) (hs : Sim μ (x + 1) D) (hI : Inv D) {day : Int32} {y set : Nat} (hy : y < nD D 2) (hset : set < 64) (hl : l < 5) (hU : LawU μ (x + 1 + 118 + 6 * l) T Nt) (hNt : Nt ≤ 300) (hC : ∀ i, i < nD D 2 → μ (x + 165) i = drS D i day (-1) false) (h6 : μ x 6 = nI (biN (fun i => comB D i day) (nD D 2))) (hsn : sntB D y day = false) : ∀ k j fu (μ1 : MU), j + k = nD D 2 → k < fu → (∀ a i, ¬ (x + 158 ≤ a ∧ a ≤ x + 162) → μ1 a i = μ a i) → PoOK μ1 x (nD D 2) (aTs (tuC D day y set) j) (aLs (tuC D day y set) j) (fun _ => 0) (aGs D (tuC D day y set) j) → ∃ μ', b_X11_goesWith_17 fu (some x) (nI y) (nI set) (some (x + 1 + 118 + 6 * l)) (nI j) (mkH n st S μ1) = some (bI (tuP D T Nt day y set), mkH n st S μ') ∧ ∀ a i, ¬ (x + 158 ≤ a ∧ a ≤ x + 162) → ¬ a = x + 1 + 118 + 6 * l + 4 → ¬ a = x + 1 + 118 + 6 * l + 5 → μ' a i = μ a i := by
  have hCy := hX.city
  obtain ⟨e2, b2⟩ := hI.men
  have b1 := hI.wards.2
  obtain ⟨C, hCe⟩ : ∃ C, C = tuC D day y set := ⟨_, rfl⟩
  rw [← hCe]
  have hbl : biN (fun i => comB D i day) (nD D 2) < 2 ^ 31 := Nat.lt_of_lt_of_le (biN_lt _ _) (Nat.pow_le_pow_right (by omega) (by omega))
  intro k
  induction k with
  | zero =>
    intro j fu μ1 hj hf hF hP
    obtain ⟨fu, rfl⟩ : ∃ q, fu = q + 1 := ⟨fu - 1, by omega⟩
    obtain rfl : j = nD D 2 := by omega
    have z2 : μ1 (x + 1) 6 = nI (nD D 2) := by rw [hF _ _ (by omega), hs.manN, e2]
    have kF := k_firstMan (n := n) (st := st) hX hP b2 (fun i _ => aLs_lt b2 i)
    have hU1 : LawU μ1 (x + 1 + 118 + 6 * l) T Nt := hU.congr (fun a q h => hF a q (by omega))
    obtain ⟨μ3, w1, w2⟩ := k_whoGoes (n := n) (st := st) hX hP b2 (fun i _ => aLs_lt b2 i) (fun i _ => aGs_lt hI (Nat.le_refl _) i) hl hU1 hNt
    have hgo : goS T Nt (aTs C (nD D 2)) (aLs C (nD D 2)) (aGs D C (nD D 2)) (nD D 2) = caS D T Nt C := rfl
    rw [hgo] at w1
    have hval : caS D T Nt C = fiS (aLs C (nD D 2)) (nD D 2) ∨ caS D T Nt C = -1 := by
      rw [← hgo, goS]
      split
      · exact Or.inl rfl
      · exact Or.inr rfl
    have htu : tuP D T Nt day y set = decide (caS D T Nt C = nI y) := by rw [tuP, hCe]
    have ny : ¬ nI y = (-1 : Int32) := n1_ne (by omega)
    have hy0 : ¬ nI y < (0 : Int32) := nI_pos (by omega)
    by_cases hf1 : fiS (aLs C (nD D 2)) (nD D 2) = nI y
    · refine ⟨μ3, ?_, fun a i q1 q2 q3 => by rw [w2 a i q2 q3, hF a i q1]⟩
      simp (disch := omega) only [b_X11_goesWith_17, xR0 hX, some_bind, cI6 hCy, z2, nn_lt, natF, if_false, xR3 hX, pock hX, kF, w1]
      rw [if_pos hf1, htu]
      rcases hval with h | h
      · rw [hf1] at h
        rw [h]
        simp only [hy0, if_false, if_true, decide_true]
        rfl
      · rw [h]
        have m3 : ¬ (-3 : Int32) = nI y := fun q => by
          have : nI y < 0 := by rw [← q]; decide
          exact hy0 this
        have m1 : (-1 : Int32) < 0 := by decide
        simp only [m1, if_true, m3, if_false, Ne.symm ny, decide_false]
        rfl
    · refine ⟨μ1, ?_, fun a i q1 _ _ => hF a i q1⟩
      simp (disch := omega) only [b_X11_goesWith_17, xR0 hX, some_bind, cI6 hCy, z2, nn_lt, natF, if_false, xR3 hX, pock hX, kF]
      rw [if_neg hf1, htu]
      rcases hval with h | h
      · rw [h, decide_eq_false hf1]; rfl
      · rw [h, decide_eq_false (Ne.symm ny)]; rfl
  | succ k ih =>
    intro j fu μ1 hj hf hF hP
    obtain ⟨fu, rfl⟩ : ∃ q, fu = q + 1 := ⟨fu - 1, by omega⟩
    have z2 : μ1 (x + 1) 6 = nI (nD D 2) := by rw [hF _ _ (by omega), hs.manN, e2]
    have x6 : μ1 x 6 = nI (biN (fun i => comB D i day) (nD D 2)) := by rw [hF _ _ (by omega)]; exact h6
    have ht := tstN (a := biN (fun i => comB D i day) (nD D 2)) (k := j) hbl (by omega)
    rw [biN_test, decide_eq_true (show j < nD D 2 by omega), Bool.true_and] at ht
    have hcj : μ1 (x + 165) j = drS D j day (-1) false := by rw [hF _ _ (by omega)]; exact hC j (by omega)
    obtain ⟨q1, q2⟩ := wdS_of hI (show j < nD D 2 by omega)
    obtain ⟨t1, t2⟩ := trS_of hI (show j < nD D 2 by omega)
    have m0 : μ1 (x + 1 + 22 + 2 * j) 0 = nI (wdS D j) := by
      have := hs.man j 0 (by omega) (by omega)
      simp only [Nat.reduceMul, Nat.reduceAdd] at this
      rw [hF _ _ (by omega), this]; exact q1
    have m1 : μ1 (x + 1 + 22 + 2 * j) 1 = D (91 + j) := by
      have := hs.man j 1 (by omega) (by omega)
      simp only [Nat.reduceMul, Nat.reduceAdd] at this
      rw [hF _ _ (by omega), this]
    have w0 : μ1 (x + 1 + 14 + wdS D j) 0 = nI (trS D j) := by rw [hF _ _ (by omega), hs.tribe _ q2]; exact t1
    have h99 : ∀ s0, s0 = C j → ∃ μ', b_X11_goesWith_99 (b_X11_goesWith_17 fu) (some x) (nI y) (nI set) (some (x + 1 + 118 + 6 * l)) (nI j) s0 (mkH n st S μ1) = some (bI (tuP D T Nt day y set), mkH n st S μ') ∧ ∀ a i, ¬ (x + 158 ≤ a ∧ a ≤ x + 162) → ¬ a = x + 1 + 118 + 6 * l + 4 → ¬ a = x + 1 + 118 + 6 * l + 5 → μ' a i = μ a i := by
      intro s0 hs0
      by_cases h0 : C j < 0
      · obtain ⟨μ', r1, r2⟩ := ih (j + 1) fu μ1 (by omega) (by omega) hF (cast_none hP h0 b2)
        refine ⟨μ', ?_, r2⟩
        rw [← r1, hs0]
        simp only [b_X11_goesWith_99, h0, if_true, nI_1]
      · obtain ⟨w, hw, ew⟩ : ∃ w, w < nD D 2 ∧ C j = nI w := by
          have := tuC_rng hI day hy set j
          rw [← hCe] at this
          rcases this with h | h
          · rw [h] at h0; exact absurd (by decide) h0
          · exact h
        obtain ⟨μ2, g1, g2, g3⟩ := k_addCast (n := n) (st := st) hX b2 hP hw t2
        obtain ⟨μ', r1, r2⟩ := ih (j + 1) fu μ2 (by omega) (by omega) (fun a i h => by rw [g3 a i h, hF a i h]) (cast_step hP ew (by omega) g2 b2)
        refine ⟨μ', ?_, r2⟩
        rw [← r1, hs0]
        rw [ew] at h0 ⊢
        simp (disch := omega) only [b_X11_goesWith_99, h0, if_false, xR3 hX, xR0 hX, some_bind, cR3 hCy, cR5 hCy, cEmen hCy, oManI hCy, m0, cEwards hCy, oWardI hCy, w0, pock hX, g1, nI_1]
    have hCj : C j = if tuB D day y set j then nI y else drS D j day (-1) false := by
      rw [hCe, tuC, hsn]; rfl
    cases hcm : comB D j day with
    | false =>
      have hneg : C j < 0 := by
        rw [hCj]
        have : tuB D day y set j = false := by simp [tuB, hcm]
        rw [this]
        simp only [Bool.false_eq_true, if_false]
        rw [drS, thr_com (by omega), hcm]
        simp only [Bool.false_eq_true, if_false]
        decide
      obtain ⟨μ', r1, r2⟩ := ih (j + 1) fu μ1 (by omega) (by omega) hF (cast_none hP hneg b2)
      refine ⟨μ', ?_, r2⟩
      rw [← r1]
      rw [hcm] at ht
      simp (disch := omega) only [b_X11_goesWith_17, xR0 hX, some_bind, cI6 hCy, z2, nn_lt, natT, if_true, xI6 hX, x6, ht, bI_if0, Bool.false_eq_true, if_false, nI_1]
    | true =>
      rw [hcm] at ht
      have bt : ¬ bI true = 0 := by decide
      have h81 : ∀ q : Bool, tuB D day y set j = q → ∃ μ', b_X11_goesWith_81 (b_X11_goesWith_17 fu) (some x) (nI y) (nI set) (some (x + 1 + 118 + 6 * l)) (nI j) (bI q) (mkH n st S μ1) = some (bI (tuP D T Nt day y set), mkH n st S μ') ∧ ∀ a i, ¬ (x + 158 ≤ a ∧ a ≤ x + 162) → ¬ a = x + 1 + 118 + 6 * l + 4 → ¬ a = x + 1 + 118 + 6 * l + 5 → μ' a i = μ a i := by
        intro q hq
        rw [hq] at hCj
        cases q with
        | false =>
          obtain ⟨μ', r1, r2⟩ := h99 (drS D j day (-1) false) (by rw [hCj]; rfl)
          refine ⟨μ', ?_, r2⟩
          rw [← r1]
          simp (disch := omega) only [b_X11_goesWith_81, bI_if0, Bool.false_eq_true, if_false, xR5 hX, some_bind, xACas hX, hcj]
        | true =>
          obtain ⟨μ', r1, r2⟩ := h99 (nI y) (by rw [hCj]; rfl)
          refine ⟨μ', ?_, r2⟩
          rw [← r1]
          simp only [b_X11_goesWith_81, bt, if_false]
      have h810 := h81 false
      have h811 := h81 true
      rw [show bI false = (0 : Int32) from rfl] at h810
      rw [show bI true = (1 : Int32) from rfl] at h811
      have hpre : b_X11_goesWith_17 (fu + 1) (some x) (nI y) (nI set) (some (x + 1 + 118 + 6 * l)) (nI j) (mkH n st S μ1) = if nI j = nI y then b_X11_goesWith_81 (b_X11_goesWith_17 fu) (some x) (nI y) (nI set) (some (x + 1 + 118 + 6 * l)) (nI j) 0 (mkH n st S μ1) else if D (91 + j) < 0 then b_X11_goesWith_81 (b_X11_goesWith_17 fu) (some x) (nI y) (nI set) (some (x + 1 + 118 + 6 * l)) (nI j) 0 (mkH n st S μ1) else if ((nI set >>> (D (91 + j) &&& 31)) &&& 1) = 0 then b_X11_goesWith_81 (b_X11_goesWith_17 fu) (some x) (nI y) (nI set) (some (x + 1 + 118 + 6 * l)) (nI j) 0 (mkH n st S μ1) else b_X11_goesWith_81 (b_X11_goesWith_17 fu) (some x) (nI y) (nI set) (some (x + 1 + 118 + 6 * l)) (nI j) 1 (mkH n st S μ1) := by
        simp (disch := omega) only [b_X11_goesWith_17, xR0 hX, some_bind, cI6 hCy, z2, nn_lt, natT, if_true, xI6 hX, x6, ht, bt, if_false, cR5 hCy, cEmen hCy, oManI hCy, m1]
      rw [hpre]
      by_cases c1 : j = y
      · rw [if_pos (by rw [c1])]
        exact h810 (by simp [tuB, c1])
      · rw [if_neg (fun h => c1 ((nI_eq (by omega) (by omega)).mp h))]
        by_cases c2 : D (91 + j) < 0
        · rw [if_pos c2]
          exact h810 (by simp [tuB, c2])
        · rw [if_neg c2]
          obtain ⟨e1, l1⟩ := club_of hI (show j < nD D 2 by omega) c2
          have hts := tstN (a := set) (k := nD D (91 + j)) (by omega) (by omega)
          rw [← e1] at hts
          rw [hts, bI_if0]
          by_cases c3 : set.testBit (nD D (91 + j)) = true
          · rw [if_pos c3]
            exact h811 (by simp [tuB, c1, c2, c3, hcm])
          · rw [if_neg c3]
            exact h810 (by simp [tuB, c3])
theorem k_goesWith (hX : ShX S x) (hs : Sim μ (x + 1) D) (hI : Inv D) {day : Int32} {y set : Nat} (hy : y < nD D 2) (hset : set < 64) (hl : l < 5) (hU : LawU μ (x + 1 + 118 + 6 * l) T Nt) (hNt : Nt ≤ 300) (hC : ∀ i, i < nD D 2 → μ (x + 165) i = drS D i day (-1) false) (h6 : μ x 6 = nI (biN (fun i => comB D i day) (nD D 2))) (hsn : sntB D y day = false) : ∃ μ', f_X11_goesWith (some x) (nI y) (nI set) (some (x + 1 + 118 + 6 * l)) (mkH n st S μ) = some (bI (tuP D T Nt day y set), mkH n st S μ') ∧ ∀ a i, ¬ (x + 158 ≤ a ∧ a ≤ x + 162) → ¬ a = x + 1 + 118 + 6 * l + 4 → ¬ a = x + 1 + 118 + 6 * l + 5 → μ' a i = μ a i := by
  have hCy := hX.city
  obtain ⟨e2, b2⟩ := hI.men
  obtain ⟨fu, hfu, hfl⟩ : ∃ q, FU = q ∧ 301 < q := ⟨FU, rfl, by decide⟩
  obtain ⟨μ1, r1, r2, r3, r4⟩ := k_pbegin (n := n) (st := st) (μ := μ) hX b2
  obtain ⟨μ', w1, w2⟩ := k_goL (n := n) (st := st) hX hs hI hy hset hl hU hNt hC h6 hsn (nD D 2) 0 fu μ1 (by omega) (by omega) r4 (r2.ext (fun _ _ => rfl) (fun _ _ => rfl) (fun _ _ => rfl))
  refine ⟨μ', ?_, w2⟩
  have z2 : μ (x + 1) 6 = nI (nD D 2) := by rw [hs.manN, e2]
  rw [← w1, ← hfu]
  simp only [f_X11_goesWith, xR3 hX, xR0 hX, some_bind, cI6 hCy, z2, pock hX, r1]
  rfl
end TURN
