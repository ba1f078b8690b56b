-- ===== the reference's search for the least set =====
section TURN3
variable {n : Nat} {st : Nat → Nat} {S : SH} {μ : MU} {x b m c l j : Nat} {D : DR} {T : Nat → Int32} {Nt : Nat}
theorem cntB_pos {p : Nat → Bool} : ∀ k j, 0 < cntB p k j → ∃ i, j ≤ i ∧ i < j + k ∧ p i = true := by
  intro k
  induction k with
  | zero => intro j h; exact absurd h (by simp [cntB])
  | succ k ih =>
    intro j h
    by_cases hp : p j = true
    · exact ⟨j, by omega, by omega, hp⟩
    · have e : cntB p (k + 1) j = cntB p k (j + 1) := by
        simp [cntB, hp]
      rw [e] at h
      obtain ⟨i, h1, h2, h3⟩ := ih (j + 1) h
      exact ⟨i, by omega, by omega, h3⟩
theorem mxS_av (D : DR) (i : Nat) (day away : Int32) : ∀ k j (s : Int32 × Int32), (s.2 = -1 ∨ ∃ q, q < j ∧ avB D i day away q = true ∧ s.2 = nI q) → ((itS (mxStep D i day away) k j s).2 = -1 ∨ ∃ q, q < j + k ∧ avB D i day away q = true ∧ (itS (mxStep D i day away) k j s).2 = nI q) := by
  intro k
  induction k with
  | zero => intro j s h; exact h
  | succ k ih =>
    intro j s h
    have := ih (j + 1) (mxStep D i day away j s) (by
      unfold mxStep
      split
      · rename_i hc
        exact Or.inr ⟨j, by omega, hc.1, rfl⟩
      · rcases h with h | ⟨q, q1, q2⟩
        · exact Or.inl h
        · exact Or.inr ⟨q, by omega, q2⟩)
    rw [show j + (k + 1) = j + 1 + k from by omega]
    exact this
theorem av_snt {i y : Nat} {day away : Int32} (h : avB D i day away y = true) : sntB D y day = false := by
  simp only [avB, Bool.and_eq_true, Bool.not_eq_true'] at h
  exact h.2
theorem frS_av (hI : Inv D) (i : Nat) (day away : Int32) {y : Nat} (hy : y < nD D 2) (h : frS D i day away = nI y) : sntB D y day = false := by
  have b2 := hI.men.2
  have n1 := n1_ne (show y < 2 ^ 31 by omega)
  unfold frS at h
  split at h
  · exact absurd h.symm n1
  · rcases mxS_av D i day away (nD D 2) 0 (-1, -1) (Or.inl rfl) with e | ⟨q, q1, q2, q3⟩
    · rw [e] at h; exact absurd h.symm n1
    · rw [q3] at h
      rw [(nI_eq (by omega) (by omega)).mp h] at q2
      exact av_snt q2
theorem casS_av (hI : Inv D) (i : Nat) (day away : Int32) {y : Nat} (hy : y < nD D 2) (h : casS D i day away = nI y) : sntB D y day = false := by
  have b2 := hI.men.2
  unfold casS at h
  split at h
  · exact frS_av hI i day away hy h
  · split at h
    · rename_i hc
      rw [Bool.and_eq_true, h, nI_clamp (by omega)] at hc
      exact av_snt hc.1
    · exact frS_av hI i day away hy h
/-- who is sent goes by no set -/
theorem tuP_snt (hI : Inv D) (T : Nat → Int32) (Nt : Nat) {day : Int32} {y : Nat} (hy : y < nD D 2) (hsn : sntB D y day = true) (s : Nat) : tuP D T Nt day y s = false := by
  have b2 := hI.men.2
  have n1 := n1_ne (show y < 2 ^ 31 by omega)
  rw [tuP, decide_eq_false_iff_not, caS, goS]
  intro h
  split at h
  · rename_i hc
    rw [Bool.and_eq_true, decide_eq_true_eq, h, leN, if_neg (nI_pos (by omega)), nI_clamp (by omega), aLs] at hc
    obtain ⟨i, -, -, h3⟩ := cntB_pos _ _ hc.1
    rw [decide_eq_true_eq, tuC, hsn] at h3
    split at h3
    · exact n1 h3.symm
    · unfold drS at h3
      split at h3
      · simp only [Bool.false_eq_true, if_false, payS] at h3
        rw [if_pos (by decide)] at h3
        have := casS_av hI i day (-1) hy h3
        rw [hsn] at this; cases this
      · exact n1 h3.symm
  · exact n1 h.symm
def FrTu (m : Nat) (μ μ' : MU) : Prop := ∀ a j, ¬ (a = m ∧ ((11 ≤ j ∧ j ≤ 18) ∨ (22 ≤ j ∧ j ≤ 26))) → ¬ (m + 7 ≤ a ∧ a ≤ m + 13) → μ' a j = μ a j
theorem r_turn37 (hS : ShM S m) (hI : Inv D) (k5 : Option Nat → Int32 → Int32 → Int32 → Int32 → AH → Option (Int32 × AH)) (day v : Int32) {y s : Nat} (hy : y < nD D 2) (hs : s < 64) : ∀ k j fu (μ1 : MU), μ1 (m + 1) = D → (∀ i, i < nD D 2 → μ1 (m + 13) i = if i < j then tuC D day y s i else drS D i day (-1) false) → j + k = nD D 2 → k < fu → ∃ μ', b_X12_turnFor_37 k5 fu (some m) (nI y) day v (nI s) (nI j) (mkH n st S μ1) = ((f_X12_goesBy (some m) (mkH n st S μ')).bind fun p8 => if p8.1 = nI y then k5 (some m) (nI y) day (nI s) (nI (s + 1)) p8.2 else k5 (some m) (nI y) day v (nI (s + 1)) p8.2) ∧ μ' (m + 1) = D ∧ (∀ i, i < nD D 2 → μ' (m + 13) i = tuC D day y s i) ∧ ∀ a i, ¬ a = m + 13 → μ' a i = μ1 a i := by
  obtain ⟨e2, b2⟩ := hI.men
  intro k
  induction k with
  | zero =>
    intro j fu μ1 hD hC hj hf
    obtain ⟨fu, rfl⟩ : ∃ q, fu = q + 1 := ⟨fu - 1, by omega⟩
    obtain rfl : j = nD D 2 := by omega
    refine ⟨μ1, ?_, hD, fun i hi => by rw [hC i hi, if_pos hi], fun _ _ _ => rfl⟩
    simp (disch := omega) only [b_X12_turnFor_37, mR0 hS, some_bind, lit_aI, mA0 hS, hD, e2, nn_lt, natF, if_false, rck hS, nI_1]
  | succ k ih =>
    intro j fu μ1 hD hC hj hf
    obtain ⟨fu, rfl⟩ : ∃ q, fu = q + 1 := ⟨fu - 1, by omega⟩
    have h2 : D 2 = nI (nD D 2) := e2
    have hcj := hC j (by omega)
    rw [if_neg (Nat.lt_irrefl _)] at hcj
    have rS := r_isSent (n := n) (st := st) hS hD (i := y) (by omega) day
    have rC := r_doesCome (n := n) (st := st) hS hD hI (i := j) (by omega) day
    have go : ∀ w, w = tuC D day y s j → b_X12_turnFor_37 k5 (fu + 1) (some m) (nI y) day v (nI s) (nI j) (mkH n st S μ1) = b_X12_turnFor_37 k5 fu (some m) (nI y) day v (nI s) (nI (j + 1)) (mkH n st S (up2 μ1 (m + 13) j w)) → ∃ μ', b_X12_turnFor_37 k5 (fu + 1) (some m) (nI y) day v (nI s) (nI j) (mkH n st S μ1) = ((f_X12_goesBy (some m) (mkH n st S μ')).bind fun p8 => if p8.1 = nI y then k5 (some m) (nI y) day (nI s) (nI (s + 1)) p8.2 else k5 (some m) (nI y) day v (nI (s + 1)) p8.2) ∧ μ' (m + 1) = D ∧ (∀ i, i < nD D 2 → μ' (m + 13) i = tuC D day y s i) ∧ ∀ a i, ¬ a = m + 13 → μ' a i = μ1 a i := by
      intro w hw he
      obtain ⟨μ', r1, r2, r3, r4⟩ := ih (j + 1) fu (up2 μ1 (m + 13) j w) (by funext q; rw [up2_ne (by omega), hD]) (by
        intro i hi
        by_cases hij : i = j
        · subst hij; rw [up2_same, if_pos (by omega), hw]
        · rw [up2_ne (by omega), hC i hi]
          by_cases h : i < j
          · rw [if_pos h, if_pos (by omega)]
          · rw [if_neg h, if_neg (by omega)]) (by omega) (by omega)
      exact ⟨μ', he.trans r1, r2, r3, fun a i h => by rw [r4 a i h, up2_ne (by omega)]⟩
    have h0 : b_X12_turnFor_101 k5 (b_X12_turnFor_37 k5 fu) (some m) (nI y) day v (nI s) (nI j) 0 (mkH n st S μ1) = b_X12_turnFor_37 k5 fu (some m) (nI y) day v (nI s) (nI (j + 1)) (mkH n st S (up2 μ1 (m + 13) j (drS D j day (-1) false))) := by
      simp (disch := omega) only [b_X12_turnFor_101, b_X12_turnFor_138, mR27 hS, some_bind, mA27 hS, hcj, mS27 hS, nI_1, if_true]
    have h1 : b_X12_turnFor_101 k5 (b_X12_turnFor_37 k5 fu) (some m) (nI y) day v (nI s) (nI j) 1 (mkH n st S μ1) = b_X12_turnFor_37 k5 fu (some m) (nI y) day v (nI s) (nI (j + 1)) (mkH n st S (up2 μ1 (m + 13) j (if sntB D y day then -1 else nI y))) := by
      have b10 : ¬ (1 : Int32) = 0 := by decide
      have bt : ¬ bI true = 0 := by decide
      cases hsn : sntB D y day with
      | false =>
        rw [hsn] at rS
        simp (disch := omega) only [b_X12_turnFor_101, b_X12_turnFor_138, mR27 hS, some_bind, mS27 hS, nI_1, b10, if_false, rck hS, rS, bI_if0, Bool.false_eq_true]
      | true =>
        rw [hsn] at rS
        simp (disch := omega) only [b_X12_turnFor_101, b_X12_turnFor_138, mR27 hS, some_bind, mS27 hS, nI_1, b10, if_false, rck hS, rS, bt, if_true]
    have hpre : b_X12_turnFor_37 k5 (fu + 1) (some m) (nI y) day v (nI s) (nI j) (mkH n st S μ1) = if nI j = nI y then b_X12_turnFor_101 k5 (b_X12_turnFor_37 k5 fu) (some m) (nI y) day v (nI s) (nI j) 0 (mkH n st S μ1) else if D (91 + j) < 0 then b_X12_turnFor_101 k5 (b_X12_turnFor_37 k5 fu) (some m) (nI y) day v (nI s) (nI j) 0 (mkH n st S μ1) else if ((nI s >>> (D (91 + j) &&& 31)) &&& 1) = 1 then (if bI (comB D j day) = 0 then b_X12_turnFor_101 k5 (b_X12_turnFor_37 k5 fu) (some m) (nI y) day v (nI s) (nI j) 0 (mkH n st S μ1) else b_X12_turnFor_101 k5 (b_X12_turnFor_37 k5 fu) (some m) (nI y) day v (nI s) (nI j) 1 (mkH n st S μ1)) else b_X12_turnFor_101 k5 (b_X12_turnFor_37 k5 fu) (some m) (nI y) day v (nI s) (nI j) 0 (mkH n st S μ1) := by
      simp (disch := omega) only [b_X12_turnFor_37, mR0 hS, some_bind, lit_aI, mA0 hS, hD, lit_add, rck hS, rC]
      rw [h2]
      simp (disch := omega) only [nn_lt, natT, if_true]
    have hno : tuB D day y s j = false → drS D j day (-1) false = tuC D day y s j := fun h => by rw [tuC, h]; rfl
    by_cases c1 : j = y
    · exact go _ (hno (by simp [tuB, c1])) (by rw [hpre, if_pos (by rw [c1]), h0])
    · have c1' : ¬ nI j = nI y := fun q => c1 ((nI_eq (by omega) (by omega)).mp q)
      by_cases c2 : D (91 + j) < 0
      · exact go _ (hno (by simp [tuB, c2])) (by rw [hpre, if_neg c1', if_pos c2, h0])
      · obtain ⟨k1, k2⟩ := club_of hI (show j < nD D 2 by omega) c2
        have ht := tstN (a := s) (k := nD D (91 + j)) (by omega) (by omega)
        rw [← k1] at ht
        cases c3 : s.testBit (nD D (91 + j)) with
        | false =>
          rw [c3] at ht
          refine go _ (hno (by simp [tuB, c3])) ?_
          rw [hpre, if_neg c1', if_neg c2, if_neg (by rw [ht]; decide), h0]
        | true =>
          rw [c3] at ht
          cases c4 : comB D j day with
          | false =>
            refine go _ (hno (by simp [tuB, c4])) ?_
            rw [hpre, if_neg c1', if_neg c2, if_pos (by rw [ht]; decide), c4, if_pos (by decide), h0]
          | true =>
            refine go (if sntB D y day then -1 else nI y) ?_ ?_
            · have : tuB D day y s j = true := by simp [tuB, c1, c2, c3, c4]
              rw [tuC, this]; rfl
            · rw [hpre, if_neg c1', if_neg c2, if_pos (by rw [ht]; decide), c4, if_neg (by decide), h1]
def minS (P : Nat → Bool) (s : Nat) (v : Int32) : Prop := (v = -1 ∧ ∀ t, t < s → P t = false) ∨ ∃ t, t < s ∧ v = nI t ∧ P t = true ∧ ∀ r, r < s → P r = true → keyN t ≤ keyN r
theorem popN_64 : ∀ s, s < 64 → popN 16 s ≤ 6 := by decide +kernel
theorem r_turn5 (hS : ShM S m) (hm : x ≤ m) (hI : Inv D) {μc : MU} {Lw : Nat} (hU : LawU μc Lw (lawT D) (lawN D)) (hB : BaseOK st S μ x b) (hD : μ (m + 1) = D) (day : Int32) {y : Nat} (hy : y < nD D 2) : ∀ k s fu (v : Int32) (μ1 : MU), s + k = 64 → k < fu → minS (tuP D (lawT D) (lawN D) day y) s v → FrTu m μ μ1 → ∃ w μ', b_X12_turnFor_5 fu (some m) (nI y) day v (nI s) (mkH n st S μ1) = some (w, mkH n st S μ') ∧ minK (tuP D (lawT D) (lawN D) day y) w ∧ FrTu m μ μ' := by
  have b2 := hI.men.2
  intro k
  induction k with
  | zero =>
    intro s fu v μ1 hs hf hv hF
    obtain ⟨fu, rfl⟩ : ∃ q, fu = q + 1 := ⟨fu - 1, by omega⟩
    obtain rfl : s = 64 := by omega
    exact ⟨v, μ1, by simp (disch := omega) only [b_X12_turnFor_5, lit_lt, natF, if_false], hv, hF⟩
  | succ k ih =>
    intro s fu v μ1 hs hf hv hF
    obtain ⟨fu, rfl⟩ : ∃ q, fu = q + 1 := ⟨fu - 1, by omega⟩
    obtain ⟨P, hP⟩ : ∃ P, P = tuP D (lawT D) (lawN D) day y := ⟨_, rfl⟩
    have hD1 : μ1 (m + 1) = D := by funext q; rw [hF _ _ (by omega) (by omega), hD]
    have h28 : ∀ v', (P s = true → v' = nI s) → (P s = false → v' = v) → minS P (s + 1) v' → ∃ w μ', b_X12_turnFor_28 (b_X12_turnFor_5 fu) (some m) (nI y) day v (nI s) (mkH n st S μ1) = some (w, mkH n st S μ') ∧ minK P w ∧ FrTu m μ μ' := by
      intro v' v1 v2 v3
      obtain ⟨fq, hfq, hfl⟩ : ∃ q, FU = q ∧ 301 < q := ⟨FU, rfl, by decide⟩
      obtain ⟨μ2, r1, r2, r3⟩ := r_castAll (n := n) (st := st) hS hD1 hI day (-1)
      obtain ⟨μ3, t1, t2, t3, t4⟩ := r_turn37 (n := n) (st := st) hS hI (b_X12_turnFor_5 fu) day v hy (s := s) (by omega) (nD D 2) 0 fq μ2 (by funext q; rw [r2 _ _ (by omega), hD1]) (fun i hi => by rw [if_neg (by omega)]; exact r3 i hi) (by omega) (by omega)
      obtain ⟨μ4, s1, s2⟩ := r_goesBy (n := n) (st := st) (x := x) (b := b) hS hm hI hU (C := tuC D day y s) (fun i _ => tuC_rng hI day hy s i) (hB.congr (fun _ _ => rfl) (fun a q h => by rw [t4 a q (by omega), r2 a q (by omega), hF a q (by omega) (by omega)])) t2 t3
      obtain ⟨w, μ', w1, w2, w3⟩ := ih (s + 1) fu v' μ4 (by omega) (by omega) (by rw [← hP]; exact v3) (fun a q q1 q2 => by rw [s2 a q q1 (by omega), t4 a q (by omega), r2 a q (by omega), hF a q q1 q2])
      rw [← hP] at w2
      refine ⟨w, μ', ?_, w2, w3⟩
      rw [← w1]
      have e : b_X12_turnFor_28 (b_X12_turnFor_5 fu) (some m) (nI y) day v (nI s) (mkH n st S μ1) = b_X12_turnFor_37 (b_X12_turnFor_5 fu) fq (some m) (nI y) day v (nI s) 0 (mkH n st S μ2) := by
        rw [← hfq]
        simp only [b_X12_turnFor_28, rck hS, r1, some_bind]
      rw [e]
      refine Eq.trans t1 ?_
      simp only [s1, some_bind]
      have hPs : P s = decide (caS D (lawT D) (lawN D) (tuC D day y s) = nI y) := by rw [hP]; rfl
      by_cases hc : caS D (lawT D) (lawN D) (tuC D day y s) = nI y
      · rw [if_pos hc, v1 (by rw [hPs, decide_eq_true hc])]
      · rw [if_neg hc, v2 (by rw [hPs, decide_eq_false hc])]
    rw [← hP] at hv ⊢
    have hmn : ∀ t, t < 64 → minS P (s + 1) (nI t) → ∀ z : Nat, True := fun _ _ _ _ => trivial
    rcases hv with ⟨rfl, hv⟩ | ⟨t, t1, rfl, t2, t3⟩
    · have hp : b_X12_turnFor_5 (fu + 1) (some m) (nI y) day (-1) (nI s) (mkH n st S μ1) = b_X12_turnFor_28 (b_X12_turnFor_5 fu) (some m) (nI y) day (-1) (nI s) (mkH n st S μ1) := by
        have m1 : (-1 : Int32) < 0 := by decide
        simp (disch := omega) only [b_X12_turnFor_5, lit_lt, natT, if_true, m1]
      rw [hp]
      cases hPs : P s with
      | true =>
        exact h28 (nI s) (fun _ => rfl) (fun h => by rw [hPs] at h; cases h) (Or.inr ⟨s, by omega, rfl, hPs, fun r r1 r2 => by
          by_cases e : r = s
          · rw [e]; exact Nat.le_refl _
          · rw [hv r (by omega)] at r2; cases r2⟩)
      | false =>
        exact h28 (-1) (fun h => by rw [hPs] at h; cases h) (fun _ => rfl) (Or.inl ⟨rfl, fun r r1 => by
          by_cases e : r = s
          · rw [e]; exact hPs
          · exact hv r (by omega)⟩)
    · have rb1 := r_bits (a := s) (by omega) (mkH n st S μ1)
      have rb2 := r_bits (a := t) (by omega) (mkH n st S μ1)
      have q1 := popN_64 s (by omega)
      have q2 := popN_64 t (by omega)
      have t0 : ¬ nI t < (0 : Int32) := nI_pos (by omega)
      by_cases hlt : popN 16 s < popN 16 t
      · have hp : b_X12_turnFor_5 (fu + 1) (some m) (nI y) day (nI t) (nI s) (mkH n st S μ1) = b_X12_turnFor_28 (b_X12_turnFor_5 fu) (some m) (nI y) day (nI t) (nI s) (mkH n st S μ1) := by
          have hl2 : nI (popN 16 s) < nI (popN 16 t) := nI_lt hlt (by omega)
          simp (disch := omega) only [b_X12_turnFor_5, lit_lt, natT, if_true, t0, if_false, rb1, rb2, some_bind, hl2]
        rw [hp]
        cases hPs : P s with
        | true =>
          exact h28 (nI s) (fun _ => rfl) (fun h => by rw [hPs] at h; cases h) (Or.inr ⟨s, by omega, rfl, hPs, fun r r1 r2 => by
            by_cases e : r = s
            · rw [e]; exact Nat.le_refl _
            · have := t3 r (by omega) r2
              unfold keyN at this ⊢
              omega⟩)
        | false =>
          exact h28 (nI t) (fun h => by rw [hPs] at h; cases h) (fun _ => rfl) (Or.inr ⟨t, by omega, rfl, t2, fun r r1 r2 => by
            by_cases e : r = s
            · rw [e, hPs] at r2; cases r2
            · exact t3 r (by omega) r2⟩)
      · obtain ⟨w, μ', w1, w2, w3⟩ := ih (s + 1) fu (nI t) μ1 (by omega) (by omega) (by
          rw [← hP]
          exact Or.inr ⟨t, by omega, rfl, t2, fun r r1 r2 => by
            by_cases e : r = s
            · rw [e]; unfold keyN; omega
            · exact t3 r (by omega) r2⟩) hF
        rw [← hP] at w2
        refine ⟨w, μ', ?_, w2, w3⟩
        rw [← w1]
        have hl2 : ¬ nI (popN 16 s) < nI (popN 16 t) := by
          simp (disch := omega) only [nn_lt, natF, hlt, not_false_eq_true]
        simp (disch := omega) only [b_X12_turnFor_5, lit_lt, natT, if_true, t0, if_false, rb1, rb2, some_bind, hl2, nI_1]
theorem r_turnFor (hS : ShM S m) (hm : x ≤ m) (hI : Inv D) {μc : MU} {Lw : Nat} (hU : LawU μc Lw (lawT D) (lawN D)) (hB : BaseOK st S μ x b) (hD : μ (m + 1) = D) (day : Int32) {y : Nat} (hy : y < nD D 2) : ∃ w μ', f_X12_turnFor (some m) (nI y) day (mkH n st S μ) = some (w, mkH n st S μ') ∧ minK (tuP D (lawT D) (lawN D) day y) w ∧ FrTu m μ μ' := by
  obtain ⟨fu, hfu, hfl⟩ : ∃ q, FU = q ∧ 301 < q := ⟨FU, rfl, by decide⟩
  unfold f_X12_turnFor
  rw [hfu]
  exact r_turn5 (n := n) (st := st) hS hm hI hU hB hD day hy 64 0 fu (-1) μ (by omega) (by omega) (Or.inl ⟨rfl, fun t h => absurd h (by omega)⟩) (fun _ _ _ _ => rfl)
/-- the class's answer is the same -/
theorem minK_same (hI : Inv D) {day : Int32} {y : Nat} (hy : y < nD D 2) {v w : Int32} (h1 : sntB D y day = true ∧ v = -1 ∨ sntB D y day = false ∧ minK (tuP D T Nt day y) v) (h2 : minK (tuP D T Nt day y) w) : v = w := by
  rcases h1 with ⟨h, rfl⟩ | ⟨-, h⟩
  · exact minK_uni (Or.inl ⟨rfl, fun s _ => tuP_snt hI T Nt hy h s⟩) h2
  · exact minK_uni h h2
theorem minK_val {P : Nat → Bool} {v : Int32} (h : minK P v) : v = -1 ∨ ∃ t, t < 64 ∧ v = nI t := by
  rcases h with ⟨h, -⟩ | ⟨t, h1, h2, -⟩
  · exact Or.inl h
  · exact Or.inr ⟨t, h1, h2⟩
end TURN3
