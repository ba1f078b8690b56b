-- ===== the reference's vote =====
section VOTE2
variable {n : Nat} {st : Nat → Nat} {S : SH} {μ : MU} {x b m c : Nat} {D E : DR}
theorem scrD_v {i w j : Nat} (h5 : nD E 5 < 40) (hj : j < 9) : scrD E i w (651 + 40 * j + nD E 5) = svS (E (107 + w)) (if haF (E (155 + i)) then E (123 + w) else 0) (if haW (E (155 + i)) then E (75 + w) else -1) (E (23 + wdS E i)) 0 0 (E (139 + i)) (E 0) j := by
  rw [scrD, addD, if_neg (by omega), if_pos (by omega), show (651 + 40 * j + nD E 5 - 651) / 40 = j from by omega]
theorem scrD_inv (hI : Inv E) (h5 : nD E 5 < 40) {i w : Nat} (hi : i < nD E 2) (hw : w < nD E 2) : Inv (scrD E i w) := by
  obtain ⟨e0, b0⟩ := hI.today
  obtain ⟨e1, b1⟩ := hI.wards
  obtain ⟨e2, b2⟩ := hI.men
  obtain ⟨e3, b3⟩ := hI.words
  obtain ⟨e4, b4⟩ := hI.bars
  obtain ⟨e5, b5⟩ := hI.shes
  obtain ⟨e6, b6⟩ := hI.wets
  obtain ⟨e8, b8⟩ := hI.heaped
  obtain ⟨q1, q2⟩ := wdS_of hI hi
  refine sherd_inv (a1 := E (107 + w)) (a2 := if haF (E (155 + i)) then E (123 + w) else 0) (a3 := if haW (E (155 + i)) then E (75 + w) else -1) (a4 := E (23 + wdS E i)) (a5 := 0) (rd := 0) (hd := E (139 + i)) hI h5 ?_ (fun j hj => scrD_v h5 hj) ?_ (hI.mName w hw) ?_ ?_ ?_ (Or.inl rfl) ⟨0, by omega, rfl⟩ (hI.mHand i hi)
  · intro q h1 h2
    rw [scrD, addD, if_neg h1, if_neg h2]
  · rw [scrD, addD, if_pos rfl]
  · split
    · exact Or.inr (hI.mFat w hw)
    · exact Or.inl rfl
  · split
    · obtain ⟨k, hk, e⟩ := hI.mWard w hw
      exact Or.inr ⟨k, by omega, e⟩
    · exact Or.inl rfl
  · obtain ⟨k, hk, e⟩ := hI.tribe _ q2
    exact Or.inr ⟨k, by omega, e⟩
theorem r_scratch (hS : ShM S m) (hD : μ (m + 1) = E) (hI : Inv E) (h5 : nD E 5 < 40) {i w : Nat} (hi : i < nD E 2) (hw : w < nD E 2) (k75 : Option Nat → Int32 → Int32 → AH → Option (Int32 × AH)) (made : Int32) : ∃ μ' : MU, b_X12_vote_115 k75 (some m) made (nI i) (nI w) (mkH n st S μ) = k75 (some m) made (nI (i + 1)) (mkH n st S μ') ∧ μ' (m + 1) = scrD E i w ∧ ∀ a j, ¬ a = m + 1 → μ' a j = μ a j := by
  obtain ⟨e0, b0⟩ := hI.today
  obtain ⟨e1, b1⟩ := hI.wards
  obtain ⟨e2, b2⟩ := hI.men
  obtain ⟨e3, b3⟩ := hI.words
  obtain ⟨e4, b4⟩ := hI.bars
  obtain ⟨e5, b5⟩ := hI.shes
  obtain ⟨e6, b6⟩ := hI.wets
  obtain ⟨e8, b8⟩ := hI.heaped
  obtain ⟨q1, q2⟩ := wdS_of hI hi
  obtain ⟨hk, hk1, hk2⟩ := hI.mHand i hi
  have r0 : E (139 + i) / 10000 = 0 := by
    rw [hk2, show nI hk / 10000 = nI (hk / 10000) from pk_div (d := 10000) (by omega) (by omega) (by omega), show hk / 10000 = 0 from by omega]; rfl
  have r1 : iRem (E (139 + i)) 10000 = E (139 + i) := by
    rw [hk2, show iRem (nI hk) 10000 = nI (hk % 10000) from pk_rem (d := 10000) (by omega) (by decide) (by decide), show hk % 10000 = hk from by omega]
  obtain ⟨μ', f1, f2, f3, f4, f5⟩ := r_makes (n := n) (st := st) hS hD hI h5 (E (107 + w)) (if haF (E (155 + i)) then E (123 + w) else 0) (if haW (E (155 + i)) then E (75 + w) else -1) (E (23 + wdS E i)) 0 (E (139 + i))
  rw [r0, r1] at f4
  refine ⟨μ', ?_, ?_, f2⟩
  · have f184 : ∀ a2 a3 : Int32, a2 = (if haF (E (155 + i)) then E (123 + w) else 0) → a3 = (if haW (E (155 + i)) then E (75 + w) else -1) → b_X12_vote_184 k75 (some m) made (nI i) (some m) (E (107 + w)) a2 a3 (mkH n st S μ) = k75 (some m) made (nI (i + 1)) (mkH n st S μ') := by
      intro a2 a3 h2 h3
      subst h2; subst h3
      simp (disch := omega) only [b_X12_vote_184, mR0 hS, some_bind, lit_add, mA0 hS, hD, q1, rck hS, f1, nI_1]
    have f163 : ∀ a2 : Int32, a2 = (if haF (E (155 + i)) then E (123 + w) else 0) → b_X12_vote_163 k75 (some m) made (nI i) (nI w) (E (155 + i)) (some m) (E (107 + w)) a2 (mkH n st S μ) = k75 (some m) made (nI (i + 1)) (mkH n st S μ') := by
      intro a2 h2
      by_cases hW : E (155 + i) / 2 = 1
      · simp (disch := omega) only [b_X12_vote_163, hW, if_true, mR0 hS, some_bind, lit_add, mA0 hS, hD]
        exact f184 _ _ h2 (by simp [haW, hW])
      · simp (disch := omega) only [b_X12_vote_163, hW, if_false, Bool.false_eq_true]
        exact f184 _ _ h2 (by simp [haW, hW])
    have hw0 : ¬ nI w < (0 : Int32) := nI_pos (by omega)
    by_cases hF : iRem (E (155 + i)) 2 = 1
    · simp (disch := omega) only [b_X12_vote_115, hw0, if_false, mR0 hS, some_bind, lit_add, mA0 hS, hD, hF, if_true, Bool.false_eq_true]
      exact f163 _ (by simp [haF, hF])
    · simp (disch := omega) only [b_X12_vote_115, hw0, if_false, mR0 hS, some_bind, lit_add, mA0 hS, hD, hF, Bool.false_eq_true]
      exact f163 _ (by simp [haF, hF])
  · funext q
    by_cases h1 : q = 5
    · subst h1; rw [f5, scrD, addD, if_pos rfl]
    · by_cases h2 : 651 ≤ q ∧ q < 1011 ∧ (q - 651) % 40 = nD E 5
      · obtain ⟨j, hj, rfl⟩ : ∃ j, j < 9 ∧ q = 651 + 40 * j + nD E 5 := ⟨(q - 651) / 40, by omega, by omega⟩
        rw [f4 j hj, scrD_v h5 hj]
      · rw [f3 q h1 h2, scrD, addD, if_neg h1, if_neg h2]
theorem n1_ne {j : Nat} (hj : j < 2 ^ 31) : ¬ nI j = (-1 : Int32) := fun h => by
  have := congrArg (fun q : Int32 => decide (q < 0)) h
  rw [show decide ((-1 : Int32) < 0) = true from by decide, decide_eq_true_eq] at this
  exact nI_pos (by omega) this
theorem r_voteL (hS : ShM S m) (hI0 : Inv D) (made : Int32) : ∀ k j fu (μ1 : MU) (E : DR), j + k = nD D 2 → k < fu → AgS D E → μ1 (m + 1) = E → Inv E → nD E 5 + cnS (fun i => drS D i (D 0) (-1) false) k j ≤ 40 → ∃ μ' : MU, b_X12_vote_75 fu (some m) made (nI j) (mkH n st S μ1) = some (made, mkH n st S μ') ∧ μ' (m + 1) = itS (votS (fun i => drS D i (D 0) (-1) false)) k j E ∧ ∀ a q, ¬ a = m + 1 → μ' a q = μ1 a q := by
  obtain ⟨e2, b2⟩ := hI0.men
  intro k
  induction k with
  | zero =>
    intro j fu μ1 E hj hf hA hD hI h40
    obtain ⟨fu, rfl⟩ : ∃ q, fu = q + 1 := ⟨fu - 1, by omega⟩
    obtain rfl : j = nD D 2 := by omega
    have z2 : E 2 = nI (nD D 2) := by rw [hA 2 (by omega) (by omega), e2]
    exact ⟨μ1, by simp (disch := omega) only [b_X12_vote_75, mR0 hS, some_bind, lit_aI, mA0 hS, hD, z2, nn_lt, natF, if_false, Bool.false_eq_true], hD, fun _ _ _ => rfl⟩
  | succ k ih =>
    intro j fu μ1 E hj hf hA hD hI h40
    obtain ⟨fu, rfl⟩ : ∃ q, fu = q + 1 := ⟨fu - 1, by omega⟩
    have z2 : E 2 = nI (nD D 2) := by rw [hA 2 (by omega) (by omega), e2]
    have n2 : nD E 2 = nD D 2 := hA.n (by omega)
    have d0 : E 0 = D 0 := hA 0 (by omega) (by omega)
    have hcm := r_doesCome (n := n) (st := st) hS hD hI (i := j) (by omega) (D 0)
    have hca := r_castOf (n := n) (st := st) hS hD hI (i := j) (by omega) (D 0) (-1)
    rw [comB_c hI0 hA (by omega)] at hcm
    rw [casS_c hI0 hA (by omega)] at hca
    have h40' : nD E 5 + ((if drS D j (D 0) (-1) false < 0 then 0 else 1) + cnS (fun i => drS D i (D 0) (-1) false) k (j + 1)) ≤ 40 := h40
    have hst : ∀ s0, s0 = drS D j (D 0) (-1) false → ∃ μ' : MU, b_X12_vote_115 (b_X12_vote_75 fu) (some m) made (nI j) s0 (mkH n st S μ1) = some (made, mkH n st S μ') ∧ μ' (m + 1) = itS (votS (fun i => drS D i (D 0) (-1) false)) (k + 1) j E ∧ ∀ a q, ¬ a = m + 1 → μ' a q = μ1 a q := by
      intro s0 hs0
      by_cases h0 : s0 < 0
      · rw [← hs0, if_pos h0] at h40'
        obtain ⟨μ', g1, g2, g3⟩ := ih (j + 1) fu μ1 E (by omega) (by omega) hA hD hI (by omega)
        refine ⟨μ', ?_, ?_, g3⟩
        · rw [← g1]
          simp only [b_X12_vote_115, h0, if_true, nI_1]
        · rw [g2]
          show _ = itS _ k (j + 1) (votS _ j E)
          rw [votS, ← hs0, if_pos h0]
      · rw [← hs0, if_neg h0] at h40'
        rcases drS_rng hI0 j (D 0) (-1) false with hr | ⟨w, hw, hr⟩
        · rw [← hs0] at hr; rw [hr] at h0; exact absurd (by decide) h0
        · rw [← hs0] at hr
          obtain ⟨μ2, f1, f2, f3⟩ := r_scratch (n := n) (st := st) hS hD hI (by omega) (i := j) (w := w) (by omega) (by omega) (b_X12_vote_75 fu) made
          obtain ⟨μ', g1, g2, g3⟩ := ih (j + 1) fu μ2 (scrD E j w) (by omega) (by omega) (scrD_ag hA) f2 (scrD_inv hI (by omega) (by omega) (by omega)) (by rw [scrD_5 (by omega)]; omega)
          refine ⟨μ', ?_, ?_, fun a q h => by rw [g3 a q h, f3 a q h]⟩
          · rw [hr, f1, g1]
          · rw [g2]
            show _ = itS _ k (j + 1) (votS _ j E)
            rw [votS, ← hs0, if_neg h0, hr, nI_clamp (by omega)]
    by_cases hc : comB D j (D 0) = true
    · have hd : casS D j (D 0) (-1) = drS D j (D 0) (-1) false := by
        simp only [drS, thrS, n1_ne (show j < 2 ^ 31 by omega), hc, decide_false, Bool.not_false, Bool.true_and, if_true, payS, Bool.false_eq_true, if_false]
        rw [if_pos (by decide)]
      obtain ⟨μ', g1, g2⟩ := hst _ hd
      refine ⟨μ', ?_, g2⟩
      rw [← g1]
      simp (disch := omega) only [b_X12_vote_75, mR0 hS, some_bind, lit_aI, mA0 hS, hD, z2, nn_lt, natT, if_true, d0, rck hS, hcm, ite_bI0, hc, hca]
    · have hd : (-1 : Int32) = drS D j (D 0) (-1) false := by simp [drS, thrS, hc]
      obtain ⟨μ', g1, g2⟩ := hst _ hd
      refine ⟨μ', ?_, g2⟩
      rw [← g1]
      simp (disch := omega) only [b_X12_vote_75, mR0 hS, some_bind, lit_aI, mA0 hS, hD, z2, nn_lt, natT, if_true, d0, rck hS, hcm, ite_bI0, hc, if_false, Bool.false_eq_true]
theorem op_vote (hR : R n st S μ x b) : Res (f_X11_vote (some x)) (f_X12_vote (some (x + 175))) n st S μ x b := by
  have hR' := hR
  obtain ⟨⟨hX, hS, hs, hI, hL0⟩, hRest⟩ := hR
  have hC := hX.city
  have hBase := hRest.2.2.2.1
  obtain ⟨D, hD⟩ : ∃ D, μ (x + 175 + 1) = D := ⟨_, rfl⟩
  replace hs : Sim μ (x + 1) (μ (x + 175 + 1)) := hs
  replace hI : Inv (μ (x + 175 + 1)) := hI
  rw [hD] at hs hI
  obtain ⟨e0, b0⟩ := hI.today
  obtain ⟨e1, b1⟩ := hI.wards
  obtain ⟨e2, b2⟩ := hI.men
  obtain ⟨e3, b3⟩ := hI.words
  obtain ⟨e4, b4⟩ := hI.bars
  obtain ⟨e5, b5⟩ := hI.shes
  obtain ⟨e6, b6⟩ := hI.wets
  obtain ⟨e8, b8⟩ := hI.heaped
  have z0 := hs.today
  have z1 := hs.wardN
  have z2 := hs.manN
  have z3 := hs.wordN
  have z4 := hs.barN
  have z5 := hs.sheN
  have z6 := hs.wetN
  have z8 := hs.heapN
  have hd0 : ¬ D 0 < 0 := by rw [e0]; exact nI_pos (by omega)
  obtain ⟨μ1, g1, gF, gC, g6⟩ := k_drawCasts (n := n) (st := st) hX hs hI hd0 (-1) false
  have hs1 : Sim μ1 (x + 1) D := Sim.frX hI hs (fun a q h _ _ => gF a q (by omega) (by omega))
  have hD1 : μ1 (x + 175 + 1) = D := by funext q; rw [gF _ _ (by omega) (by omega), hD]
  have kN := k_voteN (n := n) (st := st) hX hs1 hI gC (nD D 2) 0 FU 0 (by omega) (by have : FU = 4000 := rfl; omega) (by omega)
  have rN := fun (μ2 : MU) (h : μ2 (x + 175 + 1) = D) => r_voteN (n := n) (st := st) hS h hI (nD D 2) 0 FU 0 (by omega) (by have : FU = 4000 := rfl; omega) (by omega)
  rw [Nat.zero_add] at kN
  simp only [Nat.zero_add] at rN
  have fx : f_X11_vote (some x) (mkH n st S μ) = b_X11_vote_17 FU (some x) 0 0 (mkH n st S μ1) := by
    have g1' : f_X11_drawCasts (some x) (D 0) (-1) 0 (mkH n st S μ) = some (mkH n st S μ1) := g1
    simp only [f_X11_vote, xR0 hX, some_bind, cI0 hC, z0, xck hX, g1']
  by_cases h40 : 40 < nD D 5 + cnS (fun i => drS D i (D 0) (-1) false) (nD D 2) 0
  · refine ⟨-2, mkH n st S μ1, n, S, μ1, ?_, ?_, hR'.congr ?_⟩
    · rw [fx]
      refine Eq.trans kN ?_
      rw [if_pos h40]
    · refine Eq.trans (rN μ1 hD1) ?_
      rw [if_pos h40]
    · intro a j h
      unfold scr at h
      exact gF a j (by omega) (by omega)
  · rw [if_neg h40] at kN
    obtain ⟨μ2, f1, f2, f3, f4⟩ := k_voteL (n := n) (st := st) hX hI (C := fun i => drS D i (D 0) (-1) false) (fun i _ => drS_rng hI i _ _ _) (nI (cnS (fun i => drS D i (D 0) (-1) false) (nD D 2) 0)) (nD D 2) 0 FU μ1 D (by omega) (by have : FU = 4000 := rfl; omega) (fun _ _ _ => rfl) hs1 hI (by omega) gC
    have hD2 : μ2 (x + 175 + 1) = D := by funext q; rw [f4 _ _ (by omega) (by omega) (by omega), hD1]
    obtain ⟨μ3, w1, w2, w3⟩ := r_voteL (n := n) (st := st) hS hI (nI (cnS (fun i => drS D i (D 0) (-1) false) (nD D 2) 0)) (nD D 2) 0 FU μ2 D (by omega) (by have : FU = 4000 := rfl; omega) (fun _ _ _ => rfl) hD2 hI (by omega)
    have rN2 := rN μ2 hD2
    rw [if_neg h40] at rN2
    refine ⟨_, mkH n st S μ2, n, S, μ3, fx.trans (Eq.trans kN f1), Eq.trans rN2 w1, ?_, hRest.congr ?_⟩
    · refine Core.mk' (μ := μ) hX hS ?_ ?_ ?_ ?_
      · exact hL0
      · intro a j h
        rw [w3 _ _ (by omega), f4 _ _ (by omega) (by omega) (by omega), gF _ _ (by omega) (by omega)]
      · rw [w2]
        exact Sim.frX f3 f2 (fun a q h _ _ => w3 a q (by omega))
      · rw [w2]; exact f3
    · intro a j h
      unfold oth at h
      rw [w3 _ _ (by omega), f4 _ _ (by omega) (by omega) (by omega), gF _ _ (by omega) (by omega)]
end VOTE2
