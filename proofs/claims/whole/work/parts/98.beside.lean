-- ===== beside, keptBy =====
section BESIDE
variable {n : Nat} {st : Nat → Nat} {S : SH} {μ : MU} {x b m c l j : Nat} {D : DR} {C : Nat → Int32}
/-- the class's way from the casts to who goes -/
theorem k_besides (hX : ShX S x) (hs : Sim μ (x + 1) D) (hI : Inv D) (hU : LawU μ (x + 1 + 118 + 6 * lawA D) (lawT D) (lawN D)) {day : Int32} (hd : ¬ day < 0) (away : Int32) (kept : Bool) : ∃ μ1 μ2 μ3, f_X11_drawCasts (some x) day away (bI kept) (mkH n st S μ) = some (mkH n st S μ1) ∧ f_X11_pollCasts (some x) (mkH n st S μ1) = some (mkH n st S μ2) ∧ f_X2_lawNow (some (x + 1)) (mkH n st S μ2) = some (some (x + 1 + 118 + 6 * lawA D)) ∧ f_X6_whoGoes (some (x + 158)) (some (x + 1 + 118 + 6 * lawA D)) (mkH n st S μ2) = some ((if caS D (lawT D) (lawN D) (fun i => drS D i day away kept) < 0 then -3 else caS D (lawT D) (lawN D) (fun i => drS D i day away kept)), mkH n st S μ3) ∧ ∀ a i, ¬ a = x + 165 → ¬ (a = x ∧ i = 6) → ¬ (x + 158 ≤ a ∧ a ≤ x + 162) → ¬ a = x + 1 + 118 + 6 * lawA D + 4 → ¬ a = x + 1 + 118 + 6 * lawA D + 5 → μ3 a i = μ a i := by
  have b2 := hI.men.2
  have hlA := lawA_lt hI
  obtain ⟨μ1, g1, gF, gC, -⟩ := k_drawCasts (n := n) (st := st) hX hs hI hd away kept
  have hs1 : Sim μ1 (x + 1) D := Sim.frX hI hs (fun a q h _ _ => gF a q (by omega) (by omega))
  obtain ⟨μ2, p1, p2, p3⟩ := k_pollCasts (n := n) (st := st) hX hs1 hI (C := fun i => drS D i day away kept) (fun i _ => drS_rng hI i day away kept) gC
  have hs2 : Sim μ2 (x + 1) D := Sim.frX hI hs1 (fun a q h _ _ => p2 a q (by omega))
  have hU2 : LawU μ2 (x + 1 + 118 + 6 * lawA D) (lawT D) (lawN D) := hU.congr (fun a q h => by rw [p2 a q (by omega), gF a q (by omega) (by omega)])
  obtain ⟨μ3, w1, w2⟩ := k_whoGoes (n := n) (st := st) hX p3 b2 (fun i _ => aLs_lt b2 i) (fun i _ => aGs_lt hI (Nat.le_refl _) i) hlA hU2 (law_in hI).2
  exact ⟨μ1, μ2, μ3, g1, p1, k_lawNow hX.city hs2 hI, w1, fun a i q1 q2 q3 q4 q5 => by rw [w2 a i q4 q5, p2 a i q3, gF a i q1 q2]⟩
theorem R.bes (hR : R n st S μ x b) {l : Nat} (hl : l < 5) {μ1 μ2 : MU} (h1 : ∀ a i, ¬ a = x + 165 → ¬ (a = x ∧ i = 6) → ¬ (x + 158 ≤ a ∧ a ≤ x + 162) → ¬ a = x + 1 + 118 + 6 * l + 4 → ¬ a = x + 1 + 118 + 6 * l + 5 → μ1 a i = μ a i) (h2 : ∀ a j, ¬ (a = x + 175 ∧ ((11 ≤ j ∧ j ≤ 18) ∨ (22 ≤ j ∧ j ≤ 26))) → ¬ (x + 175 + 7 ≤ a ∧ a ≤ x + 175 + 13) → μ2 a j = μ1 a j) : R n st S μ2 x b := by
  refine hR.congr fun a j h => ?_
  unfold scr at h
  rw [h2 a j (by omega) (by omega), h1 a j (by omega) (by omega) (by omega) (by omega) (by omega)]
theorem op_beside (hR : R n st S μ x b) (a1 a2 : Int32) : Res (f_X11_beside (some x) a1 a2) (f_X12_beside (some (x + 175)) a1 a2) n st S μ x b := by
  have hR' := hR
  obtain ⟨⟨hX, hS, hs, hI, hL0⟩, hRest⟩ := hR
  have hC := hX.city
  have hBase := hRest.2.2.2.1
  obtain ⟨D, hD⟩ : ∃ D, μ (x + 175 + 1) = D := ⟨_, rfl⟩
  replace hs : Sim μ (x + 1) (μ (x + 175 + 1)) := hs
  replace hI : Inv (μ (x + 175 + 1)) := hI
  rw [hD] at hs hI
  obtain ⟨e0, b0⟩ := hI.today
  obtain ⟨e1, b1⟩ := hI.wards
  obtain ⟨e2, b2⟩ := hI.men
  obtain ⟨e3, b3⟩ := hI.words
  obtain ⟨e4, b4⟩ := hI.bars
  obtain ⟨e5, b5⟩ := hI.shes
  obtain ⟨e6, b6⟩ := hI.wets
  obtain ⟨e8, b8⟩ := hI.heaped
  have z0 := hs.today
  have z1 := hs.wardN
  have z2 := hs.manN
  have z3 := hs.wordN
  have z4 := hs.barN
  have z5 := hs.sheN
  have z6 := hs.wetN
  have z8 := hs.heapN
  have hU := lawU_now hs hI hL0
  have hlA := lawA_lt hI
  by_cases c1 : (decide (a1 = -1) || ixB a1 (nD D 2)) = true
  case neg => exact Res.same hR' (-1) (by simp only [f_X11_beside, xR0 hX, some_bind, cck hC, k_hasMan hC hs hI, ite_bI0, or_gate, c1, if_false, Bool.false_eq_true]) (by simp only [f_X12_beside, rck hS, some_bind, r_isMan hS hD hI, ite_bI0, or_gate, c1, if_false, Bool.false_eq_true])
  by_cases c2 : inS a2 0 9999 = true
  case neg => exact Res.same hR' (-1) (by simp only [f_X11_beside, xR0 hX, some_bind, cck hC, k_hasMan hC hs hI, ite_bI0, or_gate, c1, if_true, b_X11_beside_16, k_isDay, c2, if_false, Bool.false_eq_true]) (by simp only [f_X12_beside, rck hS, some_bind, r_isMan hS hD hI, ite_bI0, or_gate, c1, if_true, b_X12_beside_13, s_isDay, c2, if_false, Bool.false_eq_true])
  have hd : ¬ a2 < 0 := inS_nn c2
  obtain ⟨μ1, μ2, μ3, g1, g2, g3, g4, g5⟩ := k_besides (n := n) (st := st) hX hs hI hU hd a1 false
  have g1' : f_X11_drawCasts (some x) a2 a1 0 (mkH n st S μ) = some (mkH n st S μ1) := g1
  obtain ⟨v, hv⟩ : ∃ v, v = caS D (lawT D) (lawN D) (fun i => drS D i a2 a1 false) := ⟨_, rfl⟩
  rw [← hv] at g4
  have hD3 : μ3 (x + 175 + 1) = D := by funext q; rw [g5 _ _ (by omega) (by omega) (by omega) (by omega) (by omega), hD]
  obtain ⟨μ4, r1, r2, r3⟩ := r_castAll (n := n) (st := st) hS hD3 hI a2 a1
  obtain ⟨μ5, s1, s2⟩ := r_goesBy (n := n) (st := st) (x := x) (b := b) hS (by omega) hI hU (C := fun i => drS D i a2 a1 false) (fun i _ => drS_rng hI i a2 a1 false) (hBase.congr (fun _ _ => rfl) (fun a q h => by rw [r2 a q (by omega), g5 a q (by omega) (by omega) (by omega) (by omega) (by omega)])) (by funext q; rw [r2 _ _ (by omega), hD3]) r3
  rw [← hv] at s1
  refine ⟨if v < 0 then -3 else v, mkH n st S μ3, n, S, μ5, ?_, ?_, hR'.bes hlA g5 (fun a q q1 q2 => by rw [s2 a q q1 (by omega), r2 a q (by omega)])⟩
  · simp only [f_X11_beside, xR0 hX, some_bind, cck hC, k_hasMan hC hs hI, ite_bI0, or_gate, c1, if_true, b_X11_beside_16, k_isDay, c2, xck hX, g1', g2, xR3 hX, g3, pock hX, g4]
  · simp only [f_X12_beside, rck hS, some_bind, r_isMan hS hD3 hI, ite_bI0, or_gate, c1, if_true, b_X12_beside_13, s_isDay, c2, r1, s1]
    by_cases h : v < 0
    · rw [if_pos h, if_pos h]
    · rw [if_neg h, if_neg h]
theorem bou_club (hI : Inv D) {i : Nat} (hi : i < nD D 2) (day : Int32) : (if D (91 + i) < 0 then -1 else bouS D (D (91 + i)) day) = bouS D (D (91 + i)) day := by
  by_cases h : D (91 + i) < 0
  · rw [if_pos h, bouS_none hI _ _ h]
  · rw [if_neg h]
theorem r_keptL (hS : ShM S m) (hI : Inv D) (day : Int32) (fin : MU → Option (Int32 × AH)) (hfin : ∀ fu (μ1 : MU), μ1 (m + 1) = D → b_X12_keptBy_17 (fu + 1) (some m) day (nI (nD D 2)) (mkH n st S μ1) = fin μ1) : ∀ k j fu (μ1 : MU), μ1 (m + 1) = D → (∀ i, i < nD D 2 → μ1 (m + 13) i = if i < j then drS D i day (-1) true else drS D i day (-1) false) → j + k = nD D 2 → k < fu → ∃ μ', b_X12_keptBy_17 fu (some m) day (nI j) (mkH n st S μ1) = fin μ' ∧ μ' (m + 1) = D ∧ (∀ i, i < nD D 2 → μ' (m + 13) i = drS D i day (-1) true) ∧ ∀ a i, ¬ a = m + 13 → μ' a i = μ1 a i := by
  obtain ⟨e2, b2⟩ := hI.men
  intro k
  induction k with
  | zero =>
    intro j fu μ1 hD hC hj hf
    obtain ⟨fu, rfl⟩ : ∃ q, fu = q + 1 := ⟨fu - 1, by omega⟩
    obtain rfl : j = nD D 2 := by omega
    exact ⟨μ1, hfin fu μ1 hD, hD, fun i hi => by rw [hC i hi, if_pos hi], fun _ _ _ => rfl⟩
  | succ k ih =>
    intro j fu μ1 hD hC hj hf
    obtain ⟨fu, rfl⟩ : ∃ q, fu = q + 1 := ⟨fu - 1, by omega⟩
    have h2 : D 2 = nI (nD D 2) := e2
    have hcj := hC j (by omega)
    rw [if_neg (Nat.lt_irrefl _)] at hcj
    have go : ∀ v, v = drS D j day (-1) true → b_X12_keptBy_17 (fu + 1) (some m) day (nI j) (mkH n st S μ1) = b_X12_keptBy_17 fu (some m) day (nI (j + 1)) (mkH n st S (up2 μ1 (m + 13) j v)) → ∃ μ', b_X12_keptBy_17 (fu + 1) (some m) day (nI j) (mkH n st S μ1) = fin μ' ∧ μ' (m + 1) = D ∧ (∀ i, i < nD D 2 → μ' (m + 13) i = drS D i day (-1) true) ∧ ∀ a i, ¬ a = m + 13 → μ' a i = μ1 a i := by
      intro v hv he
      obtain ⟨μ', r1, r2, r3, r4⟩ := ih (j + 1) fu (up2 μ1 (m + 13) j v) (by funext q; rw [up2_ne (by omega), hD]) (by
        intro i hi
        by_cases hij : i = j
        · subst hij; rw [up2_same, if_pos (by omega), hv]
        · rw [up2_ne (by omega), hC i hi]
          by_cases h : i < j
          · rw [if_pos h, if_pos (by omega)]
          · rw [if_neg h, if_neg (by omega)]) (by omega) (by omega)
      exact ⟨μ', he.trans r1, r2, r3, fun a i h => by rw [r4 a i h, up2_ne (by omega)]⟩
    obtain ⟨s0, hs0⟩ : ∃ s0, s0 = bouS D (D (91 + j)) day := ⟨_, rfl⟩
    have h57 : b_X12_keptBy_17 (fu + 1) (some m) day (nI j) (mkH n st S μ1) = b_X12_keptBy_57 (b_X12_keptBy_17 fu) (some m) day (nI j) s0 (mkH n st S μ1) := by
      simp (disch := omega) only [b_X12_keptBy_17, mR0 hS, some_bind, lit_aI, mA0 hS, hD, lit_add, rck hS, r_boundTo hS hD hI]
      rw [h2]
      simp (disch := omega) only [nn_lt, natT, if_true]
      rw [hs0]
      by_cases h : D (91 + j) < 0
      · rw [if_pos h, bouS_none hI _ _ h]
      · rw [if_neg h]
    have h94 : b_X12_keptBy_94 (b_X12_keptBy_17 fu) (some m) day (nI j) (some (m + 13)) (nI j) (mkH n st S μ1) = b_X12_keptBy_17 fu (some m) day (nI (j + 1)) (mkH n st S (up2 μ1 (m + 13) j (drS D j day (-1) false))) := by
      simp (disch := omega) only [b_X12_keptBy_94, b_X12_keptBy_100, mR27 hS, some_bind, mA27 hS, hcj, mS27 hS, nI_1]
    have n1 := n1_ne (show j < 2 ^ 31 by omega)
    have hthr : thrS D j day (-1) = comB D j day := by simp [thrS, n1]
    have hT : drS D j day (-1) true = if comB D j day then payS D j day (-1) s0 else -1 := by rw [drS, hthr, hs0]; rfl
    have hF : drS D j day (-1) false = if comB D j day then casS D j day (-1) else -1 := by
      rw [drS, hthr]
      have : payS D j day (-1) (if false = true then bouS D (D (91 + j)) day else -1) = casS D j day (-1) := by
        simp only [Bool.false_eq_true, if_false, payS]
        rw [if_pos (by decide)]
      rw [this]
    by_cases c1 : s0 < 0
    · refine go (drS D j day (-1) false) ?_ ?_
      · rw [hT, hF, payS, if_pos c1]
      · rw [h57, ← h94]
        simp only [b_X12_keptBy_57, mR27 hS, some_bind, c1, if_true]
    · by_cases c2 : s0 = nI j
      · refine go (drS D j day (-1) false) ?_ ?_
        · rw [hT, hF, payS, if_neg c1, if_pos c2]
        · rw [h57, ← h94]
          simp only [b_X12_keptBy_57, mR27 hS, some_bind, c1, if_false]
          rw [if_pos c2]
      · obtain ⟨w, hw, ew⟩ : ∃ w, w < nD D 2 ∧ s0 = nI w := by
          rcases bouS_rng hI (D (91 + j)) day with h | h
          · rw [← hs0] at h; rw [h] at c1; exact absurd (by decide) c1
          · rw [← hs0] at h; exact h
        have n1w := n1_ne (show w < 2 ^ 31 by omega)
        have rS := r_isSent (n := n) (st := st) hS hD (i := w) (by omega) day
        have rC := r_doesCome (n := n) (st := st) hS hD hI (i := j) (by omega) day
        have hpay : payS D j day (-1) s0 = if sntB D w day = true then casS D j day (-1) else s0 := by
          rw [payS, if_neg c1, if_neg c2, ew, nI_clamp (by omega)]
          simp only [n1w, decide_false, Bool.false_or]
        by_cases c3 : sntB D w day = true
        · refine go (drS D j day (-1) false) ?_ ?_
          · rw [hT, hF, hpay, if_pos c3]
          · rw [h57, ← h94, ew]
            rw [ew] at c1 c2
            simp only [b_X12_keptBy_57, mR27 hS, some_bind, c1, c2, if_false, rck hS, rS, ite_bI0, c3, if_true]
        · by_cases c4 : comB D j day = true
          · refine go s0 ?_ ?_
            · rw [hT, if_pos c4, hpay, if_neg c3]
            · rw [h57]
              rw [ew] at c1 c2 ⊢
              simp (disch := omega) only [b_X12_keptBy_57, b_X12_keptBy_100, mR27 hS, some_bind, c1, c2, if_false, rck hS, rS, ite_bI0, c3, Bool.false_eq_true, rC, c4, if_true, mS27 hS, nI_1]
          · refine go (drS D j day (-1) false) ?_ ?_
            · rw [hT, hF, if_neg c4, if_neg c4]
            · rw [h57, ← h94]
              rw [ew] at c1 c2 ⊢
              simp only [b_X12_keptBy_57, mR27 hS, some_bind, c1, c2, if_false, rck hS, rS, ite_bI0, c3, Bool.false_eq_true, rC, c4]
theorem op_keptBy (hR : R n st S μ x b) (a1 : Int32) : Res (f_X11_keptBy (some x) a1) (f_X12_keptBy (some (x + 175)) a1) n st S μ x b := by
  have hR' := hR
  obtain ⟨⟨hX, hS, hs, hI, hL0⟩, hRest⟩ := hR
  have hC := hX.city
  have hBase := hRest.2.2.2.1
  obtain ⟨D, hD⟩ : ∃ D, μ (x + 175 + 1) = D := ⟨_, rfl⟩
  replace hs : Sim μ (x + 1) (μ (x + 175 + 1)) := hs
  replace hI : Inv (μ (x + 175 + 1)) := hI
  rw [hD] at hs hI
  obtain ⟨e0, b0⟩ := hI.today
  obtain ⟨e1, b1⟩ := hI.wards
  obtain ⟨e2, b2⟩ := hI.men
  obtain ⟨e3, b3⟩ := hI.words
  obtain ⟨e4, b4⟩ := hI.bars
  obtain ⟨e5, b5⟩ := hI.shes
  obtain ⟨e6, b6⟩ := hI.wets
  obtain ⟨e8, b8⟩ := hI.heaped
  have z0 := hs.today
  have z1 := hs.wardN
  have z2 := hs.manN
  have z3 := hs.wordN
  have z4 := hs.barN
  have z5 := hs.sheN
  have z6 := hs.wetN
  have z8 := hs.heapN
  have hU := lawU_now hs hI hL0
  have hlA := lawA_lt hI
  by_cases c2 : inS a1 0 9999 = true
  case neg => exact Res.same hR' (-1) (by simp only [f_X11_keptBy, some_bind, ite_bI0, k_isDay, c2, if_false, Bool.false_eq_true]) (by simp only [f_X12_keptBy, some_bind, ite_bI0, s_isDay, c2, if_false, Bool.false_eq_true])
  have hd : ¬ a1 < 0 := inS_nn c2
  obtain ⟨μ1, μ2, μ3, g1, g2, g3, g4, g5⟩ := k_besides (n := n) (st := st) hX hs hI hU hd (-1) true
  have g1' : f_X11_drawCasts (some x) a1 (-1) 1 (mkH n st S μ) = some (mkH n st S μ1) := g1
  obtain ⟨v, hv⟩ : ∃ v, v = caS D (lawT D) (lawN D) (fun i => drS D i a1 (-1) true) := ⟨_, rfl⟩
  rw [← hv] at g4
  have hD3 : μ3 (x + 175 + 1) = D := by funext q; rw [g5 _ _ (by omega) (by omega) (by omega) (by omega) (by omega), hD]
  obtain ⟨μ4, r1, r2, r3⟩ := r_castAll (n := n) (st := st) hS hD3 hI a1 (-1)
  have hD4 : μ4 (x + 175 + 1) = D := by funext q; rw [r2 _ _ (by omega), hD3]
  obtain ⟨fu, hfu, hfl⟩ : ∃ q, FU = q ∧ 301 < q := ⟨FU, rfl, by decide⟩
  obtain ⟨μ5, k1, k2, k3, k4⟩ := r_keptL (n := n) (st := st) hS hI a1 (fun μ1 => (f_X12_goesBy (some (x + 175)) (mkH n st S μ1)).bind fun p8 => if p8.1 < 0 then some (-3, p8.2) else some (p8.1, p8.2)) (by
    intro fu μ1 h
    simp (disch := omega) only [b_X12_keptBy_17, mR0 hS, some_bind, lit_aI, mA0 hS, h, e2, nn_lt, natF, if_false, rck hS]) (nD D 2) 0 fu μ4 hD4 (fun i hi => by rw [if_neg (by omega)]; exact r3 i hi) (by omega) (by omega)
  obtain ⟨μ6, s1, s2⟩ := r_goesBy (n := n) (st := st) (x := x) (b := b) hS (by omega) hI hU (C := fun i => drS D i a1 (-1) true) (fun i _ => drS_rng hI i a1 (-1) true) (hBase.congr (fun _ _ => rfl) (fun a q h => by rw [k4 a q (by omega), r2 a q (by omega), g5 a q (by omega) (by omega) (by omega) (by omega) (by omega)])) k2 k3
  rw [← hv] at s1
  refine ⟨if v < 0 then -3 else v, mkH n st S μ3, n, S, μ6, ?_, ?_, hR'.bes hlA g5 (fun a q q1 q2 => by rw [s2 a q q1 (by omega), k4 a q (by omega), r2 a q (by omega)])⟩
  · simp only [f_X11_keptBy, xR0 hX, some_bind, ite_bI0, if_true, k_isDay, c2, xck hX, g1', g2, xR3 hX, cck hC, g3, pock hX, g4]
  · have e : f_X12_keptBy (some (x + 175)) a1 (mkH n st S μ3) = b_X12_keptBy_17 fu (some (x + 175)) a1 0 (mkH n st S μ4) := by
      rw [← hfu]
      simp only [f_X12_keptBy, rck hS, some_bind, ite_bI0, if_true, s_isDay, c2, r1]
    rw [e]
    refine Eq.trans k1 ?_
    simp only [s1, some_bind]
    by_cases h : v < 0
    · rw [if_pos h, if_pos h]
    · rw [if_neg h, if_neg h]
end BESIDE
