-- ===== judge, best =====
def juV (A C V : Nat → Int32) (K N : Nat) : Nat → Nat → Int32
  | 0, _ => if K < N then nI (K + 1) else 0
  | q + 1, j => if j < N then (if A j = nI j then (if C j = V j then juV A C V K N q (j + 1) else nI (j + 1)) else nI (j + 1)) else nI (j + 1)
section JUDGE
variable {n : Nat} {st : Nat → Nat} {S : SH} {μ : MU} {x b m c l j : Nat} {D : DR} {T : Nat → Int32} {Nt : Nat}
theorem k_judgeL (hX : ShX S x) (hI : Inv D) (day : Int32) {K : Nat} (hK : K ≤ 16) {A C : Nat → Int32} : ∀ k j fu (μ : MU), j + k = K → k < fu → Sim μ (x + 1) D → BaseOK st S μ x b → LawU μ (x + 1 + 118 + 6 * lawA D) (lawT D) (lawN D) → DrOK μ x D day → μ x 9 = nI K → (∀ i, i < K → μ (x + 166) i = A i ∧ μ (x + 167) i = C i) → ∃ μ', b_X11_judge_18 fu (some x) day (nI j) (mkH n st S μ) = some (juV A C (clV D (lawT D) (lawN D) day) K (nD D 2) k j, mkH n st S μ') ∧ ∀ a i, ¬ (x + 158 ≤ a ∧ a ≤ x + 162) → ¬ a = x + 1 + 118 + 6 * lawA D + 4 → ¬ a = x + 1 + 118 + 6 * lawA D + 5 → μ' a i = μ a i := by
  have hCy := hX.city
  obtain ⟨e2, b2⟩ := hI.men
  have hlA := lawA_lt hI
  intro k
  induction k with
  | zero =>
    intro j fu μ hj hf hs hBs hU hd h9 hAC
    obtain ⟨fu, rfl⟩ : ∃ q, fu = q + 1 := ⟨fu - 1, by omega⟩
    obtain rfl : j = K := by omega
    have h6 : μ (x + 1) 6 = nI (nD D 2) := by rw [hs.manN, e2]
    refine ⟨μ, ?_, fun _ _ _ _ _ => rfl⟩
    rw [juV]
    by_cases h : j < nD D 2
    · rw [if_pos h]
      simp (disch := omega) only [b_X11_judge_18, xI9 hX, some_bind, h9, nn_lt, natF, if_false, xR0 hX, cI6 hCy, h6, natT, if_true, nI_1]
    · rw [if_neg h]
      simp (disch := omega) only [b_X11_judge_18, xI9 hX, some_bind, h9, nn_lt, natF, if_false, xR0 hX, cI6 hCy, h6]
  | succ k ih =>
    intro j fu μ hj hf hs hBs hU hd h9 hAC
    obtain ⟨fu, rfl⟩ : ∃ q, fu = q + 1 := ⟨fu - 1, by omega⟩
    have h6 : μ (x + 1) 6 = nI (nD D 2) := by rw [hs.manN, e2]
    obtain ⟨w1, w2⟩ := hAC j (by omega)
    rw [juV]
    by_cases c1 : j < nD D 2
    · rw [if_pos c1]
      by_cases c2 : A j = nI j
      · rw [if_pos c2]
        obtain ⟨μ1, t1, t2⟩ := k_clubs (n := n) (st := st) (b := b) hX hs hI hBs c1 hlA hU (law_in hI).2 hd
        have kL := k_lawNow (n := n) (st := st) hCy hs hI
        rw [c2] at w1
        by_cases c3 : C j = clV D (lawT D) (lawN D) day j
        · rw [if_pos c3]
          obtain ⟨μ', r1, r2⟩ := ih (j + 1) fu μ1 (by omega) (by omega) (Sim.frX hI hs (fun a q h q1 q2 => t2 a q (by omega) (by omega) (by omega))) (hBs.congr (fun _ _ => rfl) (fun a q h => t2 a q (by omega) (by omega) (by omega))) (hU.congr (fun a q h => t2 a q (by omega) (by omega) (by omega))) (hd.congr (fun i => t2 _ _ (by omega) (by omega) (by omega)) (t2 _ _ (by omega) (by omega) (by omega))) (by rw [t2 _ _ (by omega) (by omega) (by omega)]; exact h9) (fun i hi => by rw [t2 _ _ (by omega) (by omega) (by omega), t2 _ _ (by omega) (by omega) (by omega)]; exact hAC i hi)
          refine ⟨μ', ?_, fun a i q1 q2 q3 => by rw [r2 a i q1 q2 q3, t2 a i q1 q2 q3]⟩
          rw [← r1]
          simp (disch := omega) only [b_X11_judge_18, xI9 hX, some_bind, h9, nn_lt, natT, if_true, xR0 hX, cI6 hCy, h6, xR7 hX, xARMa hX, w1, xR8 hX, xARCl hX, w2, cck hCy, kL, xck hX, t1, c3, nI_1]
        · rw [if_neg c3]
          refine ⟨μ1, ?_, t2⟩
          simp (disch := omega) only [b_X11_judge_18, xI9 hX, some_bind, h9, nn_lt, natT, if_true, xR0 hX, cI6 hCy, h6, xR7 hX, xARMa hX, w1, xR8 hX, xARCl hX, w2, cck hCy, kL, xck hX, t1, c3, if_false, nI_1]
      · rw [if_neg c2]
        refine ⟨μ, ?_, fun _ _ _ _ _ => rfl⟩
        simp (disch := omega) only [b_X11_judge_18, xI9 hX, some_bind, h9, nn_lt, natT, if_true, xR0 hX, cI6 hCy, h6, xR7 hX, xARMa hX, w1, c2, if_false, nI_1]
    · rw [if_neg c1]
      refine ⟨μ, ?_, fun _ _ _ _ _ => rfl⟩
      simp (disch := omega) only [b_X11_judge_18, xI9 hX, some_bind, h9, nn_lt, natT, if_true, xR0 hX, cI6 hCy, h6, natF, if_false, nI_1]
theorem r_judgeL (hS : ShM S m) (hm : x ≤ m) (hI : Inv D) {μc : MU} {Lw : Nat} (hU : LawU μc Lw (lawT D) (lawN D)) (day : Int32) {K : Nat} (hK : K ≤ 16) {A C : Nat → Int32} : ∀ k j fu (μ : MU), j + k = K → k < fu → BaseOK st S μ x b → μ (m + 1) = D → μ m 29 = nI K → (∀ i, i < K → μ (m + 14) (2 * i) = A i ∧ μ (m + 14) (2 * i + 1) = C i) → ∃ μ', b_X12_judge_11 fu (some m) day (nI j) (mkH n st S μ) = some (juV A C (clV D (lawT D) (lawN D) day) K (nD D 2) k j, mkH n st S μ') ∧ FrTu m μ μ' := by
  obtain ⟨e2, b2⟩ := hI.men
  intro k
  induction k with
  | zero =>
    intro j fu μ hj hf hBs hD h29 hAC
    obtain ⟨fu, rfl⟩ : ∃ q, fu = q + 1 := ⟨fu - 1, by omega⟩
    obtain rfl : j = K := by omega
    refine ⟨μ, ?_, fun _ _ _ _ => rfl⟩
    rw [juV]
    by_cases h : j < nD D 2
    · rw [if_pos h]
      simp (disch := omega) only [b_X12_judge_11, mI29 hS, some_bind, h29, nn_lt, natF, if_false, mR0 hS, lit_aI, mA0 hS, hD, e2, natT, if_true, nI_1]
    · rw [if_neg h]
      simp (disch := omega) only [b_X12_judge_11, mI29 hS, some_bind, h29, nn_lt, natF, if_false, mR0 hS, lit_aI, mA0 hS, hD, e2]
  | succ k ih =>
    intro j fu μ hj hf hBs hD h29 hAC
    obtain ⟨fu, rfl⟩ : ∃ q, fu = q + 1 := ⟨fu - 1, by omega⟩
    have h2 : D 2 = nI (nD D 2) := e2
    obtain ⟨w1, w2⟩ := hAC j (by omega)
    rw [juV]
    by_cases c1 : j < nD D 2
    · rw [if_pos c1]
      by_cases c2 : A j = nI j
      · rw [if_pos c2]
        obtain ⟨μ1, t1, t2⟩ := r_clubs (n := n) (st := st) (x := x) (b := b) hS hm hI hU hBs hD day c1
        rw [c2] at w1
        by_cases c3 : C j = clV D (lawT D) (lawN D) day j
        · rw [if_pos c3]
          obtain ⟨μ', r1, r2⟩ := ih (j + 1) fu μ1 (by omega) (by omega) (hBs.congr (fun _ _ => rfl) (fun a q h => t2 a q (by omega) (by omega))) (by funext q; rw [t2 _ _ (by omega) (by omega), hD]) (by rw [t2 _ _ (by omega) (by omega)]; exact h29) (fun i hi => by rw [t2 _ _ (by omega) (by omega), t2 _ _ (by omega) (by omega)]; exact hAC i hi)
          refine ⟨μ', ?_, fun a i q1 q2 => by rw [r2 a i q1 q2, t2 a i q1 q2]⟩
          rw [← r1]
          simp (disch := omega) only [b_X12_judge_11, mI29 hS, some_bind, h29, nn_lt, natT, if_true, mR0 hS, lit_aI, mA0 hS, hD, h2, mR28 hS, lit_mul, nI_1, mA28 hS, w1, w2, rck hS, t1, c3]
        · rw [if_neg c3]
          refine ⟨μ1, ?_, t2⟩
          simp (disch := omega) only [b_X12_judge_11, mI29 hS, some_bind, h29, nn_lt, natT, if_true, mR0 hS, lit_aI, mA0 hS, hD, h2, mR28 hS, lit_mul, nI_1, mA28 hS, w1, w2, rck hS, t1, c3, if_false]
      · rw [if_neg c2]
        refine ⟨μ, ?_, fun _ _ _ _ => rfl⟩
        simp (disch := omega) only [b_X12_judge_11, mI29 hS, some_bind, h29, nn_lt, natT, if_true, mR0 hS, lit_aI, mA0 hS, hD, h2, mR28 hS, lit_mul, nI_1, mA28 hS, w1, c2, if_false]
    · rw [if_neg c1]
      refine ⟨μ, ?_, fun _ _ _ _ => rfl⟩
      simp (disch := omega) only [b_X12_judge_11, mI29 hS, some_bind, h29, nn_lt, natT, if_true, mR0 hS, lit_aI, mA0 hS, hD, h2, natF, if_false, nI_1]
theorem op_judge (hR : R n st S μ x b) (a1 : Int32) : Res (f_X11_judge (some x) a1) (f_X12_judge (some (x + 175)) a1) n st S μ x b := by
  have hR' := hR
  obtain ⟨⟨hX, hS, hs, hI, hL0⟩, hRest⟩ := hR
  have hC := hX.city
  have hBase := hRest.2.2.2.1
  obtain ⟨D, hD⟩ : ∃ D, μ (x + 175 + 1) = D := ⟨_, rfl⟩
  replace hs : Sim μ (x + 1) (μ (x + 175 + 1)) := hs
  replace hI : Inv (μ (x + 175 + 1)) := hI
  rw [hD] at hs hI
  obtain ⟨e0, b0⟩ := hI.today
  obtain ⟨e1, b1⟩ := hI.wards
  obtain ⟨e2, b2⟩ := hI.men
  obtain ⟨e3, b3⟩ := hI.words
  obtain ⟨e4, b4⟩ := hI.bars
  obtain ⟨e5, b5⟩ := hI.shes
  obtain ⟨e6, b6⟩ := hI.wets
  obtain ⟨e8, b8⟩ := hI.heaped
  have z0 := hs.today
  have z1 := hs.wardN
  have z2 := hs.manN
  have z3 := hs.wordN
  have z4 := hs.barN
  have z5 := hs.sheN
  have z6 := hs.wetN
  have z8 := hs.heapN
  have hU := lawU_now hs hI hL0
  have hlA := lawA_lt hI
  by_cases c2 : inS a1 0 9999 = true
  case neg => exact Res.same hR' (-1) (by simp only [f_X11_judge, some_bind, ite_bI0, k_isDay, c2, if_false, Bool.false_eq_true]) (by simp only [f_X12_judge, some_bind, ite_bI0, s_isDay, c2, if_false, Bool.false_eq_true])
  have hd : ¬ a1 < 0 := inS_nn c2
  obtain ⟨K, t1, t2, t3, t4⟩ := hRest.2.1
  obtain ⟨fu, hfu, hfl⟩ : ∃ q, FU = q ∧ 301 < q := ⟨FU, rfl, by decide⟩
  obtain ⟨μ1, g1, gF, gD⟩ := k_drawn (n := n) (st := st) hX hs hI hd
  have hs1 : Sim μ1 (x + 1) D := Sim.frX hI hs (fun a q h _ _ => gF a q (by omega) (by omega))
  obtain ⟨μ3, p1, p2⟩ := k_judgeL (n := n) (st := st) (b := b) hX hI a1 t1 (A := fun i => μ (x + 189) (2 * i)) (C := fun i => μ (x + 189) (2 * i + 1)) K 0 fu μ1 (by omega) (by omega) hs1 (hBase.congr (fun _ _ => rfl) (fun a q h => gF a q (by omega) (by omega))) (hU.congr (fun a q h => gF a q (by omega) (by omega))) gD (by rw [gF _ _ (by omega) (by omega)]; exact t2) (fun i hi => by rw [gF _ _ (by omega) (by omega), gF _ _ (by omega) (by omega)]; exact t4 i hi)
  have h3 : ∀ a i, ¬ a = x + 165 → ¬ (a = x ∧ i = 6) → ¬ (x + 158 ≤ a ∧ a ≤ x + 162) → ¬ a = x + 1 + 118 + 6 * lawA D + 4 → ¬ a = x + 1 + 118 + 6 * lawA D + 5 → μ3 a i = μ a i := fun a i q1 q2 q3 q4 q5 => by rw [p2 a i q3 q4 q5, gF a i q1 q2]
  have hD3 : μ3 (x + 175 + 1) = D := by funext q; rw [h3 _ _ (by omega) (by omega) (by omega) (by omega) (by omega), hD]
  obtain ⟨μ5, r1, r2⟩ := r_judgeL (n := n) (st := st) (x := x) (b := b) hS (by omega) hI hU a1 t1 (A := fun i => μ (x + 189) (2 * i)) (C := fun i => μ (x + 189) (2 * i + 1)) K 0 fu μ3 (by omega) (by omega) (hBase.congr (fun _ _ => rfl) (fun a q h => h3 a q (by omega) (by omega) (by omega) (by omega) (by omega))) hD3 (by rw [h3 _ _ (by omega) (by omega) (by omega) (by omega) (by omega)]; exact t3) (fun i hi => by rw [show x + 175 + 14 = x + 189 from by omega, h3 _ _ (by omega) (by omega) (by omega) (by omega) (by omega), h3 _ _ (by omega) (by omega) (by omega) (by omega) (by omega)]; exact ⟨rfl, rfl⟩)
  refine ⟨juV (fun i => μ (x + 189) (2 * i)) (fun i => μ (x + 189) (2 * i + 1)) (clV D (lawT D) (lawN D) a1) K (nD D 2) K 0, mkH n st S μ3, n, S, μ5, ?_, ?_, hR'.bes hlA h3 r2⟩
  · rw [← p1, ← hfu]
    simp only [f_X11_judge, k_isDay, some_bind, ite_bI0, c2, if_true, xck hX, g1]
    rfl
  · rw [← r1, ← hfu]
    simp only [f_X12_judge, s_isDay, some_bind, ite_bI0, c2, if_true]
    rfl
end JUDGE
