-- ===== count =====
def cerS (M L : Nat → Nat) (go : Int32) (N : Nat) : Bool := decide (¬ go < 0) && allS (fun i => decide (nI i = go) || decide (M i < leN L go)) N 0
theorem goS_rng (T : Nat → Int32) (Nt tot : Nat) (L G : Nat → Nat) (N : Nat) : isO (goS T Nt tot L G N) N := by
  unfold goS
  split
  · exact fiS_rng L N
  · exact Or.inl rfl
section COUNT2
variable {n : Nat} {st : Nat → Nat} {S : SH} {μ : MU} {x b m c l : Nat} {D : DR} {N tot : Nat} {L M G : Nat → Nat} {T : Nat → Int32} {Nt : Nat}
theorem k_certL (hX : ShX S x) (hP : PoOK μ x N tot L M G) (hN : N ≤ 16) (hL : ∀ i, i < N → L i < 2 ^ 30) (hM : ∀ i, i < N → M i < 2 ^ 30) {w : Nat} (hw : w < N) : ∀ k j fu, j + k = N → k < fu → b_X6_isCertain_14 fu (some (x + 158)) (nI w) (nI j) (mkH n st S μ) = some (bI (allS (fun i => decide (nI i = nI w) || decide (M i < L w)) k j), mkH n st S μ) := by
  obtain ⟨p1, p2, p3⟩ := hP
  intro k
  induction k with
  | zero =>
    intro j fu hj hf
    obtain ⟨fu, rfl⟩ : ∃ q, fu = q + 1 := ⟨fu - 1, by omega⟩
    obtain rfl : j = N := by omega
    simp (disch := omega) only [b_X6_isCertain_14, poI0 hX, some_bind, p1, nn_lt, natF, if_false]
    rfl
  | succ k ih =>
    intro j fu hj hf
    obtain ⟨fu, rfl⟩ : ∃ q, fu = q + 1 := ⟨fu - 1, by omega⟩
    have i0 := ih (j + 1) fu (by omega) (by omega)
    have q1 := (p3 j (by omega)).2.1
    have q2 := (p3 w hw).1
    have m1 := hM j (by omega)
    have l1 := hL w hw
    show _ = some (bI ((decide (nI j = nI w) || decide (M j < L w)) && allS _ k (j + 1)), _)
    by_cases h0 : nI j = nI w
    · simp (disch := omega) only [b_X6_isCertain_14, poI0 hX, some_bind, p1, nn_lt, natT, if_true, nI_1, i0]
      rw [if_pos h0]
      simp [h0]
    · simp (disch := omega) only [b_X6_isCertain_14, poI0 hX, some_bind, p1, nn_lt, natT, if_true, h0, if_false, poR3 hX, xAMos hX, q1, poR2 hX, xALea hX, q2, nI_1, i0]
      by_cases h1 : M j < L w
      · simp [h1]
      · simp [h1, bI]
theorem r_certL (hS : ShM S m) (hD : μ (m + 1) = D) (hI : Inv D) {go : Int32} (h26 : μ m 26 = go) (hgo : isO go (nD D 2)) (hR : ∀ i, i < nD D 2 → μ (m + 10) i = nI (L i) ∧ μ (m + 11) i = nI (M i)) (hL : ∀ i, i < nD D 2 → L i < 2 ^ 30) (hM : ∀ i, i < nD D 2 → M i < 2 ^ 30) : ∀ k j fu (q : Bool), j + k = nD D 2 → k < fu → b_X12_isCertain_15 (mkH n st S μ) fu (some m) (bI q) (nI j) = some (bI (q && allS (fun i => decide (nI i = go) || (decide (¬ go < 0) && decide (M i < leN L go))) k j)) := by
  obtain ⟨e0, b0⟩ := hI.today
  obtain ⟨e1, b1⟩ := hI.wards
  obtain ⟨e2, b2⟩ := hI.men
  obtain ⟨e3, b3⟩ := hI.words
  obtain ⟨e4, b4⟩ := hI.bars
  obtain ⟨e5, b5⟩ := hI.shes
  obtain ⟨e6, b6⟩ := hI.wets
  obtain ⟨e8, b8⟩ := hI.heaped
  intro k
  induction k with
  | zero =>
    intro j fu q hj hf
    obtain ⟨fu, rfl⟩ : ∃ q, fu = q + 1 := ⟨fu - 1, by omega⟩
    obtain rfl : j = nD D 2 := by omega
    simp (disch := omega) only [b_X12_isCertain_15, mR0 hS, some_bind, lit_aI, mA0 hS, hD, e2, nn_lt, natF, if_false, rZ_bI]
    simp [allS]
  | succ k ih =>
    intro j fu q hj hf
    obtain ⟨fu, rfl⟩ : ∃ q, fu = q + 1 := ⟨fu - 1, by omega⟩
    have h2 : D 2 = nI (nD D 2) := e2
    obtain ⟨a1, a2⟩ := hR j (by omega)
    have m1 := hM j (by omega)
    have hstep : b_X12_isCertain_15 (mkH n st S μ) (fu + 1) (some m) (bI q) (nI j) = b_X12_isCertain_15 (mkH n st S μ) fu (some m) (bI (q && (decide (nI j = go) || (decide (¬ go < 0) && decide (M j < leN L go))))) (nI (j + 1)) := by
      rcases hgo with h | ⟨w, hw, h⟩
      · have g0 : go < 0 := by rw [h]; decide
        simp (disch := omega) only [b_X12_isCertain_15, b_X12_isCertain_64, mR0 hS, some_bind, lit_aI, mA0 hS, hD, mI26 hS, h26, g0, if_true, nI_1, bI_and1, bI_and0]
        rw [h2]
        simp (disch := omega) only [nn_lt, natT, if_true]
        by_cases e : nI j = go
        · rw [if_pos e]; simp [e]
        · rw [if_neg e]; simp [e]
      · have g0 : ¬ go < 0 := by rw [h]; exact nI_pos (by omega)
        have ew := (hR w hw).1
        have l1 := hL w hw
        have hle : leN L go = L w := by rw [leN, if_neg g0, h, nI_clamp (by omega)]
        rw [hle]
        subst h
        simp (disch := omega) only [b_X12_isCertain_15, b_X12_isCertain_64, mR0 hS, some_bind, lit_aI, mA0 hS, hD, mI26 hS, h26, g0, if_false, mR19 hS, mA19 hS, ew, mR20 hS, mA20 hS, a2, nn_lt, nI_1, bI_and1, bI_and0]
        rw [h2]
        simp (disch := omega) only [nn_lt, natT, if_true]
        by_cases e : nI j = nI w
        · rw [if_pos e]; simp [e]
        · rw [if_neg e]
          by_cases e2 : M j < L w
          · simp [e2]
          · simp [e, e2]
    rw [hstep, ih (j + 1) fu _ (by omega) (by omega), Bool.and_assoc]
    rfl
theorem cer_eq (M L : Nat → Nat) (go : Int32) (N : Nat) : (decide (¬ go < 0) && allS (fun i => decide (nI i = go) || (decide (¬ go < 0) && decide (M i < leN L go))) N 0) = cerS M L go N := by
  unfold cerS
  by_cases h : go < 0
  · simp [h]
  · simp [h]
theorem cMs_lt (D : DR) (g : Nat → Bool) {j : Nat} (hj : j ≤ 40) (i : Nat) : cMs D g j i < 2 ^ 30 := by
  have := cntB_le (fun s => g s && (meS D s).testBit i) j 0
  unfold cMs
  omega
theorem op_count (hR : R n st S μ x b) (a1 a2 : Int32) : Res (f_X11_count (some x) a1 a2) (f_X12_count (some (x + 175)) a1 a2) n st S μ x b := by
  have hR' := hR
  obtain ⟨⟨hX, hS, hs, hI, hL0⟩, hRest⟩ := hR
  have hC := hX.city
  have hBase := hRest.2.2.2.1
  obtain ⟨D, hD⟩ : ∃ D, μ (x + 175 + 1) = D := ⟨_, rfl⟩
  replace hs : Sim μ (x + 1) (μ (x + 175 + 1)) := hs
  replace hI : Inv (μ (x + 175 + 1)) := hI
  rw [hD] at hs hI
  obtain ⟨e0, b0⟩ := hI.today
  obtain ⟨e1, b1⟩ := hI.wards
  obtain ⟨e2, b2⟩ := hI.men
  obtain ⟨e3, b3⟩ := hI.words
  obtain ⟨e4, b4⟩ := hI.bars
  obtain ⟨e5, b5⟩ := hI.shes
  obtain ⟨e6, b6⟩ := hI.wets
  obtain ⟨e8, b8⟩ := hI.heaped
  have z0 := hs.today
  have z1 := hs.wardN
  have z2 := hs.manN
  have z3 := hs.wordN
  have z4 := hs.barN
  have z5 := hs.sheN
  have z6 := hs.wetN
  have z8 := hs.heapN
  have hU := lawU_now hs hI hL0
  have hlA := lawA_lt hI
  by_cases c1 : inS a1 0 (D 0) = true
  case neg => exact Res.same hR' (-1) (by simp only [f_X11_count, xR0 hX, some_bind, cI0 hC, z0, k_within, c1, ite_bI0, ↓reduceIte, Bool.false_eq_true]) (by simp only [f_X12_count, rck hS, some_bind, r_isKnownDay hS hD, c1, ite_bI0, ↓reduceIte, Bool.false_eq_true])
  obtain ⟨μ1, k1, k2, k3, -⟩ := k_countKnown (n := n) (st := st) hX hs hI hU a1
  have hD1 : μ1 (x + 175 + 1) = D := by funext q; rw [k2 _ _ (by omega) (by omega) (by omega), hD]
  have hs1 : Sim μ1 (x + 1) D := Sim.frX hI hs (fun a j h1 h2 h3 => k2 a j (by omega) (by omega) (by omega))
  have hU1 : LawU μ1 (x + 1 + 118 + 6 * lawA D) (lawT D) (lawN D) := hU.congr (fun a j h => k2 a j (by omega) (by omega) (by omega))
  obtain ⟨g, hg⟩ : ∃ g, g = kgS D (lawT D) (lawN D) a1 := ⟨_, rfl⟩
  rw [← hg] at k3
  have hL : ∀ i, i < nD D 2 → cLs D g (nD D 5) i < 2 ^ 30 := fun i _ => cLs_lt D g b5 i
  have hM : ∀ i, i < nD D 2 → cMs D g (nD D 5) i < 2 ^ 30 := fun i _ => cMs_lt D g b5 i
  have kF := k_firstMan (n := n) (st := st) hX k3 b2 hL
  have hr := fiS_rng (cLs D g (nD D 5)) (nD D 2)
  have kX : ∀ a2, f_X11_count (some x) a1 a2 (mkH n st S μ) = f_X11_count (some x) a1 a2 (mkH n st S μ) := fun _ => rfl
  by_cases c2 : inS a2 0 6 = true
  case neg =>
    have c2' : a2 < 0 ∨ 6 < a2 := by
      simp only [inS, decide_eq_true_eq] at c2
      by_cases h : a2 < 0
      · exact Or.inl h
      · right
        by_cases h2 : 6 < a2
        · exact h2
        · exact absurd ⟨h, h2⟩ c2
    refine ⟨-1, mkH n st S μ1, n, S, μ1, ?_, ?_, hR'.cnt hlA k2 (fun _ _ _ _ => rfl)⟩
    · simp only [f_X11_count, xR0 hX, some_bind, cI0 hC, z0, k_within, c1, ite_bI0, ↓reduceIte, xR3 hX, cck hC, k1, pock hX, kF, c2']
    · simp only [f_X12_count, rck hS, some_bind, r_isKnownDay hS hD1, c1, ite_bI0, ↓reduceIte, s_in, c2, Bool.false_eq_true]
  obtain ⟨μ2, r1, r2, r23, r24, r25, r26, r7⟩ := r_countAt (n := n) (st := st) (x := x) (b := b) hS (by omega) (hBase.congr (fun _ _ => rfl) (fun a j q => k2 a j (by omega) (by omega) (by omega))) hD1 hI hU a1
  rw [← hg] at r2 r23 r24 r25 r26
  have hRR := hR'.cnt hlA k2 r7
  obtain ⟨go, hgo⟩ : ∃ go, go = goS (lawT D) (lawN D) (cntB g (nD D 5) 0) (cLs D g (nD D 5)) (cGs D g (nD D 5)) (nD D 2) := ⟨_, rfl⟩
  rw [← hgo] at r26
  have hgr : isO go (nD D 2) := by rw [hgo]; exact goS_rng _ _ _ _ _ _
  have hlN := k_lawNow (n := n) (st := st) hC hs1 hI
  obtain ⟨μ3, wg1, wg2⟩ := k_whoGoes (n := n) (st := st) hX k3 b2 hL (fun i _ => cGs_lt hI g i) hlA hU1 (law_in hI).2
  rw [← hgo] at wg1
  have kLe := k_leastOf (n := n) (st := st) hX k3 b2 hr
  have kSe := k_secondTo (n := n) (st := st) hX k3 b2 hL (fiS (cLs D g (nD D 5)) (nD D 2))
  have kTr := k_tribesFor (n := n) (st := st) hX k3 b2 (fun i _ => cGs_lt hI g i) hr
  have rLe := r_leastOfFirst (n := n) (st := st) (μ := μ2) hS b2 (fun i hi => (r2.2.1 i hi).1) r23 hr
  obtain ⟨fi, hfi⟩ : ∃ f, f = fiS (cLs D g (nD D 5)) (nD D 2) := ⟨_, rfl⟩
  rw [← hfi] at kF kLe kSe kTr rLe r23 r24 r25 hr
  obtain ⟨k, hk, rfl⟩ := inS_n (M := 6) (by omega) c2
  rcases (by omega : k = 0 ∨ k = 1 ∨ k = 2 ∨ k = 3 ∨ k = 4 ∨ k = 5 ∨ k = 6) with rfl | rfl | rfl | rfl | rfl | rfl | rfl
  · change Res (f_X11_count (some x) a1 0) (f_X12_count (some (x + 175)) a1 0) n st S μ x b
    replace c2 : inS 0 0 6 = true := c2
    have dA : ((0 : Int32) < 0 ∨ 6 < (0 : Int32)) = False := by decide
    have dB : ((0 : Int32) < 0 ∨ 5 < (0 : Int32)) = False := by decide
    have d0 : ((0 : Int32) = 0) = True := by decide
    exact ⟨nI (cntB g (nD D 5) 0), mkH n st S μ1, n, S, μ2, (by simp (disch := omega) only [f_X11_count, xR0 hX, some_bind, cI0 hC, z0, k_within, c1, ite_bI0, ↓reduceIte, xR3 hX, cck hC, k1, pock hX, kF, dA, d0, poI1 hX, k3.2.1]), (by simp (disch := omega) only [f_X12_count, rck hS, some_bind, r_isKnownDay hS hD1, c1, ite_bI0, ↓reduceIte, s_in, c2, r1, dB, d0, mI22 hS, r2.1]), hRR⟩
  · change Res (f_X11_count (some x) a1 1) (f_X12_count (some (x + 175)) a1 1) n st S μ x b
    replace c2 : inS 1 0 6 = true := c2
    have dA : ((1 : Int32) < 0 ∨ 6 < (1 : Int32)) = False := by decide
    have dB : ((1 : Int32) < 0 ∨ 5 < (1 : Int32)) = False := by decide
    have d0 : ((1 : Int32) = 0) = False := by decide
    have d1 : ((1 : Int32) = 1) = True := by decide
    by_cases c3 : fi < 0
    · exact ⟨-3, mkH n st S μ1, n, S, μ2, (by simp (disch := omega) only [f_X11_count, xR0 hX, some_bind, cI0 hC, z0, k_within, c1, ite_bI0, ↓reduceIte, xR3 hX, cck hC, k1, pock hX, kF, dA, d0, d1, c3]), (by simp (disch := omega) only [f_X12_count, rck hS, some_bind, r_isKnownDay hS hD1, c1, ite_bI0, ↓reduceIte, s_in, c2, r1, dB, d0, d1, mI23 hS, r23, c3]), hRR⟩
    · exact ⟨fi, mkH n st S μ1, n, S, μ2, (by simp (disch := omega) only [f_X11_count, xR0 hX, some_bind, cI0 hC, z0, k_within, c1, ite_bI0, ↓reduceIte, xR3 hX, cck hC, k1, pock hX, kF, dA, d0, d1, c3]), (by simp (disch := omega) only [f_X12_count, rck hS, some_bind, r_isKnownDay hS hD1, c1, ite_bI0, ↓reduceIte, s_in, c2, r1, dB, d0, d1, mI23 hS, r23, c3]), hRR⟩
  · change Res (f_X11_count (some x) a1 2) (f_X12_count (some (x + 175)) a1 2) n st S μ x b
    replace c2 : inS 2 0 6 = true := c2
    have dA : ((2 : Int32) < 0 ∨ 6 < (2 : Int32)) = False := by decide
    have dB : ((2 : Int32) < 0 ∨ 5 < (2 : Int32)) = False := by decide
    have d0 : ((2 : Int32) = 0) = False := by decide
    have d1 : ((2 : Int32) = 1) = False := by decide
    have d2 : ((2 : Int32) = 2) = True := by decide
    exact ⟨nI (leN (cLs D g (nD D 5)) fi), mkH n st S μ1, n, S, μ2, (by simp (disch := omega) only [f_X11_count, xR0 hX, some_bind, cI0 hC, z0, k_within, c1, ite_bI0, ↓reduceIte, xR3 hX, cck hC, k1, pock hX, kF, dA, d0, d1, d2, kLe]), (by simp (disch := omega) only [f_X12_count, rck hS, some_bind, r_isKnownDay hS hD1, c1, ite_bI0, ↓reduceIte, s_in, c2, r1, dB, d0, d1, d2, rLe]), hRR⟩
  · change Res (f_X11_count (some x) a1 3) (f_X12_count (some (x + 175)) a1 3) n st S μ x b
    replace c2 : inS 3 0 6 = true := c2
    have dA : ((3 : Int32) < 0 ∨ 6 < (3 : Int32)) = False := by decide
    have dB : ((3 : Int32) < 0 ∨ 5 < (3 : Int32)) = False := by decide
    have d0 : ((3 : Int32) = 0) = False := by decide
    have d1 : ((3 : Int32) = 1) = False := by decide
    have d2 : ((3 : Int32) = 2) = False := by decide
    have d3 : ((3 : Int32) = 3) = True := by decide
    exact ⟨nI (seS (cLs D g (nD D 5)) (nD D 2) fi), mkH n st S μ1, n, S, μ2, (by simp (disch := omega) only [f_X11_count, xR0 hX, some_bind, cI0 hC, z0, k_within, c1, ite_bI0, ↓reduceIte, xR3 hX, cck hC, k1, pock hX, kF, dA, d0, d1, d2, d3, kSe]), (by simp (disch := omega) only [f_X12_count, rck hS, some_bind, r_isKnownDay hS hD1, c1, ite_bI0, ↓reduceIte, s_in, c2, r1, dB, d0, d1, d2, d3, mI24 hS, r24]), hRR⟩
  · change Res (f_X11_count (some x) a1 4) (f_X12_count (some (x + 175)) a1 4) n st S μ x b
    replace c2 : inS 4 0 6 = true := c2
    have dA : ((4 : Int32) < 0 ∨ 6 < (4 : Int32)) = False := by decide
    have dB : ((4 : Int32) < 0 ∨ 5 < (4 : Int32)) = False := by decide
    have d0 : ((4 : Int32) = 0) = False := by decide
    have d1 : ((4 : Int32) = 1) = False := by decide
    have d2 : ((4 : Int32) = 2) = False := by decide
    have d3 : ((4 : Int32) = 3) = False := by decide
    have d4 : ((4 : Int32) = 4) = True := by decide
    exact ⟨nI (trN (cGs D g (nD D 5)) fi), mkH n st S μ1, n, S, μ2, (by simp (disch := omega) only [f_X11_count, xR0 hX, some_bind, cI0 hC, z0, k_within, c1, ite_bI0, ↓reduceIte, xR3 hX, cck hC, k1, pock hX, kF, dA, d0, d1, d2, d3, d4, kTr]), (by simp (disch := omega) only [f_X12_count, rck hS, some_bind, r_isKnownDay hS hD1, c1, ite_bI0, ↓reduceIte, s_in, c2, r1, dB, d0, d1, d2, d3, d4, mI25 hS, r25]), hRR⟩
  · change Res (f_X11_count (some x) a1 5) (f_X12_count (some (x + 175)) a1 5) n st S μ x b
    replace c2 : inS 5 0 6 = true := c2
    have dA : ((5 : Int32) < 0 ∨ 6 < (5 : Int32)) = False := by decide
    have dB : ((5 : Int32) < 0 ∨ 5 < (5 : Int32)) = False := by decide
    have d0 : ((5 : Int32) = 0) = False := by decide
    have d1 : ((5 : Int32) = 1) = False := by decide
    have d2 : ((5 : Int32) = 2) = False := by decide
    have d3 : ((5 : Int32) = 3) = False := by decide
    have d4 : ((5 : Int32) = 4) = False := by decide
    have d5 : ((5 : Int32) = 5) = True := by decide
    have hD3 : μ3 (x + 175 + 1) = D := by funext q; rw [wg2 _ _ (by omega) (by omega), hD1]
    have hF3 : ∀ a i, ¬ (x + 158 ≤ a ∧ a ≤ x + 162) → ¬ a = x + 1 + 118 + 6 * lawA D + 4 → ¬ a = x + 1 + 118 + 6 * lawA D + 5 → μ3 a i = μ a i := fun a i q1 q2 q3 => by rw [wg2 a i q2 q3, k2 a i q1 q2 q3]
    obtain ⟨μ4, s1, s2, s23, s24, s25, s26, s7⟩ := r_countAt (n := n) (st := st) (x := x) (b := b) hS (by omega) (hBase.congr (fun _ _ => rfl) (fun a j q => hF3 a j (by omega) (by omega) (by omega))) hD3 hI hU a1
    rw [← hg] at s2 s23 s24 s25 s26
    rw [← hgo] at s26
    have hRR3 := hR'.cnt hlA hF3 s7
    by_cases c3 : go < 0
    · rw [if_pos c3] at wg1
      exact ⟨-3, mkH n st S μ3, n, S, μ4, (by simp (disch := omega) only [f_X11_count, xR0 hX, some_bind, cI0 hC, z0, k_within, c1, ite_bI0, ↓reduceIte, xR3 hX, cck hC, k1, pock hX, kF, dA, d0, d1, d2, d3, d4, d5, hlN, wg1]), (by simp (disch := omega) only [f_X12_count, rck hS, some_bind, r_isKnownDay hS hD3, c1, ite_bI0, ↓reduceIte, s_in, c2, s1, dB, d0, d1, d2, d3, d4, d5, mI26 hS, s26, c3]), hRR3⟩
    · rw [if_neg c3] at wg1
      exact ⟨go, mkH n st S μ3, n, S, μ4, (by simp (disch := omega) only [f_X11_count, xR0 hX, some_bind, cI0 hC, z0, k_within, c1, ite_bI0, ↓reduceIte, xR3 hX, cck hC, k1, pock hX, kF, dA, d0, d1, d2, d3, d4, d5, hlN, wg1]), (by simp (disch := omega) only [f_X12_count, rck hS, some_bind, r_isKnownDay hS hD3, c1, ite_bI0, ↓reduceIte, s_in, c2, s1, dB, d0, d1, d2, d3, d4, d5, mI26 hS, s26, c3]), hRR3⟩
  · change Res (f_X11_count (some x) a1 6) (f_X12_count (some (x + 175)) a1 6) n st S μ x b
    replace c2 : inS 6 0 6 = true := c2
    have dA : ((6 : Int32) < 0 ∨ 6 < (6 : Int32)) = False := by decide
    have dB : ((6 : Int32) < 0 ∨ 5 < (6 : Int32)) = True := by decide
    have d0 : ((6 : Int32) = 0) = False := by decide
    have d1 : ((6 : Int32) = 1) = False := by decide
    have d2 : ((6 : Int32) = 2) = False := by decide
    have d3 : ((6 : Int32) = 3) = False := by decide
    have d4 : ((6 : Int32) = 4) = False := by decide
    have d5 : ((6 : Int32) = 5) = False := by decide
    have d6 : ((6 : Int32) = 6) = True := by decide
    have hD3 : μ3 (x + 175 + 1) = D := by funext q; rw [wg2 _ _ (by omega) (by omega), hD1]
    have hF3 : ∀ a i, ¬ (x + 158 ≤ a ∧ a ≤ x + 162) → ¬ a = x + 1 + 118 + 6 * lawA D + 4 → ¬ a = x + 1 + 118 + 6 * lawA D + 5 → μ3 a i = μ a i := fun a i q1 q2 q3 => by rw [wg2 a i q2 q3, k2 a i q1 q2 q3]
    obtain ⟨μ4, s1, s2, s23, s24, s25, s26, s7⟩ := r_countAt (n := n) (st := st) (x := x) (b := b) hS (by omega) (hBase.congr (fun _ _ => rfl) (fun a j q => hF3 a j (by omega) (by omega) (by omega))) hD3 hI hU a1
    rw [← hg] at s2 s23 s24 s25 s26
    rw [← hgo] at s26
    have hRR3 := hR'.cnt hlA hF3 s7
    obtain ⟨fu, hfu, hfl⟩ : ∃ q, FU = q ∧ 301 < q := ⟨FU, rfl, by decide⟩
    have hD4 : μ4 (x + 175 + 1) = D := by funext q; rw [s7 _ _ (by omega) (by omega), hD3]
    have rC : f_X12_isCertain (some (x + 175)) (mkH n st S μ4) = some (bI (cerS (cMs D g (nD D 5)) (cLs D g (nD D 5)) go (nD D 2))) := by
      have rL := fun q => r_certL (n := n) (st := st) hS hD4 hI s26 hgr s2.2.1 hL hM (nD D 2) 0 fu q (by omega) (by omega)
      rw [← cer_eq]
      have e : f_X12_isCertain (some (x + 175)) (mkH n st S μ4) = if go < 0 then b_X12_isCertain_15 (mkH n st S μ4) fu (some (x + 175)) 0 0 else b_X12_isCertain_15 (mkH n st S μ4) fu (some (x + 175)) 1 0 := by
        rw [← hfu]
        simp only [f_X12_isCertain, mI26 hS, some_bind, s26]
      rw [e]
      by_cases c3 : go < 0
      · rw [if_pos c3]
        refine Eq.trans (rL false) ?_
        simp [c3]
      · rw [if_neg c3]
        refine Eq.trans (rL true) ?_
        simp [c3]
    have kC : f_X6_isCertain (some (x + 158)) (some (x + 1 + 118 + 6 * lawA D)) (mkH n st S μ1) = some (bI (cerS (cMs D g (nD D 5)) (cLs D g (nD D 5)) go (nD D 2)), mkH n st S μ3) := by
      have k33 := k3.congr (μ' := μ3) (fun a j h => wg2 a j (by omega) (by omega))
      by_cases c3 : go < 0
      · rw [if_pos c3] at wg1
        have m3 : (-3 : Int32) < 0 := by decide
        simp only [f_X6_isCertain, pock hX, wg1, some_bind, m3, if_true, cerS, c3, not_true_eq_false, decide_false, Bool.false_and]
        rfl
      · rw [if_neg c3] at wg1
        obtain ⟨w, hw, ew⟩ : ∃ w, w < nD D 2 ∧ go = nI w := by
          rcases hgr with h | h
          · rw [h] at c3; exact absurd (by decide) c3
          · exact h
        have kL := k_certL (n := n) (st := st) hX k33 b2 hL hM hw (nD D 2) 0 fu (by omega) (by omega)
        have e : f_X6_isCertain (some (x + 158)) (some (x + 1 + 118 + 6 * lawA D)) (mkH n st S μ1) = b_X6_isCertain_14 fu (some (x + 158)) (nI w) 0 (mkH n st S μ3) := by
          rw [← hfu, ← ew]
          simp only [f_X6_isCertain, pock hX, wg1, some_bind, c3, if_false]
        rw [e]
        refine Eq.trans kL ?_
        have hle : leN (cLs D g (nD D 5)) go = cLs D g (nD D 5) w := by rw [leN, if_neg c3, ew, nI_clamp (by omega)]
        rw [cerS, decide_eq_true c3, Bool.true_and, hle, ew]
    refine ⟨bI (cerS (cMs D g (nD D 5)) (cLs D g (nD D 5)) go (nD D 2)), mkH n st S μ3, n, S, μ4, (by simp (disch := omega) only [f_X11_count, xR0 hX, some_bind, cI0 hC, z0, k_within, c1, ite_bI0, ↓reduceIte, xR3 hX, cck hC, k1, pock hX, kF, dA, d0, d1, d2, d3, d4, d5, d6, hlN, kC, k_asAnswer]), ?_, hRR3⟩
    simp (disch := omega) only [f_X12_count, rck hS, some_bind, r_isKnownDay hS hD3, c1, ite_bI0, ↓reduceIte, s_in, c2, s1, dB, d0, d1, d2, d3, d4, d5, d6, rC]
    cases cerS (cMs D g (nD D 5)) (cLs D g (nD D 5)) go (nD D 2) <;> rfl
end COUNT2
