-- ===== counted, broken, send =====
section OPS6
variable {n : Nat} {st : Nat → Nat} {S : SH} {μ : MU} {x b m c l : Nat} {D : DR}
theorem r_isKnownDay (hS : ShM S m) (hD : μ (m + 1) = D) (k : Int32) : f_X12_isKnownDay (some m) k (mkH n st S μ) = some (bI (inS k 0 (D 0))) := by
  simp (disch := omega) only [f_X12_isKnownDay, mR0 hS, some_bind, lit_aI, mA0 hS, hD, s_in, rZ_bI]
/-- both have counted -/
theorem R.cnt (hR : R n st S μ x b) {μ1 μ2 : MU} {l : Nat} (hl : l < 5) (h1 : ∀ a i, ¬ (x + 158 ≤ a ∧ a ≤ x + 162) → ¬ a = x + 1 + 118 + 6 * l + 4 → ¬ a = x + 1 + 118 + 6 * l + 5 → μ1 a i = μ a i) (h2 : FrC (x + 175) μ1 μ2) : R n st S μ2 x b := by
  refine hR.congr fun a j h => ?_
  unfold scr at h
  rw [h2 a j (by omega) (by omega), h1 a j (by omega) (by omega) (by omega)]
theorem op_counted (hR : R n st S μ x b) (a1 a2 a3 : Int32) : Res (f_X11_counted (some x) a1 a2 a3) (f_X12_counted (some (x + 175)) a1 a2 a3) n st S μ x b := by
  have hR' := hR
  obtain ⟨⟨hX, hS, hs, hI, hL0⟩, hRest⟩ := hR
  have hC := hX.city
  have hBase := hRest.2.2.2.1
  obtain ⟨D, hD⟩ : ∃ D, μ (x + 175 + 1) = D := ⟨_, rfl⟩
  replace hs : Sim μ (x + 1) (μ (x + 175 + 1)) := hs
  replace hI : Inv (μ (x + 175 + 1)) := hI
  rw [hD] at hs hI
  obtain ⟨e0, b0⟩ := hI.today
  obtain ⟨e1, b1⟩ := hI.wards
  obtain ⟨e2, b2⟩ := hI.men
  obtain ⟨e3, b3⟩ := hI.words
  obtain ⟨e4, b4⟩ := hI.bars
  obtain ⟨e5, b5⟩ := hI.shes
  obtain ⟨e6, b6⟩ := hI.wets
  obtain ⟨e8, b8⟩ := hI.heaped
  have z0 := hs.today
  have z1 := hs.wardN
  have z2 := hs.manN
  have z3 := hs.wordN
  have z4 := hs.barN
  have z5 := hs.sheN
  have z6 := hs.wetN
  have z8 := hs.heapN
  have hU := lawU_now hs hI hL0
  have hlA := lawA_lt hI
  by_cases c1 : ixB a1 (nD D 2) = true
  case neg => exact Res.same hR' (-1) (by simp only [f_X11_counted, xR0 hX, some_bind, cck hC, k_hasMan hC hs hI, c1, ite_bI0, if_false, Bool.false_eq_true]) (by simp only [f_X12_counted, rck hS, some_bind, r_isMan hS hD hI, c1, ite_bI0, if_false, Bool.false_eq_true])
  by_cases c2 : inS a2 0 (D 0) = true
  case neg => exact Res.same hR' (-1) (by simp only [f_X11_counted, xR0 hX, some_bind, cck hC, k_hasMan hC hs hI, c1, ite_bI0, if_true, cI0 hC, z0, k_within, c2, if_false, Bool.false_eq_true]) (by simp only [f_X12_counted, rck hS, some_bind, r_isMan hS hD hI, c1, ite_bI0, if_true, r_isKnownDay hS hD, c2, if_false, Bool.false_eq_true])
  obtain ⟨i, hi, rfl⟩ := ixB_ex (by omega) c1
  obtain ⟨μ1, k1, k2, k3, -⟩ := k_countKnown (n := n) (st := st) hX hs hI hU a2
  have hD1 : μ1 (x + 175 + 1) = D := by funext q; rw [k2 _ _ (by omega) (by omega) (by omega), hD]
  obtain ⟨μ2, r1, r2, -, -, -, -, r7⟩ := r_countAt (n := n) (st := st) (x := x) (b := b) hS (by omega) (hBase.congr (fun _ _ => rfl) (fun a j q => k2 a j (by omega) (by omega) (by omega))) hD1 hI hU a2
  obtain ⟨p1, p2, -⟩ := k3.2.2 i hi
  obtain ⟨q1, q2⟩ := r2.2.1 i hi
  by_cases c3 : a3 = 0
  · refine ⟨nI (cLs D (kgS D (lawT D) (lawN D) a2) (nD D 5) i), mkH n st S μ1, n, S, μ2, ?_, ?_, hR'.cnt hlA k2 r7⟩
    · simp (disch := omega) only [f_X11_counted, xR0 hX, some_bind, cck hC, k_hasMan hC hs hI, c1, ite_bI0, if_true, cI0 hC, z0, k_within, c2, xR3 hX, k1, c3, poR2 hX, xALea hX, p1]
    · simp (disch := omega) only [f_X12_counted, rck hS, some_bind, r_isMan hS hD1 hI, c1, ite_bI0, if_true, r_isKnownDay hS hD1, c2, r1, c3, mR19 hS, mA19 hS, q1]
  · refine ⟨nI (cMs D (kgS D (lawT D) (lawN D) a2) (nD D 5) i), mkH n st S μ1, n, S, μ2, ?_, ?_, hR'.cnt hlA k2 r7⟩
    · simp (disch := omega) only [f_X11_counted, xR0 hX, some_bind, cck hC, k_hasMan hC hs hI, c1, ite_bI0, if_true, cI0 hC, z0, k_within, c2, xR3 hX, k1, c3, if_false, poR3 hX, xAMos hX, p2]
    · simp (disch := omega) only [f_X12_counted, rck hS, some_bind, r_isMan hS hD1 hI, c1, ite_bI0, if_true, r_isKnownDay hS hD1, c2, r1, c3, if_false, mR20 hS, mA20 hS, q2]
/-- those of a club that come and owe -/
def owB (D : DR) (club k : Int32) (w i : Nat) : Bool := decide (¬ i = w) && (decide (D (91 + i) = club) && comB D i k)
def brS (mo le ow : Nat) : Int32 := if mo < ow then 2 else if le < ow then 1 else 0
theorem k_brokenL (hX : ShX S x) (hs : Sim μ (x + 1) D) (hI : Inv D) (club : Int32) {k : Int32} (hk : ¬ k < 0) {w : Nat} (hw : w < nD D 2) (fin : Int32 → Option (Int32 × AH)) (hfin : ∀ fu z, b_X11_broken_47 (fu + 1) (some x) club k (nI w) z (nI (nD D 2)) (mkH n st S μ) = fin z) : ∀ q j fu z, j + q = nD D 2 → q < fu → z ≤ j → b_X11_broken_47 fu (some x) club k (nI w) (nI z) (nI j) (mkH n st S μ) = fin (nI (z + cntB (owB D club k w) q j)) := by
  have hC := hX.city
  obtain ⟨e0, b0⟩ := hI.today
  obtain ⟨e1, b1⟩ := hI.wards
  obtain ⟨e2, b2⟩ := hI.men
  obtain ⟨e3, b3⟩ := hI.words
  obtain ⟨e4, b4⟩ := hI.bars
  obtain ⟨e5, b5⟩ := hI.shes
  obtain ⟨e6, b6⟩ := hI.wets
  obtain ⟨e8, b8⟩ := hI.heaped
  have z0 := hs.today
  have z1 := hs.wardN
  have z2 := hs.manN
  have z3 := hs.wordN
  have z4 := hs.barN
  have z5 := hs.sheN
  have z6 := hs.wetN
  have z8 := hs.heapN
  intro q
  induction q with
  | zero =>
    intro j fu z hj hf hz
    obtain ⟨fu, rfl⟩ : ∃ q, fu = q + 1 := ⟨fu - 1, by omega⟩
    obtain rfl : j = nD D 2 := by omega
    exact hfin fu _
  | succ q ih =>
    intro j fu z hj hf hz
    obtain ⟨fu, rfl⟩ : ∃ q, fu = q + 1 := ⟨fu - 1, by omega⟩
    have h6 : μ (x + 1) 6 = nI (nD D 2) := by rw [z2, e2]
    have m1 := hs.man j 1 (by omega) (by omega)
    simp only [Nat.reduceMul, Nat.reduceAdd] at m1
    have n1 := n1_ne (show j < 2 ^ 31 by omega)
    have kS := k_isThere (n := n) (st := st) hC hs hI (i := j) (by omega) hk (-1)
    rw [show (!decide (nI j = (-1 : Int32)) && comB D j k) = comB D j k by simp [n1]] at kS
    show _ = fin (nI (z + ((if owB D club k w j then 1 else 0) + cntB (owB D club k w) q (j + 1))))
    have i1 := ih (j + 1) fu (z + 1) (by omega) (by omega) (by omega)
    have i0 := ih (j + 1) fu z (by omega) (by omega) (by omega)
    have hstep : b_X11_broken_47 (fu + 1) (some x) club k (nI w) (nI z) (nI j) (mkH n st S μ) = if owB D club k w j = true then b_X11_broken_47 fu (some x) club k (nI w) (nI (z + 1)) (nI (j + 1)) (mkH n st S μ) else b_X11_broken_47 fu (some x) club k (nI w) (nI z) (nI (j + 1)) (mkH n st S μ) := by
      simp (disch := omega) only [b_X11_broken_47, xR0 hX, some_bind, cI6 hC, h6, nn_lt, natT, if_true, cR5 hC, cEmen hC, oManI hC, m1, cck hC, kS, ite_bI0, nI_1]
      unfold owB
      by_cases hw1 : j = w
      · rw [if_pos (by rw [hw1])]
        simp [hw1]
      · rw [if_neg (fun h => hw1 ((nI_eq (by omega) (by omega)).mp h))]
        by_cases hc : D (91 + j) = club
        · rw [if_pos hc]
          by_cases hco : comB D j k = true
          · simp [hw1, hc, hco]
          · simp [hco]
        · rw [if_neg hc]
          simp [hc]
    rw [hstep, i1, i0]
    by_cases ho : owB D club k w j = true
    · rw [if_pos ho, if_pos ho, Nat.add_assoc]
    · rw [if_neg ho, if_neg ho, Nat.zero_add]
theorem r_brokenL (hS : ShM S m) (hD : μ (m + 1) = D) (hI : Inv D) (club k : Int32) {w : Nat} (hw : w < nD D 2) (fin : Int32 → Option (Int32 × AH)) (hfin : ∀ fu z, b_X12_broken_37 (fu + 1) (some m) club k (nI w) z (nI (nD D 2)) (mkH n st S μ) = fin z) : ∀ q j fu z, j + q = nD D 2 → q < fu → z ≤ j → b_X12_broken_37 fu (some m) club k (nI w) (nI z) (nI j) (mkH n st S μ) = fin (nI (z + cntB (owB D club k w) q j)) := by
  obtain ⟨e0, b0⟩ := hI.today
  obtain ⟨e1, b1⟩ := hI.wards
  obtain ⟨e2, b2⟩ := hI.men
  obtain ⟨e3, b3⟩ := hI.words
  obtain ⟨e4, b4⟩ := hI.bars
  obtain ⟨e5, b5⟩ := hI.shes
  obtain ⟨e6, b6⟩ := hI.wets
  obtain ⟨e8, b8⟩ := hI.heaped
  intro q
  induction q with
  | zero =>
    intro j fu z hj hf hz
    obtain ⟨fu, rfl⟩ : ∃ q, fu = q + 1 := ⟨fu - 1, by omega⟩
    obtain rfl : j = nD D 2 := by omega
    exact hfin fu _
  | succ q ih =>
    intro j fu z hj hf hz
    obtain ⟨fu, rfl⟩ : ∃ q, fu = q + 1 := ⟨fu - 1, by omega⟩
    have h2 : D 2 = nI (nD D 2) := e2
    have rC := r_doesCome (n := n) (st := st) hS hD hI (i := j) (by omega) k
    have zz : nI z + 0 = nI z := nI_add z 0
    show _ = fin (nI (z + ((if owB D club k w j then 1 else 0) + cntB (owB D club k w) q (j + 1))))
    have i1 := ih (j + 1) fu (z + 1) (by omega) (by omega) (by omega)
    have i0 := ih (j + 1) fu z (by omega) (by omega) (by omega)
    have hstep : b_X12_broken_37 (fu + 1) (some m) club k (nI w) (nI z) (nI j) (mkH n st S μ) = if owB D club k w j = true then b_X12_broken_37 fu (some m) club k (nI w) (nI (z + 1)) (nI (j + 1)) (mkH n st S μ) else b_X12_broken_37 fu (some m) club k (nI w) (nI z) (nI (j + 1)) (mkH n st S μ) := by
      simp (disch := omega) only [b_X12_broken_37, b_X12_broken_85, mR0 hS, some_bind, lit_aI, mA0 hS, hD, lit_add, rck hS, rC, ite_bI0, zz, nI_1]
      rw [h2]
      simp (disch := omega) only [nn_lt, natT, if_true]
      unfold owB
      by_cases hc : D (91 + j) = club
      · rw [if_pos hc]
        by_cases hw1 : j = w
        · rw [if_pos (by rw [hw1])]
          simp [hw1]
        · rw [if_neg (fun h => hw1 ((nI_eq (by omega) (by omega)).mp h))]
          by_cases hco : comB D j k = true
          · simp [hw1, hc, hco]
          · simp [hco]
      · rw [if_neg hc]
        simp [hc]
    rw [hstep, i1, i0]
    by_cases ho : owB D club k w j = true
    · rw [if_pos ho, if_pos ho, Nat.add_assoc]
    · rw [if_neg ho, if_neg ho, Nat.zero_add]
theorem op_broken (hR : R n st S μ x b) (a1 a2 : Int32) : Res (f_X11_broken (some x) a1 a2) (f_X12_broken (some (x + 175)) a1 a2) n st S μ x b := by
  have hR' := hR
  obtain ⟨⟨hX, hS, hs, hI, hL0⟩, hRest⟩ := hR
  have hC := hX.city
  have hBase := hRest.2.2.2.1
  obtain ⟨D, hD⟩ : ∃ D, μ (x + 175 + 1) = D := ⟨_, rfl⟩
  replace hs : Sim μ (x + 1) (μ (x + 175 + 1)) := hs
  replace hI : Inv (μ (x + 175 + 1)) := hI
  rw [hD] at hs hI
  obtain ⟨e0, b0⟩ := hI.today
  obtain ⟨e1, b1⟩ := hI.wards
  obtain ⟨e2, b2⟩ := hI.men
  obtain ⟨e3, b3⟩ := hI.words
  obtain ⟨e4, b4⟩ := hI.bars
  obtain ⟨e5, b5⟩ := hI.shes
  obtain ⟨e6, b6⟩ := hI.wets
  obtain ⟨e8, b8⟩ := hI.heaped
  have z0 := hs.today
  have z1 := hs.wardN
  have z2 := hs.manN
  have z3 := hs.wordN
  have z4 := hs.barN
  have z5 := hs.sheN
  have z6 := hs.wetN
  have z8 := hs.heapN
  have hU := lawU_now hs hI hL0
  have hlA := lawA_lt hI
  by_cases c1 : inS a1 0 5 = true
  case neg => exact Res.same hR' (-1) (by simp only [f_X11_broken, k_isClub, some_bind, c1, ite_bI0, if_false, Bool.false_eq_true]) (by simp only [f_X12_broken, s_isClub, some_bind, c1, ite_bI0, if_false, Bool.false_eq_true])
  by_cases c2 : inS a2 0 (D 0) = true
  case neg => exact Res.same hR' (-1) (by simp only [f_X11_broken, k_isClub, some_bind, c1, ite_bI0, if_true, xR0 hX, cI0 hC, z0, k_within, c2, if_false, Bool.false_eq_true]) (by simp only [f_X12_broken, s_isClub, some_bind, c1, ite_bI0, if_true, rck hS, r_isKnownDay hS hD, c2, if_false, Bool.false_eq_true])
  have hk : ¬ a2 < 0 := by
    simp only [inS, decide_eq_true_eq] at c2
    exact c2.1
  have kB := k_boundTo (n := n) (st := st) hC hs hI a1 a2
  have rB := fun (μ1 : MU) (h : μ1 (x + 175 + 1) = D) => r_boundTo (n := n) (st := st) hS h hI a1 a2
  by_cases c3 : bouS D a1 a2 < 0
  · exact Res.same hR' (-4) (by simp only [f_X11_broken, k_isClub, some_bind, c1, ite_bI0, if_true, xR0 hX, cI0 hC, z0, k_within, c2, cck hC, kB, c3]) (by simp only [f_X12_broken, s_isClub, some_bind, c1, ite_bI0, if_true, rck hS, r_isKnownDay hS hD, c2, rB μ hD, c3])
  obtain ⟨w, hw, ew⟩ : ∃ w, w < nD D 2 ∧ bouS D a1 a2 = nI w := by
    rcases bouS_rng hI a1 a2 with h | h
    · rw [h] at c3; exact absurd (by decide) c3
    · exact h
  obtain ⟨μ1, k1, k2, k3, -⟩ := k_countKnown (n := n) (st := st) hX hs hI hU a2
  have hD1 : μ1 (x + 175 + 1) = D := by funext q; rw [k2 _ _ (by omega) (by omega) (by omega), hD]
  obtain ⟨μ2, r1, r2, -, -, -, -, r7⟩ := r_countAt (n := n) (st := st) (x := x) (b := b) hS (by omega) (hBase.congr (fun _ _ => rfl) (fun a j q => k2 a j (by omega) (by omega) (by omega))) hD1 hI hU a2
  obtain ⟨p1, p2, -⟩ := k3.2.2 w hw
  obtain ⟨q1, q2⟩ := r2.2.1 w hw
  obtain ⟨fu, hfu, hfl⟩ : ∃ q, FU = q ∧ 301 < q := ⟨FU, rfl, by decide⟩
  obtain ⟨ow, how⟩ : ∃ q, q = cntB (owB D a1 a2 w) (nD D 2) 0 := ⟨_, rfl⟩
  have howl : ow ≤ 16 := by rw [how]; have := cntB_le (owB D a1 a2 w) (nD D 2) 0; omega
  obtain ⟨mo, hmo⟩ : ∃ q, q = cMs D (kgS D (lawT D) (lawN D) a2) (nD D 5) w := ⟨_, rfl⟩
  obtain ⟨le, hle⟩ : ∃ q, q = cLs D (kgS D (lawT D) (lawN D) a2) (nD D 5) w := ⟨_, rfl⟩
  have hmol : mo ≤ 40 := by rw [hmo]; have := cntB_le (fun s => kgS D (lawT D) (lawN D) a2 s && (meS D s).testBit w) (nD D 5) 0; unfold cMs; omega
  have hlel : le ≤ 40 := by rw [hle]; have := cntB_le (fun s => kgS D (lawT D) (lawN D) a2 s && (surB D s && (meS D s).testBit w)) (nD D 5) 0; unfold cLs; omega
  rw [← hmo] at p2 q2
  rw [← hle] at p1 q1
  have kL := k_brokenL (n := n) (st := st) hX hs hI a1 hk hw (fun z => if nI mo < z then some (2, mkH n st S μ1) else if nI le < z then some (1, mkH n st S μ1) else some (0, mkH n st S μ1)) (by
    intro fu z
    have h6 : μ (x + 1) 6 = nI (nD D 2) := by rw [z2, e2]
    simp (disch := omega) only [b_X11_broken_47, xR0 hX, some_bind, cI6 hC, h6, nn_lt, natF, if_false, xR3 hX, cck hC, k1, poR3 hX, xAMos hX, p2, poR2 hX, xALea hX, p1]) (nD D 2) 0 fu 0 (by omega) (by omega) (by omega)
  have rL := r_brokenL (n := n) (st := st) hS hD1 hI a1 a2 hw (fun z => if nI mo < z then some (2, mkH n st S μ2) else if nI le < z then some (1, mkH n st S μ2) else some (0, mkH n st S μ2)) (by
    intro fu z
    simp (disch := omega) only [b_X12_broken_37, mR0 hS, some_bind, lit_aI, mA0 hS, hD1, e2, nn_lt, natF, if_false, rck hS, r1, mR20 hS, mA20 hS, q2, mR19 hS, mA19 hS, q1]) (nD D 2) 0 fu 0 (by omega) (by omega) (by omega)
  rw [Nat.zero_add, ← how] at kL rL
  refine ⟨brS mo le ow, mkH n st S μ1, n, S, μ2, ?_, ?_, hR'.cnt hlA k2 r7⟩
  · have hx : f_X11_broken (some x) a1 a2 (mkH n st S μ) = b_X11_broken_47 fu (some x) a1 a2 (nI w) 0 0 (mkH n st S μ) := by
      rw [← hfu, ← ew]
      simp only [f_X11_broken, k_isClub, some_bind, c1, ite_bI0, if_true, xR0 hX, cI0 hC, z0, k_within, c2, cck hC, kB, c3, if_false]
    rw [hx]
    refine Eq.trans kL ?_
    unfold brS
    simp (disch := omega) only [nn_lt]
    by_cases h1 : mo < ow
    · rw [if_pos h1, if_pos h1]
    · rw [if_neg h1, if_neg h1]
      by_cases h2 : le < ow
      · rw [if_pos h2, if_pos h2]
      · rw [if_neg h2, if_neg h2]
  · have hx : f_X12_broken (some (x + 175)) a1 a2 (mkH n st S μ1) = b_X12_broken_37 fu (some (x + 175)) a1 a2 (nI w) 0 0 (mkH n st S μ1) := by
      rw [← hfu, ← ew]
      simp only [f_X12_broken, s_isClub, some_bind, c1, ite_bI0, if_true, rck hS, r_isKnownDay hS hD1, c2, rB μ1 hD1, c3, if_false]
    rw [hx]
    refine Eq.trans rL ?_
    unfold brS
    simp (disch := omega) only [nn_lt]
    by_cases h1 : mo < ow
    · rw [if_pos h1, if_pos h1]
    · rw [if_neg h1, if_neg h1]
      by_cases h2 : le < ow
      · rw [if_pos h2, if_pos h2]
      · rw [if_neg h2, if_neg h2]
end OPS6
