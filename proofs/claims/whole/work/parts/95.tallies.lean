-- ===== tallies =====
def unL (D : DR) : Nat → Nat → Int32
  | 0, _ => -3
  | k + 1, j => if D (13 + j) = D (18 + j) then unL D k (j + 1) else nI j
def dfS (D : DR) (g : Nat) : Int32 := mAbs (D (13 + g) - D (18 + g))
def dL (D : DR) : Nat → Nat → Int32
  | 0, _ => 0
  | k + 1, j => dL D k (j + 1) + dfS D j
section TALLIES
variable {n : Nat} {st : Nat → Nat} {S : SH} {μ : MU} {x b m c l : Nat} {D : DR}
theorem sub_z (a c : Int32) : (a - c = 0) = (a = c) := by
  apply propext
  constructor
  · intro h
    have := congrArg (fun q => q + c) h
    simp only [Int32.sub_add_cancel, Int32.zero_add] at this
    exact this
  · intro h
    rw [h, Int32.sub_self]
theorem mAbs_n (v : Int32) : mAbs v = if v < 0 then -v else v := by
  unfold mAbs
  by_cases h : v < 0
  · rw [if_pos h, if_neg (fun q => Int32.not_lt.mpr q h), Int32.zero_sub]
  · rw [if_neg h, if_pos (Int32.not_lt.mp h)]
theorem k_unlikeL (hC : ShC S c) (hs : Sim μ c D) : ∀ k j fu, j + k = 5 → k < fu → b_X2_unlikeGate_2 (mkH n st S μ) fu (some c) (nI j) = some (unL D k j) := by
  intro k
  induction k with
  | zero =>
    intro j fu hj hf
    obtain ⟨fu, rfl⟩ : ∃ q, fu = q + 1 := ⟨fu - 1, by omega⟩
    obtain rfl : j = 5 := by omega
    rfl
  | succ k ih =>
    intro j fu hj hf
    obtain ⟨fu, rfl⟩ : ∃ q, fu = q + 1 := ⟨fu - 1, by omega⟩
    have t0 := hs.tal 0 j (by omega) (by omega)
    have t1 := hs.tal 1 j (by omega) (by omega)
    have i0 := ih (j + 1) fu (by omega) (by omega)
    have e1 : 13 + 5 * 1 + j = 18 + j := by omega
    have e0 : 13 + 5 * 0 + j = 13 + j := by omega
    rw [e0] at t0
    rw [e1] at t1
    have a0 := cATal (n := n) (st := st) (μ := μ) hC (i := 0) (q := j) (by omega) (by omega)
    have a1 := cATal (n := n) (st := st) (μ := μ) hC (i := 1) (q := j) (by omega) (by omega)
    rw [t0] at a0
    rw [t1] at a1
    rw [unL]
    simp (disch := omega) only [b_X2_unlikeGate_2, lit_lt, natT, if_true, cR16 hC, some_bind, lit_aR, cEtallies hC, a0, a1, nI_1, i0]
    by_cases h : D (13 + j) = D (18 + j)
    · rw [if_pos h, if_pos h]
    · rw [if_neg h, if_neg h]
theorem k_doubtL (hC : ShC S c) (hs : Sim μ c D) : ∀ k j fu z, j + k = 5 → k < fu → b_X2_doubt_4 (mkH n st S μ) fu (some c) z (nI j) = some (z + dL D k j) := by
  intro k
  induction k with
  | zero =>
    intro j fu z hj hf
    obtain ⟨fu, rfl⟩ : ∃ q, fu = q + 1 := ⟨fu - 1, by omega⟩
    obtain rfl : j = 5 := by omega
    rw [dL, Int32.add_zero]
    rfl
  | succ k ih =>
    intro j fu z hj hf
    obtain ⟨fu, rfl⟩ : ∃ q, fu = q + 1 := ⟨fu - 1, by omega⟩
    have t0 := hs.tal 0 j (by omega) (by omega)
    have t1 := hs.tal 1 j (by omega) (by omega)
    have i0 := ih (j + 1) fu (z + dfS D j) (by omega) (by omega)
    have e1 : 13 + 5 * 1 + j = 18 + j := by omega
    have e0 : 13 + 5 * 0 + j = 13 + j := by omega
    rw [e0] at t0
    rw [e1] at t1
    have a0 := cATal (n := n) (st := st) (μ := μ) hC (i := 0) (q := j) (by omega) (by omega)
    have a1 := cATal (n := n) (st := st) (μ := μ) hC (i := 1) (q := j) (by omega) (by omega)
    rw [t0] at a0
    rw [t1] at a1
    have ez : z + dL D (k + 1) j = z + dfS D j + dL D k (j + 1) := by
      rw [dL, Int32.add_comm (dL D k (j + 1)), Int32.add_assoc]
    rw [ez, ← i0]
    simp (disch := omega) only [b_X2_doubt_4, lit_lt, natT, if_true, cR16 hC, some_bind, lit_aR, cEtallies hC, a0, a1, nI_1]
    rfl
theorem r_tallL (hS : ShM S m) (hD : μ (m + 1) = D) (w : Int32) (fin : Int32 → Int32 → Option (Int32 × AH)) (hfin : ∀ fu u d, b_X12_tallies_20 (fu + 1) (some m) w u d (-1) (mkH n st S μ) = fin u d) : ∀ j fu, j ≤ 5 → j < fu → b_X12_tallies_20 fu (some m) w (unL D (5 - j) j) (dL D (5 - j) j) (nI j + -1) (mkH n st S μ) = fin (unL D 5 0) (dL D 5 0) := by
  intro j
  induction j with
  | zero =>
    intro fu _ hf
    obtain ⟨fu, rfl⟩ : ∃ q, fu = q + 1 := ⟨fu - 1, by omega⟩
    exact hfin fu _ _
  | succ j ih =>
    intro fu hj hf
    obtain ⟨fu, rfl⟩ : ∃ q, fu = q + 1 := ⟨fu - 1, by omega⟩
    have e1 : nI (j + 1) + -1 = nI j := pk_m1 j
    have h0 : ¬ nI j < (0 : Int32) := nI_pos (by omega)
    have i0 := ih fu (by omega) (by omega)
    rw [← i0, e1]
    have hk : 5 - j = (5 - (j + 1)) + 1 := by omega
    obtain ⟨u, hu⟩ : ∃ u, u = unL D (5 - (j + 1)) (j + 1) := ⟨_, rfl⟩
    obtain ⟨d, hd⟩ : ∃ d, d = dL D (5 - (j + 1)) (j + 1) := ⟨_, rfl⟩
    have hu' : unL D (5 - j) j = if D (13 + j) = D (18 + j) then u else nI j := by rw [hk, unL, ← hu]
    have hd' : dL D (5 - j) j = d + dfS D j := by rw [hk, dL, ← hd]
    rw [hu', hd', ← hu, ← hd]
    have h59 : ∀ s0 : Int32, b_X12_tallies_59 (b_X12_tallies_20 fu) (some m) w d (nI j) (D (13 + j) - D (18 + j)) s0 (mkH n st S μ) = b_X12_tallies_20 fu (some m) w s0 (d + dfS D j) (nI j + -1) (mkH n st S μ) := by
      intro s0
      unfold b_X12_tallies_59 b_X12_tallies_74 dfS
      rw [mAbs_n]
      by_cases h : D (13 + j) - D (18 + j) < 0
      · rw [if_pos h, if_pos h]
      · rw [if_neg h, if_neg h]
    simp (disch := omega) only [b_X12_tallies_20, h0, if_false, mR0 hS, some_bind, lit_add, mA0 hS, hD, sub_z, h59]
    by_cases h : D (13 + j) = D (18 + j)
    · rw [if_pos h, if_pos h]
    · rw [if_neg h, if_neg h]
theorem r_thrL (hS : ShM S m) (hD : μ (m + 1) = D) (hI : Inv D) {g : Nat → Bool} (hg : ∀ s, s < nD D 5 → μ (m + 12) s = bI (g s)) {h : Nat} (hh : h < 5) : ∀ k j fu, j + k = nD D 5 → k < fu → b_X12_tallies_137 fu (some m) (nI (h + 3)) (nI (cTh D g j h)) (nI j) (mkH n st S μ) = some (D (13 + h) - nI (cTh D g (nD D 5) h) + 100, mkH n st S μ) := by
  obtain ⟨e5, b5⟩ := hI.shes
  have eh : nI (h + 3) - 3 = nI h := by
    have := pk_sub (a := h + 3) (b := 3) (by omega)
    rw [show h + 3 - 3 = h from by omega] at this
    exact this
  have eh2 : nI (13 + (h + 3)) - 3 = nI (13 + h) := by
    have := pk_sub (a := 13 + (h + 3)) (b := 3) (by omega)
    rw [show 13 + (h + 3) - 3 = 13 + h from by omega] at this
    exact this
  intro k
  induction k with
  | zero =>
    intro j fu hj hf
    obtain ⟨fu, rfl⟩ : ∃ q, fu = q + 1 := ⟨fu - 1, by omega⟩
    obtain rfl : j = nD D 5 := by omega
    simp (disch := omega) only [b_X12_tallies_137, mR0 hS, some_bind, lit_aI, mA0 hS, hD, e5, nn_lt, natF, if_false, lit_add, eh2]
  | succ k ih =>
    intro j fu hj hf
    obtain ⟨fu, rfl⟩ : ∃ q, fu = q + 1 := ⟨fu - 1, by omega⟩
    have h5 : D 5 = nI (nD D 5) := e5
    have i0 := ih (j + 1) fu (by omega) (by omega)
    rw [← i0]
    have rz := mA21 (n := n) (st := st) (μ := μ) hS (q := j) (by omega)
    rw [hg j (by omega)] at rz
    have e0 : cTh D g (j + 1) h = cTh D g j h + if (g j && decide (D (771 + j) = nI h)) = true then 1 else 0 := by
      show cntB _ (j + 1) 0 = _
      rw [cntB_snoc, Nat.zero_add]
      rfl
    have hz : nI (cTh D g j h) + 0 = nI (cTh D g j h) := nI_add _ 0
    simp (disch := omega) only [b_X12_tallies_137, b_X12_tallies_182, mR0 hS, some_bind, lit_aI, mA0 hS, hD, mR21 hS, rz, bI_if0, lit_add, eh, hz, nI_1]
    rw [h5]
    simp (disch := omega) only [nn_lt, natT, if_true]
    rw [e0]
    cases g j with
    | false => rfl
    | true =>
      by_cases h1 : D (771 + j) = nI h
      · simp [h1]
      · simp [h1]
theorem op_tallies (hR : R n st S μ x b) (a1 : Int32) : Res (f_X11_tallies (some x) a1) (f_X12_tallies (some (x + 175)) a1) n st S μ x b := by
  have hR' := hR
  obtain ⟨⟨hX, hS, hs, hI, hL0⟩, hRest⟩ := hR
  have hC := hX.city
  have hBase := hRest.2.2.2.1
  obtain ⟨D, hD⟩ : ∃ D, μ (x + 175 + 1) = D := ⟨_, rfl⟩
  replace hs : Sim μ (x + 1) (μ (x + 175 + 1)) := hs
  replace hI : Inv (μ (x + 175 + 1)) := hI
  rw [hD] at hs hI
  obtain ⟨e0, b0⟩ := hI.today
  obtain ⟨e1, b1⟩ := hI.wards
  obtain ⟨e2, b2⟩ := hI.men
  obtain ⟨e3, b3⟩ := hI.words
  obtain ⟨e4, b4⟩ := hI.bars
  obtain ⟨e5, b5⟩ := hI.shes
  obtain ⟨e6, b6⟩ := hI.wets
  obtain ⟨e8, b8⟩ := hI.heaped
  have z0 := hs.today
  have z1 := hs.wardN
  have z2 := hs.manN
  have z3 := hs.wordN
  have z4 := hs.barN
  have z5 := hs.sheN
  have z6 := hs.wetN
  have z8 := hs.heapN
  have hU := lawU_now hs hI hL0
  have hlA := lawA_lt hI
  by_cases c1 : inS a1 0 7 = true
  case neg => exact Res.same hR' (-1) (by simp only [f_X11_tallies, k_within, some_bind, c1, ite_bI0, ↓reduceIte, Bool.false_eq_true]) (by simp only [f_X12_tallies, s_in, some_bind, c1, ite_bI0, ↓reduceIte, Bool.false_eq_true])
  obtain ⟨k, hk, rfl⟩ := inS_n (M := 7) (by omega) c1
  obtain ⟨fu, hfu, hfl⟩ : ∃ q, FU = q ∧ 301 < q := ⟨FU, rfl, by decide⟩
  have fm0 : ∀ μ1 : MU, f_X12_tallies (some (x + 175)) (nI k) (mkH n st S μ1) = b_X12_tallies_20 fu (some (x + 175)) (nI k) (unL D (5 - 5) 5) (dL D (5 - 5) 5) (nI 5 + -1) (mkH n st S μ1) := by
    intro μ1
    rw [← hfu]
    simp only [f_X12_tallies, s_in, some_bind, c1, ite_bI0, if_true]
    rfl
  have kU := k_unlikeL (n := n) (st := st) hC hs 5 0 fu (by omega) (by omega)
  have m1 : (-1 : Int32) < 0 := by decide
  by_cases h2 : k < 2
  · rcases (by omega : k = 0 ∨ k = 1) with rfl | rfl
    · refine Res.same hR' (unL D 5 0) ?_ ?_
      · have h0 : nI 0 = (0 : Int32) := rfl
        have e : f_X2_unlikeGate (some (x + 1)) (mkH n st S μ) = some (unL D 5 0) := by
          unfold f_X2_unlikeGate
          rw [hfu]
          exact kU
        rw [h0] at c1 ⊢
        simp only [f_X11_tallies, k_within, some_bind, c1, ite_bI0, if_true, xR0 hX, cck hC, e]
      · rw [fm0 μ]
        refine Eq.trans (r_tallL hS hD (nI 0) (fun u d => some (u, mkH n st S μ)) ?_ 5 fu (by omega) (by omega)) rfl
        intro fu u d
        have l2 : nI 0 < (2 : Int32) := by decide
        have h0 : nI 0 = (0 : Int32) := rfl
        rw [b_X12_tallies_20]
        simp only [m1, if_true, l2]
        rw [if_pos h0]
    · refine Res.same hR' (dL D 5 0) ?_ ?_
      · have h0 : nI 1 = (1 : Int32) := rfl
        have n10 : ¬ (1 : Int32) = 0 := by decide
        have kD := k_doubtL (n := n) (st := st) hC hs 5 0 fu 0 (by omega) (by omega)
        have e : f_X2_doubt (some (x + 1)) (mkH n st S μ) = some (dL D 5 0) := by
          rw [Int32.zero_add] at kD
          unfold f_X2_doubt
          rw [hfu]
          exact kD
        rw [h0] at c1 ⊢
        simp only [f_X11_tallies, k_within, some_bind, c1, ite_bI0, if_true, n10, if_false, xR0 hX, cck hC, e]
      · rw [fm0 μ]
        refine Eq.trans (r_tallL hS hD (nI 1) (fun u d => some (d, mkH n st S μ)) ?_ 5 fu (by omega) (by omega)) rfl
        intro fu u d
        have l2 : nI 1 < (2 : Int32) := by decide
        have h0 : ¬ nI 1 = (0 : Int32) := by decide
        rw [b_X12_tallies_20]
        simp only [m1, if_true, l2]
        rw [if_neg h0]
  · obtain ⟨μ1, k1, k2, k3, k4⟩ := k_countKnown (n := n) (st := st) hX hs hI hU (D 0)
    have hD1 : μ1 (x + 175 + 1) = D := by funext q; rw [k2 _ _ (by omega) (by omega) (by omega), hD]
    have hs1 : Sim μ1 (x + 1) D := Sim.frX hI hs (fun a j h1 h2 h3 => k2 a j (by omega) (by omega) (by omega))
    obtain ⟨μ2, r1, r2, r23, r24, -, -, r7⟩ := r_countAt (n := n) (st := st) (x := x) (b := b) hS (by omega) (hBase.congr (fun _ _ => rfl) (fun a j q => k2 a j (by omega) (by omega) (by omega))) hD1 hI hU (D 0)
    obtain ⟨g, hg⟩ : ∃ g, g = kgS D (lawT D) (lawN D) (D 0) := ⟨_, rfl⟩
    rw [← hg] at k3 k4 r2 r23 r24
    have hL : ∀ i, i < nD D 2 → cLs D g (nD D 5) i < 2 ^ 30 := fun i _ => cLs_lt D g b5 i
    have hr := fiS_rng (cLs D g (nD D 5)) (nD D 2)
    have hRR := hR'.cnt hlA k2 r7
    have hD2 : μ2 (x + 175 + 1) = D := by funext q; rw [r7 _ _ (by omega) (by omega), hD1]
    have nl2 : ¬ nI k < (2 : Int32) := by rw [lit_lt (by omega) (by decide)]; exact h2
    have n0 : ¬ nI k = (0 : Int32) := fun h => by have := (nI_eq (a := k) (b := 0) (by omega) (by omega)).mp h; omega
    have n1 : ¬ nI k = (1 : Int32) := fun h => by have := (nI_eq (a := k) (b := 1) (by omega) (by omega)).mp h; omega
    by_cases h3 : k = 2
    · subst h3
      have e22 : nI 2 = (2 : Int32) := rfl
      have kF := k_firstMan (n := n) (st := st) hX k3 b2 hL
      have kLe := k_leastOf (n := n) (st := st) hX k3 b2 hr
      have kSe := k_secondTo (n := n) (st := st) hX k3 b2 hL (fiS (cLs D g (nD D 5)) (nD D 2))
      have rLe := r_leastOfFirst (n := n) (st := st) (μ := μ2) hS b2 (fun i hi => (r2.2.1 i hi).1) r23 hr
      have kD := k_doubtL (n := n) (st := st) hC hs1 5 0 fu 0 (by omega) (by omega)
      have eD : f_X2_doubt (some (x + 1)) (mkH n st S μ1) = some (dL D 5 0) := by
        rw [Int32.zero_add] at kD
        unfold f_X2_doubt
        rw [hfu]
        exact kD
      obtain ⟨fi, hfi⟩ : ∃ f, f = fiS (cLs D g (nD D 5)) (nD D 2) := ⟨_, rfl⟩
      rw [← hfi] at kF kLe kSe rLe r24
      refine ⟨bI (decide (¬ dL D 5 0 < nI (leN (cLs D g (nD D 5)) fi) - nI (seS (cLs D g (nD D 5)) (nD D 2) fi))), mkH n st S μ1, n, S, μ2, ?_, ?_, hRR⟩
      · simp only [f_X11_tallies, k_within, some_bind, c1, ite_bI0, if_true, n0, n1, if_false, xR0 hX, cI0 hC, z0, xR3 hX, cck hC, k1, pock hX, kF, eD, kLe, kSe, b_X11_tallies_100]
        rw [if_pos e22]
        by_cases hh : dL D 5 0 < nI (leN (cLs D g (nD D 5)) fi) - nI (seS (cLs D g (nD D 5)) (nD D 2) fi)
        · rw [if_pos hh, decide_eq_false (fun h => h hh)]; rfl
        · rw [if_neg hh, decide_eq_true hh]; rfl
      · rw [fm0 μ1]
        refine Eq.trans (r_tallL hS hD1 (nI 2) (fun u d => if d < nI (leN (cLs D g (nD D 5)) fi) - nI (seS (cLs D g (nD D 5)) (nD D 2) fi) then some (0, mkH n st S μ2) else some (1, mkH n st S μ2)) ?_ 5 fu (by omega) (by omega)) ?_
        · intro fu u d
          rw [b_X12_tallies_20]
          simp (disch := omega) only [m1, if_true, nl2, if_false, mR0 hS, some_bind, lit_aI, mA0 hS, hD1, rck hS, r1, rLe, mI24 hS, r24]
          rw [if_pos e22]
        · by_cases hh : dL D 5 0 < nI (leN (cLs D g (nD D 5)) fi) - nI (seS (cLs D g (nD D 5)) (nD D 2) fi)
          · simp only [hh, if_true, not_true_eq_false, decide_false]; rfl
          · simp only [hh, if_false, not_false_eq_true, decide_true]; rfl
    · obtain ⟨h, rfl⟩ : ∃ h, k = h + 3 := ⟨k - 3, by omega⟩
      have n2 : ¬ nI (h + 3) = (2 : Int32) := fun e => by have := (nI_eq (a := h + 3) (b := 2) (by omega) (by omega)).mp e; omega
      have eh : nI (h + 3) - 3 = nI h := by
        have := pk_sub (a := h + 3) (b := 3) (by omega)
        rw [show h + 3 - 3 = h from by omega] at this
        exact this
      have t0 := hs1.tal 0 h (by omega) (by omega)
      rw [show 13 + 5 * 0 + h = 13 + h from by omega] at t0
      have a0 := cATal (n := n) (st := st) (μ := μ1) hC (i := 0) (q := h) (by omega) (by omega)
      rw [t0] at a0
      have kt := k4 h (by omega)
      refine ⟨D (13 + h) - nI (cTh D g (nD D 5) h) + 100, mkH n st S μ1, n, S, μ2, ?_, ?_, hRR⟩
      · simp (disch := omega) only [f_X11_tallies, k_within, some_bind, c1, ite_bI0, if_true, n0, n1, n2, if_false, xR0 hX, cI0 hC, z0, xR3 hX, cck hC, k1, cR16 hC, lit_aR, cEtallies hC, eh, a0, poR5 hX, xAThr hX, kt]
      · rw [fm0 μ1]
        have rT := r_thrL (n := n) (st := st) hS hD2 hI r2.2.2 (h := h) (by omega) (nD D 5) 0 fu (by omega) (by omega)
        refine Eq.trans (r_tallL hS hD1 (nI (h + 3)) (fun u d => some (D (13 + h) - nI (cTh D g (nD D 5) h) + 100, mkH n st S μ2)) ?_ 5 fu (by omega) (by omega)) rfl
        intro fu' u d
        rw [← rT, ← hfu, b_X12_tallies_20]
        simp (disch := omega) only [m1, if_true, nl2, if_false, mR0 hS, some_bind, lit_aI, mA0 hS, hD1, rck hS, r1, n2]
        rfl
end TALLIES
