-- ===== who goes by what is cast =====
def trS (D : DR) (i : Nat) : Nat := nD D (23 + wdS D i)
def aLs (C : Nat → Int32) (j i : Nat) : Nat := cntB (fun s => decide (C s = nI i)) j 0
def aTs (C : Nat → Int32) (j : Nat) : Nat := cntB (fun s => decide (¬ C s < 0)) j 0
def aGs (D : DR) (C : Nat → Int32) (j i : Nat) : Nat := orK (fun s => if C s = nI i then 2 ^ trS D s else 0) j
/-- who goes by the casts -/
def caS (D : DR) (T : Nat → Int32) (Nt : Nat) (C : Nat → Int32) : Int32 := goS T Nt (aTs C (nD D 2)) (aLs C (nD D 2)) (aGs D C (nD D 2)) (nD D 2)
section CASTS
variable {n : Nat} {st : Nat → Nat} {S : SH} {μ : MU} {x b m c l j : Nat} {D : DR} {N tot : Nat} {L M G : Nat → Nat} {T : Nat → Int32} {Nt : Nat} {C : Nat → Int32}
theorem trS_of (hI : Inv D) {i : Nat} (hi : i < nD D 2) : D (23 + wdS D i) = nI (trS D i) ∧ trS D i < 5 := by
  obtain ⟨q1, q2⟩ := wdS_of hI hi
  obtain ⟨k, hk, e⟩ := hI.tribe _ q2
  have : trS D i = k := nD_of e (by omega)
  exact ⟨by rw [this]; exact e, by omega⟩
theorem aGs_lt (hI : Inv D) {j : Nat} (hj : j ≤ nD D 2) (i : Nat) : aGs D C j i < 2 ^ 16 := by
  refine Nat.lt_of_lt_of_le (orK_lt (w := 5) j fun s hs => ?_) (by decide)
  split
  · exact Nat.pow_lt_pow_right (by omega) (trS_of hI (by omega)).2
  · exact Nat.two_pow_pos 5
theorem aLs_lt {j : Nat} (hj : j ≤ 16) (i : Nat) : aLs C j i < 2 ^ 30 := by
  have := cntB_le (fun s => decide (C s = nI i)) j 0
  unfold aLs
  omega
theorem k_addCast (hX : ShX S x) (hN : N ≤ 16) (hP : PoOK μ x N tot L M G) {w g : Nat} (hw : w < N) (hg : g < 5) : ∃ μ', f_X6_addCast (some (x + 158)) (nI w) (nI g) (mkH n st S μ) = some (mkH n st S μ') ∧ PoOK μ' x N (tot + 1) (fun i => if i = w then L i + 1 else L i) M (fun i => if i = w then G i ||| 2 ^ g else G i) ∧ ∀ a i, ¬ (x + 158 ≤ a ∧ a ≤ x + 162) → μ' a i = μ a i := by
  obtain ⟨p1, p2, p3⟩ := hP
  obtain ⟨a1, a2, a3⟩ := p3 w hw
  obtain ⟨μ', hμ'⟩ : ∃ q, q = up2 (up2 (up2 μ (x + 158) 1 (nI (tot + 1))) (x + 159) w (nI (L w + 1))) (x + 161) w (nI (G w ||| 2 ^ g)) := ⟨_, rfl⟩
  refine ⟨μ', ?_, ⟨?_, ?_, ?_⟩, ?_⟩
  · have e1 : up2 μ (x + 158) 1 (nI (tot + 1)) (x + 159) w = nI (L w) := by rw [up2_ne (by omega)]; exact a1
    have e3 : up2 (up2 μ (x + 158) 1 (nI (tot + 1))) (x + 159) w (nI (L w + 1)) (x + 161) w = nI (G w) := by rw [up2_ne (by omega), up2_ne (by omega)]; exact a3
    rw [hμ']
    simp (disch := omega) only [f_X6_addCast, poI1 hX, some_bind, p2, nI_1, poP1 hX, poR2 hX, xALea hX, e1, xSLea hX, poR4 hX, xAGat hX, e3, shl1, orN, xSGat hX]
  · rw [hμ']; simp (disch := omega) only [up2_ne, p1]
  · rw [hμ']; simp (disch := omega) only [up2_ne, up2_same]
  · intro i hi
    obtain ⟨c1, c2, c3⟩ := p3 i hi
    rw [hμ']
    by_cases hij : i = w
    · subst hij
      simp (disch := omega) only [up2_ne, up2_same, if_true, c2, and_self]
    · simp (disch := omega) only [up2_ne, hij, if_false, c1, c2, c3, and_self]
  · intro a i h
    rw [hμ']; simp (disch := omega) only [up2_ne]
/-- one cast more, or none -/
theorem cast_step (hP : PoOK μ x N (aTs C j) (aLs C j) M (aGs D C j)) {w : Nat} (hC : C j = nI w) (hw : w < 2 ^ 30) {μ' : MU} (hP' : PoOK μ' x N (aTs C j + 1) (fun i => if i = w then aLs C j i + 1 else aLs C j i) M (fun i => if i = w then aGs D C j i ||| 2 ^ trS D j else aGs D C j i)) (hN : N ≤ 16) : PoOK μ' x N (aTs C (j + 1)) (aLs C (j + 1)) M (aGs D C (j + 1)) := by
  have e0 : aTs C (j + 1) = aTs C j + 1 := by
    have h0 : ¬ C j < 0 := by rw [hC]; exact nI_pos (by omega)
    rw [aTs, aTs, cntB_snoc, Nat.zero_add, decide_eq_true h0]; rfl
  rw [e0]
  refine hP'.ext (fun i hi => ?_) (fun _ _ => rfl) (fun i hi => ?_)
  · rw [aLs, aLs, cntB_snoc, Nat.zero_add, hC]
    by_cases hij : i = w
    · subst hij; simp
    · rw [if_neg hij, decide_eq_false (fun q => hij ((nI_eq (by omega) (by omega)).mp q).symm)]; rfl
  · rw [aGs, aGs, orK, hC]
    by_cases hij : i = w
    · subst hij; simp
    · rw [if_neg hij, if_neg (fun q => hij ((nI_eq (by omega) (by omega)).mp q).symm), Nat.or_zero]
theorem cast_none (hP : PoOK μ x N (aTs C j) (aLs C j) M (aGs D C j)) (hC : C j < 0) (hN : N ≤ 16) : PoOK μ x N (aTs C (j + 1)) (aLs C (j + 1)) M (aGs D C (j + 1)) := by
  have e0 : aTs C (j + 1) = aTs C j := by
    rw [aTs, aTs, cntB_snoc, Nat.zero_add, decide_eq_false (fun h => h hC)]; rfl
  have hne : ∀ i, i < N → ¬ C j = nI i := fun i hi q => by rw [q] at hC; exact nI_pos (by omega) hC
  rw [e0]
  refine hP.ext (fun i hi => ?_) (fun _ _ => rfl) (fun i hi => ?_)
  · rw [aLs, aLs, cntB_snoc, Nat.zero_add, decide_eq_false (hne i hi)]; rfl
  · rw [aGs, aGs, orK, if_neg (hne i hi), Nat.or_zero]
theorem k_pollL (hX : ShX S x) (hs : Sim μ (x + 1) D) (hI : Inv D) (hCr : ∀ i, i < nD D 2 → isO (C i) (nD D 2)) (hC : ∀ i, i < nD D 2 → μ (x + 165) i = C i) : ∀ k j fu (μ1 : MU), j + k = nD D 2 → k < fu → (∀ a i, ¬ (x + 158 ≤ a ∧ a ≤ x + 162) → μ1 a i = μ a i) → PoOK μ1 x (nD D 2) (aTs C j) (aLs C j) (fun _ => 0) (aGs D C j) → ∃ μ', b_X11_pollCasts_16 fu (some x) (nI j) (mkH n st S μ1) = some (mkH n st S μ') ∧ (∀ a i, ¬ (x + 158 ≤ a ∧ a ≤ x + 162) → μ' a i = μ a i) ∧ PoOK μ' x (nD D 2) (aTs C (nD D 2)) (aLs C (nD D 2)) (fun _ => 0) (aGs D C (nD D 2)) := by
  have hCy := hX.city
  obtain ⟨e2, b2⟩ := hI.men
  have b1 := hI.wards.2
  intro k
  induction k with
  | zero =>
    intro j fu μ1 hj hf hF hP
    obtain ⟨fu, rfl⟩ : ∃ q, fu = q + 1 := ⟨fu - 1, by omega⟩
    obtain rfl : j = nD D 2 := by omega
    have z2 : μ1 (x + 1) 6 = nI (nD D 2) := by rw [hF _ _ (by omega), hs.manN, e2]
    exact ⟨μ1, by simp (disch := omega) only [b_X11_pollCasts_16, xR0 hX, some_bind, cI6 hCy, z2, nn_lt, natF, if_false], hF, hP⟩
  | succ k ih =>
    intro j fu μ1 hj hf hF hP
    obtain ⟨fu, rfl⟩ : ∃ q, fu = q + 1 := ⟨fu - 1, by omega⟩
    have z2 : μ1 (x + 1) 6 = nI (nD D 2) := by rw [hF _ _ (by omega), hs.manN, e2]
    have hcj : μ1 (x + 165) j = C j := by rw [hF _ _ (by omega)]; exact hC j (by omega)
    by_cases h0 : C j < 0
    · obtain ⟨μ', r1, r2⟩ := ih (j + 1) fu μ1 (by omega) (by omega) hF (cast_none hP h0 b2)
      refine ⟨μ', ?_, r2⟩
      rw [← r1]
      simp (disch := omega) only [b_X11_pollCasts_16, xR0 hX, some_bind, cI6 hCy, z2, nn_lt, natT, if_true, xR5 hX, xACas hX, hcj, h0, nI_1]
    · obtain ⟨w, hw, ew⟩ : ∃ w, w < nD D 2 ∧ C j = nI w := by
        rcases hCr j (by omega) with h | h
        · rw [h] at h0; exact absurd (by decide) h0
        · exact h
      obtain ⟨q1, q2⟩ := wdS_of hI (show j < nD D 2 by omega)
      obtain ⟨t1, t2⟩ := trS_of hI (show j < nD D 2 by omega)
      have m0 : μ1 (x + 1 + 22 + 2 * j) 0 = nI (wdS D j) := by
        have := hs.man j 0 (by omega) (by omega)
        simp only [Nat.reduceMul, Nat.reduceAdd] at this
        rw [hF _ _ (by omega), this]; exact q1
      have w0 : μ1 (x + 1 + 14 + wdS D j) 0 = nI (trS D j) := by rw [hF _ _ (by omega), hs.tribe _ q2]; exact t1
      obtain ⟨μ2, g1, g2, g3⟩ := k_addCast (n := n) (st := st) hX b2 hP hw t2
      obtain ⟨μ', r1, r2⟩ := ih (j + 1) fu μ2 (by omega) (by omega) (fun a i h => by rw [g3 a i h, hF a i h]) (cast_step hP ew (by omega) g2 b2)
      refine ⟨μ', ?_, r2⟩
      rw [← r1]
      rw [ew] at hcj h0
      simp (disch := omega) only [b_X11_pollCasts_16, xR0 hX, some_bind, cI6 hCy, z2, nn_lt, natT, if_true, xR5 hX, xACas hX, hcj, h0, if_false, xR3 hX, cR3 hCy, cR5 hCy, cEmen hCy, oManI hCy, m0, cEwards hCy, oWardI hCy, w0, pock hX, g1, nI_1]
theorem k_pollCasts (hX : ShX S x) (hs : Sim μ (x + 1) D) (hI : Inv D) (hCr : ∀ i, i < nD D 2 → isO (C i) (nD D 2)) (hC : ∀ i, i < nD D 2 → μ (x + 165) i = C i) : ∃ μ', f_X11_pollCasts (some x) (mkH n st S μ) = some (mkH n st S μ') ∧ (∀ a i, ¬ (x + 158 ≤ a ∧ a ≤ x + 162) → μ' a i = μ a i) ∧ PoOK μ' x (nD D 2) (aTs C (nD D 2)) (aLs C (nD D 2)) (fun _ => 0) (aGs D C (nD D 2)) := by
  have hCy := hX.city
  obtain ⟨e2, b2⟩ := hI.men
  obtain ⟨fu, hfu, hfl⟩ : ∃ q, FU = q ∧ 301 < q := ⟨FU, rfl, by decide⟩
  obtain ⟨μ1, r1, r2, r3, r4⟩ := k_pbegin (n := n) (st := st) (μ := μ) hX b2
  obtain ⟨μ', w1, w2⟩ := k_pollL (n := n) (st := st) hX hs hI hCr hC (nD D 2) 0 fu μ1 (by omega) (by omega) r4 (r2.ext (fun _ _ => rfl) (fun _ _ => rfl) (fun _ _ => rfl))
  refine ⟨μ', ?_, w2⟩
  have h6 : μ (x + 1) 6 = nI (nD D 2) := by rw [hs.manN, e2]
  rw [← w1, ← hfu]
  simp only [f_X11_pollCasts, xR3 hX, xR0 hX, some_bind, cI6 hCy, h6, pock hX, r1]
  rfl
-- ===== the reference =====
def FrZ (m : Nat) (μ μ' : MU) : Prop := ∀ a j, ¬ (a = m ∧ ((11 ≤ j ∧ j ≤ 18) ∨ (22 ≤ j ∧ j ≤ 26))) → ¬ (m + 7 ≤ a ∧ a ≤ m + 10) → μ' a j = μ a j
theorem r_go7 (hS : ShM S m) : ∀ q j fu (μ : MU), j + q = 16 → q < fu → b_X12_goesBy_7 fu (some m) (nI j) (mkH n st S μ) = b_X12_goesBy_28 FU (some m) 0 (mkH n st S (filR μ (m + 10) j 16 0)) := by
  intro q
  induction q with
  | zero =>
    intro j fu μ hj hf
    obtain ⟨fu, rfl⟩ : ∃ q, fu = q + 1 := ⟨fu - 1, by omega⟩
    obtain rfl : j = 16 := by omega
    rw [filR_nil]
    simp (disch := omega) only [b_X12_goesBy_7, lit_lt, natF, if_false]
  | succ q ih =>
    intro j fu μ hj hf
    obtain ⟨fu, rfl⟩ : ∃ q, fu = q + 1 := ⟨fu - 1, by omega⟩
    simp (disch := omega) only [b_X12_goesBy_7, lit_lt, natT, if_true, mR19 hS, some_bind, mS19 hS, nI_1]
    rw [ih (j + 1) fu _ (by omega) (by omega), filR_up (by omega)]
theorem r_go28 (hS : ShM S m) (hI : Inv D) (hCr : ∀ i, i < nD D 2 → isO (C i) (nD D 2)) : ∀ k j fu (μ : MU), μ (m + 1) = D → (∀ i, i < nD D 2 → μ (m + 13) i = C i) → μ m 22 = nI (aTs C j) → (∀ i, i < nD D 2 → μ (m + 10) i = nI (aLs C j i)) → j + k = nD D 2 → k < fu → ∃ μ', b_X12_goesBy_28 fu (some m) (nI j) (mkH n st S μ) = (f_X12_rank (some m) (mkH n st S μ')).bind (fun h12 => b_X12_goesBy_86 FU (some m) 0 0 h12) ∧ μ' m 22 = nI (aTs C (nD D 2)) ∧ (∀ i, i < nD D 2 → μ' (m + 10) i = nI (aLs C (nD D 2) i)) ∧ ∀ a i, ¬ (a = m ∧ i = 22) → ¬ a = m + 10 → μ' a i = μ a i := by
  obtain ⟨e2, b2⟩ := hI.men
  intro k
  induction k with
  | zero =>
    intro j fu μ hD hC h22 hL hj hf
    obtain ⟨fu, rfl⟩ : ∃ q, fu = q + 1 := ⟨fu - 1, by omega⟩
    obtain rfl : j = nD D 2 := by omega
    refine ⟨μ, ?_, h22, hL, fun _ _ _ _ => rfl⟩
    simp (disch := omega) only [b_X12_goesBy_28, mR0 hS, some_bind, lit_aI, mA0 hS, hD, e2, nn_lt, natF, if_false, rck hS]
  | succ k ih =>
    intro j fu μ hD hC h22 hL hj hf
    obtain ⟨fu, rfl⟩ : ∃ q, fu = q + 1 := ⟨fu - 1, by omega⟩
    have h2 : D 2 = nI (nD D 2) := e2
    have hcj := hC j (by omega)
    by_cases h0 : C j < 0
    · have e0 : aTs C (j + 1) = aTs C j := by
        rw [aTs, aTs, cntB_snoc, Nat.zero_add, decide_eq_false (fun h => h h0)]; rfl
      obtain ⟨μ', r1, r2⟩ := ih (j + 1) fu μ hD hC (by rw [e0]; exact h22) (fun i hi => by
        rw [hL i hi, aLs, aLs, cntB_snoc, Nat.zero_add, decide_eq_false (fun q => by rw [q] at h0; exact nI_pos (by omega) h0)]; rfl) (by omega) (by omega)
      refine ⟨μ', ?_, r2⟩
      rw [← r1]
      simp (disch := omega) only [b_X12_goesBy_28, mR0 hS, some_bind, lit_aI, mA0 hS, hD, mR27 hS, mA27 hS, hcj, h0, if_true, nI_1]
      rw [h2]
      simp (disch := omega) only [nn_lt, natT, if_true]
    · obtain ⟨w, hw, ew⟩ : ∃ w, w < nD D 2 ∧ C j = nI w := by
        rcases hCr j (by omega) with h | h
        · rw [h] at h0; exact absurd (by decide) h0
        · exact h
      have e0 : aTs C (j + 1) = aTs C j + 1 := by
        rw [aTs, aTs, cntB_snoc, Nat.zero_add, decide_eq_true h0]; rfl
      obtain ⟨μ1, hμ1⟩ : ∃ q, q = (up2 (up2 μ (m + 10) (w) (nI (aLs C j w + 1))) (m) (22) (nI (aTs C j + 1))) := ⟨_, rfl⟩
      have hf1 : ∀ a i, ¬ (a = m ∧ i = 22) → ¬ a = m + 10 → μ1 a i = μ a i := fun a i h1 h2 => by rw [hμ1]; simp (disch := omega) only [up2_ne]
      obtain ⟨μ', r1, r2, r3, r4⟩ := ih (j + 1) fu μ1 (by funext q; rw [hf1 _ _ (by omega) (by omega), hD]) (fun i hi => by rw [hf1 _ _ (by omega) (by omega)]; exact hC i hi) (by rw [e0, hμ1, up2_same]) (by
        intro i hi
        have e1 : aLs C (j + 1) i = aLs C j i + if decide (nI w = nI i) = true then 1 else 0 := by
          show cntB _ (j + 1) 0 = _
          rw [cntB_snoc, Nat.zero_add, ew]
          rfl
        rw [hμ1, up2_ne (by omega), e1]
        by_cases hij : i = w
        · subst hij
          rw [up2_same]
          simp
        · rw [up2_ne (by omega), hL i hi, decide_eq_false (fun q => hij ((nI_eq (by omega) (by omega)).mp q).symm)]; rfl) (by omega) (by omega)
      refine ⟨μ', ?_, r2, r3, fun a i q1 q2 => by rw [r4 a i q1 q2, hf1 a i q1 q2]⟩
      rw [← r1, hμ1]
      have hw1 := hL w hw
      have t22 : ∀ v, up2 μ (m + 10) w v m 22 = nI (aTs C j) := fun v => by rw [up2_ne (by omega)]; exact h22
      rw [ew] at hcj h0
      simp (disch := omega) only [b_X12_goesBy_28, mR0 hS, some_bind, lit_aI, mA0 hS, hD, mR27 hS, mA27 hS, hcj, h0, if_false, mR19 hS, mA19 hS, hw1, nI_1, mS19 hS, mI22 hS, t22, mP22 hS]
      rw [h2]
      simp (disch := omega) only [nn_lt, natT, if_true]
theorem r_go86 (hS : ShM S m) (hm : x ≤ m) (hI : Inv D) {μc : MU} {Lw : Nat} (hU : LawU μc Lw (lawT D) (lawN D)) (hCr : ∀ i, i < nD D 2 → isO (C i) (nD D 2)) {f : Int32} (hfr : isO f (nD D 2)) {se : Nat} (hB : BaseOK st S μ x b) (hD : μ (m + 1) = D) (hC : ∀ i, i < nD D 2 → μ (m + 13) i = C i) (h22 : μ m 22 = nI (aTs C (nD D 2))) (h23 : μ m 23 = f) (h24 : μ m 24 = nI se) (hR : ∀ i, i < nD D 2 → μ (m + 10) i = nI (aLs C (nD D 2) i)) : ∀ k j fu, j + k = nD D 2 → k < fu → ∃ μ', b_X12_goesBy_86 fu (some m) (nI (if f < 0 then 0 else aGs D C j f.toNatClampNeg)) (nI j) (mkH n st S μ) = some ((if (decide (0 < leN (aLs C (nD D 2)) f) && enoS (lawT D) (lawN D) (nI (aTs C (nD D 2))) (nI (leN (aLs C (nD D 2)) f)) (nI se) (nI (trN (aGs D C (nD D 2)) f))) then f else -1), mkH n st S μ') ∧ FrH m μ μ' := by
  obtain ⟨e2, b2⟩ := hI.men
  have b1 := hI.wards.2
  intro k
  induction k with
  | zero =>
    intro j fu hj hf
    obtain ⟨fu, rfl⟩ : ∃ q, fu = q + 1 := ⟨fu - 1, by omega⟩
    obtain rfl : j = nD D 2 := by omega
    obtain ⟨gt, hgt⟩ : ∃ gt, gt = (if f < 0 then 0 else aGs D C (nD D 2) f.toNatClampNeg) := ⟨_, rfl⟩
    have hgl : gt < 2 ^ 16 := by
      rw [hgt]; split
      · omega
      · exact aGs_lt hI (Nat.le_refl _) _
    have htr : trN (aGs D C (nD D 2)) f = popN 16 gt := by
      rw [hgt, trN]
      by_cases h0 : f < 0
      · rw [if_pos h0, if_pos h0]; rfl
      · rw [if_neg h0, if_neg h0]
    rw [← hgt, htr]
    have rB := r_bits hgl (mkH n st S μ)
    obtain ⟨pt, hpt⟩ : ∃ pt, pt = popN 16 gt := ⟨_, rfl⟩
    rw [← hpt] at rB ⊢
    obtain ⟨L, hLe⟩ : ∃ L, L = aLs C (nD D 2) := ⟨_, rfl⟩
    have hLl : ∀ i, L i < 2 ^ 30 := fun i => by rw [hLe]; exact aLs_lt b2 i
    rw [← hLe] at hR ⊢
    have rL := r_leastOfFirst (n := n) (st := st) (μ := μ) hS b2 hR h23 hfr
    have hlb : leN L f < 2 ^ 30 := by
      unfold leN
      split
      · omega
      · exact hLl _
    have hx : b_X12_goesBy_86 (fu + 1) (some m) (nI gt) (nI (nD D 2)) (mkH n st S μ) = if 0 < nI (leN L f) then (f_X12_isEnough (some m) (nI (aTs C (nD D 2))) (nI (leN L f)) (nI se) (nI pt) (mkH n st S μ)).bind (fun p16 => if p16.1 = 0 then some (-1, p16.2) else (gI 12 23 p16.2 (some m)).bind fun v17 => some (v17, p16.2)) else some (-1, mkH n st S μ) := by
      simp (disch := omega) only [b_X12_goesBy_86, mR0 hS, some_bind, lit_aI, mA0 hS, hD, e2, nn_lt, natF, if_false, rck hS, rL, mI22 hS, h22, mI24 hS, h24, rB]
    rw [hx]
    by_cases h0 : 0 < leN L f
    · have n0 : (0 : Int32) < nI (leN L f) := nI_lt (a := 0) h0 (by omega)
      obtain ⟨μ2, w1, w2⟩ := r_isEnough (n := n) (st := st) (x := x) (b := b) hS hm hB hD hI hU (nI (aTs C (nD D 2))) (nI (leN L f)) (nI se) (nI pt)
      rw [if_pos n0, w1, some_bind]
      have h232 : μ2 m 23 = f := by rw [w2 _ _ (by omega) (by omega)]; exact h23
      refine ⟨μ2, ?_, w2⟩
      cases hen : enoS (lawT D) (lawN D) (nI (aTs C (nD D 2))) (nI (leN L f)) (nI se) (nI pt) with
      | false => simp [bI]
      | true =>
        have b1 : ¬ bI true = 0 := by decide
        simp only [b1, if_false, mI23 hS, h232, some_bind, h0, decide_true, Bool.true_and, if_true]
    · have n0 : ¬ (0 : Int32) < nI (leN L f) := by
        have : leN L f = 0 := by omega
        rw [this]; decide
      refine ⟨μ, ?_, fun _ _ _ _ => rfl⟩
      rw [if_neg n0]
      simp [h0]
  | succ k ih =>
    intro j fu hj hf
    obtain ⟨fu, rfl⟩ : ∃ q, fu = q + 1 := ⟨fu - 1, by omega⟩
    have h2 : D 2 = nI (nD D 2) := e2
    obtain ⟨μ', r1, r2⟩ := ih (j + 1) fu (by omega) (by omega)
    refine ⟨μ', ?_, r2⟩
    rw [← r1]
    obtain ⟨q1, q2⟩ := wdS_of hI (show j < nD D 2 by omega)
    obtain ⟨t1, t2⟩ := trS_of hI (show j < nD D 2 by omega)
    have hcj := hC j (by omega)
    by_cases h0 : f < 0
    · simp (disch := omega) only [b_X12_goesBy_86, b_X12_goesBy_140, mR0 hS, some_bind, lit_aI, mA0 hS, hD, mI23 hS, h23, h0, if_true, nI_1]
      rw [h2]
      simp (disch := omega) only [nn_lt, natT, if_true]
      rfl
    · obtain ⟨w, hw, ew⟩ : ∃ w, w < nD D 2 ∧ f = nI w := by
        rcases hfr with h | h
        · rw [h] at h0; exact absurd (by decide) h0
        · exact h
      subst ew
      obtain ⟨gt, hgt⟩ : ∃ gt, gt = aGs D C j w := ⟨_, rfl⟩
      have hcl : (nI w).toNatClampNeg = w := nI_clamp (by omega)
      have hst : aGs D C (j + 1) w = gt ||| (if C j = nI w then 2 ^ trS D j else 0) := by rw [hgt]; rfl
      rw [if_neg h0, if_neg h0, hcl, hst, ← hgt]
      simp (disch := omega) only [b_X12_goesBy_86, b_X12_goesBy_140, mR0 hS, some_bind, lit_aI, mA0 hS, hD, mI23 hS, h23, h0, if_false, mR27 hS, mA27 hS, hcj, lit_add, q1, t1, shl1, nI_1]
      rw [h2]
      simp (disch := omega) only [nn_lt, natT, if_true]
      by_cases e : C j = nI w
      · rw [if_pos e, if_pos e, orN]
      · rw [if_neg e, if_neg e, Nat.or_zero]
        have := orN gt 0
        rw [Nat.or_zero] at this
        exact congrArg (fun v => b_X12_goesBy_86 fu (some m) v (nI (j + 1)) (mkH n st S μ)) this
theorem r_goesBy (hS : ShM S m) (hm : x ≤ m) (hI : Inv D) {μc : MU} {Lw : Nat} (hU : LawU μc Lw (lawT D) (lawN D)) (hCr : ∀ i, i < nD D 2 → isO (C i) (nD D 2)) (hB : BaseOK st S μ x b) (hD : μ (m + 1) = D) (hC : ∀ i, i < nD D 2 → μ (m + 13) i = C i) : ∃ μ', f_X12_goesBy (some m) (mkH n st S μ) = some (caS D (lawT D) (lawN D) C, mkH n st S μ') ∧ FrZ m μ μ' := by
  have b2 := hI.men.2
  obtain ⟨fu, hfu, hfl⟩ : ∃ q, FU = q ∧ 301 < q := ⟨FU, rfl, by decide⟩
  obtain ⟨μ0, h0⟩ : ∃ q, q = filR (up2 μ m 22 0) (m + 10) 0 16 0 := ⟨_, rfl⟩
  have hF0 : ∀ a i, ¬ (a = m ∧ i = 22) → ¬ a = m + 10 → μ0 a i = μ a i := fun a i q1 q2 => by rw [h0, filR_ne (by omega), up2_ne (by omega)]
  obtain ⟨μ1, r1, r2, r3, r4⟩ := r_go28 (n := n) (st := st) hS hI hCr (nD D 2) 0 fu μ0 (by funext q; rw [hF0 _ _ (by omega) (by omega), hD]) (fun i hi => by rw [hF0 _ _ (by omega) (by omega)]; exact hC i hi) (by rw [h0, filR_ne (by omega), up2_same]; rfl) (fun i hi => by rw [h0, filR_in (by omega) (by omega)]; rfl) (by omega) (by omega)
  have hf1 : ∀ a i, ¬ (a = m ∧ i = 22) → ¬ a = m + 10 → μ1 a i = μ a i := fun a i q1 q2 => by rw [r4 a i q1 q2, hF0 a i q1 q2]
  have hD1 : μ1 (m + 1) = D := by funext q; rw [hf1 _ _ (by omega) (by omega), hD]
  obtain ⟨μ2, w1, w2, w3, w4⟩ := r_rank (n := n) (st := st) hS hI hD1 (fun i _ => aLs_lt b2 i) r3
  have hr := fiS_rng (aLs C (nD D 2)) (nD D 2)
  obtain ⟨μ3, v1, v2⟩ := r_go86 (n := n) (st := st) (x := x) (b := b) (μ := μ2) hS hm hI hU hCr hr (hB.congr (fun _ _ => rfl) (fun a i h => by rw [w4 a i (by omega), hf1 a i (by omega) (by omega)])) (by funext q; rw [w4 _ _ (by omega), hD1]) (fun i hi => by rw [w4 _ _ (by omega), hf1 _ _ (by omega) (by omega)]; exact hC i hi) (by rw [w4 _ _ (by omega)]; exact r2) w2 w3 (fun i hi => by rw [w4 _ _ (by omega)]; exact r3 i hi) (nD D 2) 0 fu (by omega) (by omega)
  refine ⟨μ3, ?_, fun a i q1 q2 => by rw [v2 a i (by omega) (by omega), w4 a i (by omega), hf1 a i (by omega) (by omega)]⟩
  have c7 := r_go7 (n := n) (st := st) hS 16 0 fu (up2 μ m 22 0) (by omega) (by omega)
  rw [← h0] at c7
  have e0 : (if fiS (aLs C (nD D 2)) (nD D 2) < 0 then 0 else aGs D C 0 (fiS (aLs C (nD D 2)) (nD D 2)).toNatClampNeg) = 0 := by split <;> rfl
  rw [e0] at v1
  have c0 : f_X12_goesBy (some m) (mkH n st S μ) = b_X12_goesBy_7 fu (some m) (nI 0) (mkH n st S (up2 μ m 22 0)) := by
    rw [← hfu]
    simp only [f_X12_goesBy, mP22 hS, some_bind]
    rfl
  rw [c0, c7, hfu]
  refine Eq.trans r1 ?_
  rw [w1, some_bind, hfu]
  exact v1
end CASTS
