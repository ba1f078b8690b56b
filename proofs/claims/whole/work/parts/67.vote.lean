-- ===== what the casts rest on; a vote =====
/-- one sherd more -/
def addD (E : DR) (a1 a2 a3 a4 a5 rd hd : Int32) : DR := fun q => if q = 5 then nI (nD E 5 + 1) else if 651 ≤ q ∧ q < 1011 ∧ (q - 651) % 40 = nD E 5 then svS a1 a2 a3 a4 a5 rd hd (E 0) ((q - 651) / 40) else E q
/-- alike but for the sherds -/
def AgS (D E : DR) : Prop := ∀ q, ¬ (q = 5 ∨ q = 7) → ¬ (651 ≤ q ∧ q < 1011) → E q = D q
theorem AgS.add {D E : DR} (h : AgS D E) (a1 a2 a3 a4 a5 rd hd : Int32) : AgS D (addD E a1 a2 a3 a4 a5 rd hd) := by
  intro q h1 h2
  unfold addD
  rw [if_neg (by omega), if_neg (by omega), h q h1 h2]
theorem AgS.n {D E : DR} (h : AgS D E) {q : Nat} (h1 : q < 5) : nD E q = nD D q := nD_eq (h q (by omega) (by omega))
section AGS
variable {D E : DR}
theorem dreS_c (hI : Inv D) (h : AgS D E) {i o : Nat} (hi : i < 16) (ho : o < 16) (day : Int32) : dreS E i o day = dreS D i o day := by
  have b3 := hI.words.2
  unfold dreS
  rw [h.n (q := 3) (by omega), h _ (by omega) (by omega)]
  congr 1
  exact itS_congr _ _ _ fun v s _ hv => by unfold drStep hadS; rw [h (475 + v) (by omega) (by omega), h (483 + v) (by omega) (by omega), h (491 + 8 * i + v) (by omega) (by omega)]
theorem bouS_c (hI : Inv D) (h : AgS D E) (club day : Int32) : bouS E club day = bouS D club day := by
  have b4 := hI.bars.2
  unfold bouS
  rw [h.n (q := 4) (by omega)]
  exact itS_congr _ _ _ fun v s _ hv => by unfold boStep boB; rw [h (619 + v) (by omega) (by omega), h (627 + v) (by omega) (by omega), h (635 + v) (by omega) (by omega), h (643 + v) (by omega) (by omega)]
theorem sntB_c (h : AgS D E) {i : Nat} (hi : i < 16) (day : Int32) : sntB E i day = sntB D i day := by
  simp (disch := omega) only [sntB, h _]
theorem wdS_c (h : AgS D E) {i : Nat} (hi : i < 16) : wdS E i = wdS D i := by
  simp (disch := omega) only [wdS, h _]
theorem wetB_c (hI : Inv D) (h : AgS D E) (day : Int32) : wetB E day = wetB D day := by
  have b6 := hI.wets.2
  unfold wetB
  rw [nD_eq (h 6 (by omega) (by omega))]
  exact anyS_congr _ _ fun v _ hv => by simp (disch := omega) only [h _]
theorem comB_c (hI : Inv D) (h : AgS D E) {i : Nat} (hi : i < nD D 2) (day : Int32) : comB E i day = comB D i day := by
  have b2 := hI.men.2
  have b1 := hI.wards.2
  have := (wdS_of hI hi).2
  unfold comB harB
  rw [sntB_c h (by omega), wdS_c h (by omega), wetB_c hI h]
  simp (disch := omega) only [h _]
theorem avB_c (h : AgS D E) {i y : Nat} (hy : y < 16) (day away : Int32) : avB E i day away y = avB D i day away y := by
  unfold avB
  rw [sntB_c h hy]
theorem frS_c (hI : Inv D) (h : AgS D E) {i : Nat} (hi : i < 16) (day away : Int32) : frS E i day away = frS D i day away := by
  have b2 := hI.men.2
  have : itS (mxStep E i day away) (nD D 2) 0 (-1, -1) = itS (mxStep D i day away) (nD D 2) 0 (-1, -1) := itS_congr _ _ _ fun y s _ hy => by
    unfold mxStep
    rw [avB_c h (by omega), dreS_c hI h hi (by omega)]
  unfold frS
  rw [h.n (q := 2) (by omega), this, h 11 (by omega) (by omega)]
theorem casS_c (hI : Inv D) (h : AgS D E) {i : Nat} (hi : i < nD D 2) (day away : Int32) : casS E i day away = casS D i day away := by
  have b2 := hI.men.2
  unfold casS
  rw [h (91 + i) (by omega) (by omega), bouS_c hI h, frS_c hI h (by omega), h.n (q := 2) (by omega)]
  split
  · rfl
  · rename_i hb
    rcases bouS_rng hI (D (91 + i)) day with hr | ⟨k, hk, hr⟩
    · rw [hr] at hb; exact absurd (by decide) hb
    · rw [hr, nI_clamp (by omega), avB_c h (by omega)]
      have : allS (loB E i k day away) (nD D 2) 0 = allS (loB D i k day away) (nD D 2) 0 := by
        rw [Bool.eq_iff_iff, allS_iff, allS_iff]
        have hlo : ∀ y, y < nD D 2 → loB E i k day away y = loB D i k day away y := by
          intro y hy
          unfold loB
          rw [avB_c h (by omega), dreS_c hI h (by omega) (by omega), dreS_c hI h (by omega) (by omega), h 10 (by omega) (by omega)]
        constructor
        · intro q y h1 h2; rw [← hlo y (by omega)]; exact q y h1 h2
        · intro q y h1 h2; rw [hlo y (by omega)]; exact q y h1 h2
      rw [this]
end AGS
def haF (how : Int32) : Bool := decide (iRem how 2 = 1)
def haW (how : Int32) : Bool := decide (how / 2 = 1)
theorem how_F {how : Int32} (h : isN how 4) : (how &&& 1 = 0) = (haF how = false) := by
  obtain ⟨k, hk, rfl⟩ := h
  rcases (by omega : k = 0 ∨ k = 1 ∨ k = 2 ∨ k = 3) with rfl | rfl | rfl | rfl <;> decide
theorem how_W {how : Int32} (h : isN how 4) : (how &&& 2 = 0) = (haW how = false) := by
  obtain ⟨k, hk, rfl⟩ := h
  rcases (by omega : k = 0 ∨ k = 1 ∨ k = 2 ∨ k = 3) with rfl | rfl | rfl | rfl <;> decide
/-- the sherd that man i scratches for man w -/
def scrD (E : DR) (i w : Nat) : DR := addD E (E (107 + w)) (if haF (E (155 + i)) then E (123 + w) else 0) (if haW (E (155 + i)) then E (75 + w) else -1) (E (23 + wdS E i)) 0 0 (E (139 + i))
def votS (C : Nat → Int32) (i : Nat) (E : DR) : DR := if C i < 0 then E else scrD E i (C i).toNatClampNeg
def cnS (C : Nat → Int32) : Nat → Nat → Nat
  | 0, _ => 0
  | k + 1, j => (if C j < 0 then 0 else 1) + cnS C k (j + 1)
theorem cnS_le (C : Nat → Int32) : ∀ k j, cnS C k j ≤ k := by
  intro k
  induction k with
  | zero => intro j; exact Nat.le_refl 0
  | succ k ih =>
    intro j
    have := ih (j + 1)
    show (if C j < 0 then 0 else 1) + cnS C k (j + 1) ≤ k + 1
    split <;> omega
section VOTE
variable {n : Nat} {st : Nat → Nat} {S : SH} {μ : MU} {x b m c : Nat} {D E : DR}
theorem scrD_ag {i w : Nat} (h : AgS D E) : AgS D (scrD E i w) := h.add _ _ _ _ _ _ _
theorem scrD_5 {i w : Nat} (h : nD E 5 < 40) : nD (scrD E i w) 5 = nD E 5 + 1 := nD_of (by simp [scrD, addD]) (by omega)
/-- a sherd is scratched -/
theorem k_scratch (hX : ShX S x) (hs : Sim μ (x + 1) E) (hI : Inv E) (h5 : nD E 5 < 40) {i w : Nat} (hi : i < nD E 2) (hw : w < nD E 2) : ∃ μ' : MU, f_X11_scratch (some x) (some (x + 1 + 22 + 2 * i)) (some (x + 1 + 22 + 2 * w)) (mkH n st S μ) = some (mkH n st S μ') ∧ Sim μ' (x + 1) (scrD E i w) ∧ Inv (scrD E i w) ∧ ∀ a j, ¬ a = x + 1 + 13 → ¬ a = x + 1 + 78 + nD E 5 → ¬ (a = x + 1 ∧ j = 12) → μ' a j = μ a j := by
  have hC := hX.city
  obtain ⟨e0, b0⟩ := hI.today
  obtain ⟨e1, b1⟩ := hI.wards
  obtain ⟨e2, b2⟩ := hI.men
  obtain ⟨e3, b3⟩ := hI.words
  obtain ⟨e4, b4⟩ := hI.bars
  obtain ⟨e5, b5⟩ := hI.shes
  obtain ⟨e6, b6⟩ := hI.wets
  obtain ⟨e8, b8⟩ := hI.heaped
  have z0 := hs.today
  have z1 := hs.wardN
  have z2 := hs.manN
  have z3 := hs.wordN
  have z4 := hs.barN
  have z5 := hs.sheN
  have z6 := hs.wetN
  have z8 := hs.heapN
  have m0 := hs.man i 0 hi (by omega)
  have m4 := hs.man i 4 hi (by omega)
  have m5 := hs.man i 5 hi (by omega)
  have w0 := hs.man w 0 hw (by omega)
  have w2 := hs.man w 2 hw (by omega)
  have w3 := hs.man w 3 hw (by omega)
  simp only [Nat.reduceMul, Nat.reduceAdd] at m0 m4 m5 w0 w2 w3
  obtain ⟨q1, q2⟩ := wdS_of hI hi
  have t0 := hs.tribe (wdS E i) q2
  have hF := how_F (hI.mHow i hi)
  have hW := how_W (hI.mHow i hi)
  obtain ⟨μA, g1, gN, gV, g9, g10⟩ := k_sheB (n := n) (st := st) (μ := μ) hC h5 (E (107 + w)) (if haF (E (155 + i)) then E (123 + w) else 0) (if haW (E (155 + i)) then E (75 + w) else -1) (E (23 + wdS E i))
  obtain ⟨μB, hB⟩ : ∃ q, q = up2 μA (x + 1 + 78 + nD E 5) 6 (E (139 + i)) := ⟨_, rfl⟩
  have aN : ∀ a j, ¬ a = x + 1 + 78 + nD E 5 → μB a j = μ a j := fun a j h => by rw [hB, up2_ne (by omega), gN a j h]
  obtain ⟨μ1, f1, fn, f12, fv, f7, f9, f10⟩ := k_addSherd (n := n) (st := st) hC hs hI h5 aN (by rw [hB, up2_ne (by omega), gV 0 (by omega)]; exact hI.mName w hw) (by rw [hB, up2_ne (by omega), g9]) (by rw [hB, up2_ne (by omega), g10])
  have f48 : b_X11_scratch_48 (some x) (some (x + 1 + 22 + 2 * i)) (some (x + 1 + 22 + 2 * w)) (some (x + 1 + 78 + nD E 5)) (if haF (E (155 + i)) then E (123 + w) else 0) (if haW (E (155 + i)) then E (75 + w) else -1) (mkH n st S μ) = some (mkH n st S μ1) := by
    have a4 : μA (x + 1 + 22 + 2 * i) 4 = E (139 + i) := by rw [gN _ _ (by omega), m4]
    simp (disch := omega) only [b_X11_scratch_48, oManI hC, some_bind, xR0 hX, cR3 hC, m0, q1, cEwards hC, oWardI hC, t0, w2, oSheK hC, g1, a4, oSheP hC]
    rw [← hB]
    simp only [cck hC, f1, some_bind]
  have fx : f_X11_scratch (some x) (some (x + 1 + 22 + 2 * i)) (some (x + 1 + 22 + 2 * w)) (mkH n st S μ) = some (mkH n st S μ1) := by
    rw [← f48]
    have fF : f_X5_writesFathers (some (x + 1 + 22 + 2 * i)) (mkH n st S μ) = some (bI (haF (E (155 + i)))) := by
      simp (disch := omega) only [f_X5_writesFathers, oManI hC, some_bind, m5, hF]
      cases haF (E (155 + i)) <;> rfl
    have fW : f_X5_writesWards (some (x + 1 + 22 + 2 * i)) (mkH n st S μ) = some (bI (haW (E (155 + i)))) := by
      simp (disch := omega) only [f_X5_writesWards, oManI hC, some_bind, m5, hW]
      cases haW (E (155 + i)) <;> rfl
    have f31 : ∀ f : Int32, b_X11_scratch_31 (some x) (some (x + 1 + 22 + 2 * i)) (some (x + 1 + 22 + 2 * w)) (some (x + 1 + 78 + nD E 5)) f (mkH n st S μ) = b_X11_scratch_48 (some x) (some (x + 1 + 22 + 2 * i)) (some (x + 1 + 22 + 2 * w)) (some (x + 1 + 78 + nD E 5)) f (if haW (E (155 + i)) then E (75 + w) else -1) (mkH n st S μ) := by
      intro f
      simp (disch := omega) only [b_X11_scratch_31, oManK hC, fW, some_bind, ite_bI0, oManI hC, w0]
      cases haW (E (155 + i)) <;> rfl
    simp (disch := omega) only [f_X11_scratch, xR0 hX, some_bind, cR11 hC, cI12 hC, z5, e5, cEsherds hC, oManK hC, fF, ite_bI0, oManI hC, w3, f31]
    cases haF (E (155 + i)) <;> rfl
  have d0 : addD E (E (107 + w)) (if haF (E (155 + i)) then E (123 + w) else 0) (if haW (E (155 + i)) then E (75 + w) else -1) (E (23 + wdS E i)) 0 0 (E (139 + i)) = scrD E i w := rfl
  have hfin := sherd_sim (μ2 := μ1) (D2 := scrD E i w) (a1 := E (107 + w)) (a2 := if haF (E (155 + i)) then E (123 + w) else 0) (a3 := if haW (E (155 + i)) then E (75 + w) else -1) (a4 := E (23 + wdS E i)) (a5 := 0) (rd := 0) (hd := E (139 + i)) hs hI h5 (fun a j h1 h2 h3 _ => fn a j h1 h2 h3) f12 (by
    intro j hj
    by_cases h7 : j = 7
    · subst h7; rw [f7]; rfl
    · rw [fv j hj h7, hB]
      rcases (by omega : j = 0 ∨ j = 1 ∨ j = 2 ∨ j = 3 ∨ j = 4 ∨ j = 5 ∨ j = 6 ∨ j = 8) with rfl | rfl | rfl | rfl | rfl | rfl | rfl | rfl
      all_goals simp (disch := omega) only [up2_ne, up2_same, gV]; rfl) (by
    rw [f9]
    congr 1
    refine biN_congr _ fun k hk => ?_
    simp (disch := omega) only [exM, hisM, fv, aN, fn]) (by
    rw [f10]
    congr 1
    refine biN_congr _ fun k hk => ?_
    simp (disch := omega) only [neM, hisM, fv, aN, fn]) (by
    intro q h1 h2
    rw [← d0, addD, if_neg h1, if_neg h2]) (by
    intro j hj
    rw [← d0, addD, if_neg (by omega), if_pos (by omega), show (651 + 40 * j + nD E 5 - 651) / 40 = j from by omega]) (by rw [← d0, addD, if_pos rfl]) (hI.mName w hw) (by
    split
    · exact Or.inr (hI.mFat w hw)
    · exact Or.inl rfl) (by
    split
    · obtain ⟨k, hk, e⟩ := hI.mWard w hw
      exact Or.inr ⟨k, by omega, e⟩
    · exact Or.inl rfl) (by
    obtain ⟨k, hk, e⟩ := hI.tribe _ q2
    exact Or.inr ⟨k, by omega, e⟩) (Or.inl rfl) ⟨0, by omega, rfl⟩ (hI.mHand i hi)
  exact ⟨μ1, fx, hfin.1, hfin.2, fn⟩
/-- the class scratches all that are cast -/
theorem k_voteL (hX : ShX S x) (hI0 : Inv D) {C : Nat → Int32} (hC' : ∀ i, i < nD D 2 → isO (C i) (nD D 2)) (made : Int32) : ∀ k j fu (μ1 : MU) (E : DR), j + k = nD D 2 → k < fu → AgS D E → Sim μ1 (x + 1) E → Inv E → nD E 5 + cnS C k j ≤ 40 → (∀ i, i < nD D 2 → μ1 (x + 165) i = C i) → ∃ μ' : MU, b_X11_vote_65 fu (some x) made (nI j) (mkH n st S μ1) = some (made, mkH n st S μ') ∧ Sim μ' (x + 1) (itS (votS C) k j E) ∧ Inv (itS (votS C) k j E) ∧ ∀ a q, ¬ a = x + 1 + 13 → ¬ (x + 1 + 78 ≤ a ∧ a < x + 1 + 118) → ¬ (a = x + 1 ∧ q = 12) → μ' a q = μ1 a q := by
  have hC := hX.city
  obtain ⟨e2, b2⟩ := hI0.men
  intro k
  induction k with
  | zero =>
    intro j fu μ1 E hj hf hA hs hI h40 hc
    obtain ⟨fu, rfl⟩ : ∃ q, fu = q + 1 := ⟨fu - 1, by omega⟩
    obtain rfl : j = nD D 2 := by omega
    have z2 : μ1 (x + 1) 6 = nI (nD D 2) := by rw [hs.manN, hA 2 (by omega) (by omega), e2]
    exact ⟨μ1, by simp (disch := omega) only [b_X11_vote_65, xR0 hX, some_bind, cI6 hC, z2, nn_lt, natF, if_false, Bool.false_eq_true], hs, hI, fun _ _ _ _ _ => rfl⟩
  | succ k ih =>
    intro j fu μ1 E hj hf hA hs hI h40 hc
    obtain ⟨fu, rfl⟩ : ∃ q, fu = q + 1 := ⟨fu - 1, by omega⟩
    have z2 : μ1 (x + 1) 6 = nI (nD D 2) := by rw [hs.manN, hA 2 (by omega) (by omega), e2]
    have n2 : nD E 2 = nD D 2 := hA.n (by omega)
    have hcj := hc j (by omega)
    have h40' : nD E 5 + ((if C j < 0 then 0 else 1) + cnS C k (j + 1)) ≤ 40 := h40
    by_cases h0 : C j < 0
    · rw [if_pos h0] at h40'
      obtain ⟨μ', g1, g2, g3, g4⟩ := ih (j + 1) fu μ1 E (by omega) (by omega) hA hs hI (by omega) hc
      have ev : itS (votS C) (k + 1) j E = itS (votS C) k (j + 1) E := by
        show itS (votS C) k (j + 1) (votS C j E) = _
        rw [votS, if_pos h0]
      rw [ev]
      refine ⟨μ', ?_, g2, g3, g4⟩
      rw [← g1]
      simp (disch := omega) only [b_X11_vote_65, xR0 hX, some_bind, cI6 hC, z2, nn_lt, natT, if_true, xR5 hX, xACas hX, hcj, h0, nI_1]
    · rw [if_neg h0] at h40'
      rcases hC' j (by omega) with hr | ⟨w, hw, hr⟩
      · rw [hr] at h0; exact absurd (by decide) h0
      · obtain ⟨μ2, f1, f2, f3, f4⟩ := k_scratch (n := n) (st := st) hX hs hI (by omega) (i := j) (w := w) (by omega) (by omega)
        have ev : itS (votS C) (k + 1) j E = itS (votS C) k (j + 1) (scrD E j w) := by
          show itS (votS C) k (j + 1) (votS C j E) = _
          rw [votS, if_neg h0, hr, nI_clamp (by omega)]
        rw [ev]
        obtain ⟨μ', g1, g2, g3, g4⟩ := ih (j + 1) fu μ2 (scrD E j w) (by omega) (by omega) (scrD_ag hA) f2 f3 (by rw [scrD_5 (by omega)]; omega) (fun i hi => by rw [f4 _ _ (by omega) (by omega) (by omega)]; exact hc i hi)
        refine ⟨μ', ?_, g2, g3, fun a q h1 h2 h3 => by rw [g4 a q h1 h2 h3, f4 a q h1 (by omega) h3]⟩
        rw [← g1]
        rw [hr] at h0 hcj
        simp (disch := omega) only [b_X11_vote_65, xR0 hX, some_bind, cI6 hC, z2, nn_lt, natT, if_true, xR5 hX, xACas hX, hcj, h0, if_false, cR5 hC, cEmen hC, xck hX, f1, nI_1, Bool.false_eq_true]
theorem k_voteN (hX : ShX S x) (hs : Sim μ (x + 1) D) (hI : Inv D) {C : Nat → Int32} (hc : ∀ i, i < nD D 2 → μ (x + 165) i = C i) : ∀ k j fu z, j + k = nD D 2 → k < fu → z ≤ j → b_X11_vote_17 fu (some x) (nI z) (nI j) (mkH n st S μ) = if 40 < nD D 5 + (z + cnS C k j) then some (-2, mkH n st S μ) else b_X11_vote_65 FU (some x) (nI (z + cnS C k j)) 0 (mkH n st S μ) := by
  have hC := hX.city
  obtain ⟨e0, b0⟩ := hI.today
  obtain ⟨e1, b1⟩ := hI.wards
  obtain ⟨e2, b2⟩ := hI.men
  obtain ⟨e3, b3⟩ := hI.words
  obtain ⟨e4, b4⟩ := hI.bars
  obtain ⟨e5, b5⟩ := hI.shes
  obtain ⟨e6, b6⟩ := hI.wets
  obtain ⟨e8, b8⟩ := hI.heaped
  have z0 := hs.today
  have z1 := hs.wardN
  have z2 := hs.manN
  have z3 := hs.wordN
  have z4 := hs.barN
  have z5 := hs.sheN
  have z6 := hs.wetN
  have z8 := hs.heapN
  intro k
  induction k with
  | zero =>
    intro j fu z hj hf hz
    obtain ⟨fu, rfl⟩ : ∃ q, fu = q + 1 := ⟨fu - 1, by omega⟩
    obtain rfl : j = nD D 2 := by omega
    show _ = if 40 < nD D 5 + (z + 0) then _ else b_X11_vote_65 FU (some x) (nI (z + 0)) 0 _
    simp only [Nat.add_zero]
    simp (disch := omega) only [b_X11_vote_17, xR0 hX, some_bind, cI6 hC, z2, e2, nn_lt, natF, if_false, cI12 hC, z5, e5, nI_add, lit_gt, Bool.false_eq_true]
  | succ k ih =>
    intro j fu z hj hf hz
    obtain ⟨fu, rfl⟩ : ∃ q, fu = q + 1 := ⟨fu - 1, by omega⟩
    have hcj := hc j (by omega)
    show _ = if 40 < nD D 5 + (z + ((if C j < 0 then 0 else 1) + cnS C k (j + 1))) then _ else b_X11_vote_65 FU (some x) (nI (z + ((if C j < 0 then 0 else 1) + cnS C k (j + 1)))) 0 _
    by_cases h0 : C j < 0
    · simp (disch := omega) only [b_X11_vote_17, xR0 hX, some_bind, cI6 hC, z2, e2, nn_lt, natT, if_true, xR5 hX, xACas hX, hcj, h0, nI_1]
      rw [ih (j + 1) fu z (by omega) (by omega) (by omega), Nat.zero_add]
    · simp (disch := omega) only [b_X11_vote_17, xR0 hX, some_bind, cI6 hC, z2, e2, nn_lt, natT, if_true, xR5 hX, xACas hX, hcj, h0, if_false, nI_1, Bool.false_eq_true]
      rw [ih (j + 1) fu (z + 1) (by omega) (by omega) (by omega), Nat.add_assoc z 1]
/-- the reference's vote -/
theorem r_voteN (hS : ShM S m) (hD : μ (m + 1) = D) (hI : Inv D) : ∀ k j fu z, j + k = nD D 2 → k < fu → z ≤ j → b_X12_vote_4 fu (some m) (nI z) (nI j) (mkH n st S μ) = if 40 < nD D 5 + (z + cnS (fun i => drS D i (D 0) (-1) false) k j) then some (-2, mkH n st S μ) else b_X12_vote_75 FU (some m) (nI (z + cnS (fun i => drS D i (D 0) (-1) false) k j)) 0 (mkH n st S μ) := by
  obtain ⟨e0, b0⟩ := hI.today
  obtain ⟨e1, b1⟩ := hI.wards
  obtain ⟨e2, b2⟩ := hI.men
  obtain ⟨e3, b3⟩ := hI.words
  obtain ⟨e4, b4⟩ := hI.bars
  obtain ⟨e5, b5⟩ := hI.shes
  obtain ⟨e6, b6⟩ := hI.wets
  obtain ⟨e8, b8⟩ := hI.heaped
  have n1 : ∀ j : Nat, j < 16 → ¬ nI j = (-1 : Int32) := fun j hj h => by
    have := congrArg (fun q : Int32 => decide (q < 0)) h
    rw [show decide ((-1 : Int32) < 0) = true from by decide, decide_eq_true_eq] at this
    exact nI_pos (by omega) this
  intro k
  induction k with
  | zero =>
    intro j fu z hj hf hz
    obtain ⟨fu, rfl⟩ : ∃ q, fu = q + 1 := ⟨fu - 1, by omega⟩
    obtain rfl : j = nD D 2 := by omega
    show _ = if 40 < nD D 5 + (z + 0) then _ else b_X12_vote_75 FU (some m) (nI (z + 0)) 0 _
    simp only [Nat.add_zero]
    simp (disch := omega) only [b_X12_vote_4, mR0 hS, some_bind, lit_aI, mA0 hS, hD, e2, nn_lt, natF, if_false, e5, nI_add, lit_gt, Bool.false_eq_true]
  | succ k ih =>
    intro j fu z hj hf hz
    obtain ⟨fu, rfl⟩ : ∃ q, fu = q + 1 := ⟨fu - 1, by omega⟩
    show _ = if 40 < nD D 5 + (z + ((if drS D j (D 0) (-1) false < 0 then 0 else 1) + cnS _ k (j + 1))) then _ else b_X12_vote_75 FU (some m) (nI (z + ((if drS D j (D 0) (-1) false < 0 then 0 else 1) + cnS _ k (j + 1)))) 0 _
    have i0 := ih (j + 1) fu z (by omega) (by omega) (by omega)
    have i1 := ih (j + 1) fu (z + 1) (by omega) (by omega) (by omega)
    by_cases hcm : comB D j (D 0) = true
    · have hd : drS D j (D 0) (-1) false = casS D j (D 0) (-1) := by
        simp only [drS, thrS, n1 j (by omega), hcm, decide_false, Bool.not_false, Bool.true_and, if_true, payS, Bool.false_eq_true, if_false]
        rw [if_pos (by decide)]
      rw [hd]
      by_cases h0 : casS D j (D 0) (-1) < 0
      · simp (disch := omega) only [b_X12_vote_4, mR0 hS, some_bind, lit_aI, mA0 hS, hD, nn_lt, natT, if_true, rck hS, r_doesCome hS hD hI (i := j) (by omega), ite_bI0, hcm, r_castOf hS hD hI (i := j) (by omega), h0, b_X12_vote_49, nI_1]
        rw [e2]
        simp (disch := omega) only [nn_lt, natT, if_true]
        rw [show nI z + 0 = nI z from nI_add z 0, i0, Nat.zero_add]
      · simp (disch := omega) only [b_X12_vote_4, mR0 hS, some_bind, lit_aI, mA0 hS, hD, nn_lt, natT, if_true, rck hS, r_doesCome hS hD hI (i := j) (by omega), ite_bI0, hcm, r_castOf hS hD hI (i := j) (by omega), h0, if_false, b_X12_vote_49, nI_1, Bool.false_eq_true]
        rw [e2]
        simp (disch := omega) only [nn_lt, natT, if_true]
        rw [i1, Nat.add_assoc z 1]
    · have hd : drS D j (D 0) (-1) false = -1 := by simp [drS, thrS, hcm]
      have hm1 : (if (-1 : Int32) < 0 then 0 else 1) = 0 := if_pos (by decide)
      rw [hd, hm1]
      simp (disch := omega) only [b_X12_vote_4, mR0 hS, some_bind, lit_aI, mA0 hS, hD, nn_lt, natT, if_true, rck hS, r_doesCome hS hD hI (i := j) (by omega), ite_bI0, hcm, if_false, b_X12_vote_49, nI_1, Bool.false_eq_true]
      rw [e2]
      simp (disch := omega) only [nn_lt, natT, if_true]
      rw [show nI z + 0 = nI z from nI_add z 0, i0, Nat.zero_add]
end VOTE
