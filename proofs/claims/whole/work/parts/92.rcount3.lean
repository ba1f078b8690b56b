section RCOUNT3
variable {n : Nat} {st : Nat → Nat} {S : SH} {μ : MU} {x b m c l : Nat} {D : DR}
theorem r_ct7 (hS : ShM S m) (k : Int32) : ∀ q j fu (μ : MU), j + q = 16 → q < fu → b_X12_countAt_7 fu (some m) k (nI j) (mkH n st S μ) = b_X12_countAt_35 FU (some m) k 0 (mkH n st S (filR (filR μ (m + 10) j 16 0) (m + 11) j 16 0)) := by
  intro q
  induction q with
  | zero =>
    intro j fu μ hj hf
    obtain ⟨fu, rfl⟩ : ∃ q, fu = q + 1 := ⟨fu - 1, by omega⟩
    obtain rfl : j = 16 := by omega
    rw [filR_nil, filR_nil]
    simp (disch := omega) only [b_X12_countAt_7, lit_lt, natF, if_false]
  | succ q ih =>
    intro j fu μ hj hf
    obtain ⟨fu, rfl⟩ : ∃ q, fu = q + 1 := ⟨fu - 1, by omega⟩
    have e : filR (filR (up2 (up2 μ (m + 10) j 0) (m + 11) j 0) (m + 10) (j + 1) 16 0) (m + 11) (j + 1) 16 0 = filR (filR μ (m + 10) j 16 0) (m + 11) j 16 0 := by
      funext a i
      unfold filR up2
      by_cases h1 : a = m + 11 ∧ j + 1 ≤ i ∧ i < 16
      · rw [if_pos h1, if_pos (by omega)]
      · rw [if_neg h1]
        by_cases h2 : a = m + 10 ∧ j + 1 ≤ i ∧ i < 16
        · rw [if_pos h2, if_neg (by omega), if_pos (by omega)]
        · rw [if_neg h2]
          by_cases h3 : a = m + 11 ∧ i = j
          · rw [if_pos h3, if_pos (by omega)]
          · rw [if_neg h3]
            by_cases h4 : a = m + 10 ∧ i = j
            · rw [if_pos h4, if_neg (by omega), if_pos (by omega)]
            · rw [if_neg h4, if_neg (by omega), if_neg (by omega)]
    simp (disch := omega) only [b_X12_countAt_7, lit_lt, natT, if_true, mR19 hS, some_bind, mS19 hS, mR20 hS, mS20 hS, nI_1]
    rw [ih (j + 1) fu _ (by omega) (by omega), e]
theorem cLs_lt (D : DR) (g : Nat → Bool) {j : Nat} (hj : j ≤ 40) (i : Nat) : cLs D g j i < 2 ^ 30 := by
  have := cntB_le (fun s => g s && (surB D s && (meS D s).testBit i)) j 0
  unfold cLs
  omega
theorem cGs_lt (hI : Inv D) (g : Nat → Bool) (i : Nat) : cGs D g (nD D 5) i < 2 ^ 16 := by
  refine Nat.lt_of_lt_of_le (orK_lt (w := 5) (nD D 5) fun s hs => ?_) (by decide)
  split
  · exact gbS_lt hI hs
  · exact Nat.two_pow_pos 5
/-- all that the reference reckons of a day -/
theorem r_countAt (hS : ShM S m) (hm : x ≤ m) (hB : BaseOK st S μ x b) (hD : μ (m + 1) = D) (hI : Inv D) {μc : MU} {Lw : Nat} (hU : LawU μc Lw (lawT D) (lawN D)) (k : Int32) : ∃ μ', f_X12_countAt (some m) k (mkH n st S μ) = some (mkH n st S μ') ∧ CtOK μ' m D (kgS D (lawT D) (lawN D) k) (nD D 5) ∧ μ' m 23 = fiS (cLs D (kgS D (lawT D) (lawN D) k) (nD D 5)) (nD D 2) ∧ μ' m 24 = nI (seS (cLs D (kgS D (lawT D) (lawN D) k) (nD D 5)) (nD D 2) (fiS (cLs D (kgS D (lawT D) (lawN D) k) (nD D 5)) (nD D 2))) ∧ μ' m 25 = nI (trN (cGs D (kgS D (lawT D) (lawN D) k) (nD D 5)) (fiS (cLs D (kgS D (lawT D) (lawN D) k) (nD D 5)) (nD D 2))) ∧ μ' m 26 = goS (lawT D) (lawN D) (cntB (kgS D (lawT D) (lawN D) k) (nD D 5) 0) (cLs D (kgS D (lawT D) (lawN D) k) (nD D 5)) (cGs D (kgS D (lawT D) (lawN D) k) (nD D 5)) (nD D 2) ∧ FrC m μ μ' := by
  have b5 := hI.shes.2
  have b2 := hI.men.2
  obtain ⟨g, hg⟩ : ∃ g, g = kgS D (lawT D) (lawN D) k := ⟨_, rfl⟩
  obtain ⟨fu, hfu, hfl⟩ : ∃ q, FU = q ∧ 301 < q := ⟨FU, rfl, by decide⟩
  obtain ⟨μ0, h0⟩ : ∃ q, q = filR (filR (up2 μ m 22 0) (m + 10) 0 16 0) (m + 11) 0 16 0 := ⟨_, rfl⟩
  have hF0 : FrC m μ μ0 := fun a i q1 q2 => by rw [h0, filR_ne (by omega), filR_ne (by omega), up2_ne (by omega)]
  have hC0 : CtOK μ0 m D g 0 := by
    refine ⟨by rw [h0, filR_ne (by omega), filR_ne (by omega), up2_same]; rfl, fun i hi => ⟨?_, ?_⟩, fun s hs => absurd hs (by omega)⟩
    · rw [h0, filR_ne (by omega), filR_in (by omega) (by omega)]; rfl
    · rw [h0, filR_in (by omega) (by omega)]; rfl
  rw [hg] at hC0
  have hB0 := hB.congr (S' := S) (μ' := μ0) (fun _ _ => rfl) (fun a i h => hF0 a i (by omega) (by omega))
  obtain ⟨μ1, r1, r2, r3⟩ := r_ct35 (n := n) (st := st) (x := x) (b := b) hS hm hI hU k (nD D 5) 0 fu μ0 hB0 (by funext q; rw [hF0 _ _ (by omega) (by omega), hD]) hC0 (by omega) (by omega)
  have hD1 : μ1 (m + 1) = D := by funext q; rw [r3 _ _ (by omega) (by omega), hF0 _ _ (by omega) (by omega), hD]
  rw [← hg] at r2 ⊢
  have hL : ∀ i, i < nD D 2 → cLs D g (nD D 5) i < 2 ^ 30 := fun i _ => cLs_lt D g b5 i
  obtain ⟨μ2, w1, w2, w3, w4⟩ := r_rank (n := n) (st := st) hS hI hD1 hL (fun i hi => (r2.2.1 i hi).1)
  have hr := fiS_rng (cLs D g (nD D 5)) (nD D 2)
  have hB2 : BaseOK st S μ2 x b := hB0.congr (fun _ _ => rfl) (fun a i h => by rw [w4 a i (by omega), r3 a i (by omega) (by omega)])
  obtain ⟨μ3, v1, v2, v3, v4⟩ := r_ct221 (n := n) (st := st) (x := x) (b := b) hS hm hI hU (g := g) hr (tot := cntB g (nD D 5) 0) (se := seS (cLs D g (nD D 5)) (nD D 2) (fiS (cLs D g (nD D 5)) (nD D 2))) hL (nD D 5) 0 fu μ2 hB2 (by funext q; rw [w4 _ _ (by omega), hD1]) (fun s hs => by rw [w4 _ _ (by omega)]; exact r2.2.2 s hs) (by rw [w4 _ _ (by omega)]; exact r2.1) w2 w3 (fun i hi => by rw [w4 _ _ (by omega)]; exact (r2.2.1 i hi).1) (by omega) (by omega)
  refine ⟨μ3, ?_, ⟨?_, ?_, ?_⟩, ?_, ?_, v2, v3, ?_⟩
  · have c7 := r_ct7 (n := n) (st := st) hS k 16 0 fu (up2 μ m 22 0) (by omega) (by omega)
    rw [← h0] at c7
    have e0 : (if fiS (cLs D g (nD D 5)) (nD D 2) < 0 then 0 else cGs D g 0 (fiS (cLs D g (nD D 5)) (nD D 2)).toNatClampNeg) = 0 := by split <;> rfl
    rw [e0] at v1
    have c0 : f_X12_countAt (some m) k (mkH n st S μ) = b_X12_countAt_7 fu (some m) k (nI 0) (mkH n st S (up2 μ m 22 0)) := by
      rw [← hfu]
      simp only [f_X12_countAt, mP22 hS, some_bind]
      rfl
    rw [c0, c7, hfu]
    refine Eq.trans r1 ?_
    rw [w1, some_bind, hfu]
    exact v1
  · rw [v4 _ _ (by omega) (by omega), w4 _ _ (by omega)]; exact r2.1
  · intro i hi
    rw [v4 _ _ (by omega) (by omega), w4 _ _ (by omega), v4 _ _ (by omega) (by omega), w4 _ _ (by omega)]; exact r2.2.1 i hi
  · intro s hs
    rw [v4 _ _ (by omega) (by omega), w4 _ _ (by omega)]; exact r2.2.2 s hs
  · rw [v4 _ _ (by omega) (by omega)]; exact w2
  · rw [v4 _ _ (by omega) (by omega)]; exact w3
  · intro a i q1 q2
    rw [v4 a i (by omega) (by omega), w4 a i (by omega), r3 a i q1 q2, hF0 a i q1 q2]
end RCOUNT3
