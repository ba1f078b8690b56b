section SHERDOF
variable {n : Nat} {st : Nat → Nat} {S : SH} {μ : MU} {x b m c l : Nat} {T : Nat → Int32} {N : Nat} {D : DR}
theorem op_sherdOf (hR : R n st S μ x b) (a1 a2 : Int32) : Res (f_X11_sherdOf (some x) a1 a2) (f_X12_sherdOf (some (x + 175)) a1 a2) n st S μ x b := by
  have hR' := hR
  obtain ⟨⟨hX, hS, hs, hI, hL0⟩, hRest⟩ := hR
  have hC := hX.city
  have hBase := hRest.2.2.2.1
  obtain ⟨D, hD⟩ : ∃ D, μ (x + 175 + 1) = D := ⟨_, rfl⟩
  replace hs : Sim μ (x + 1) (μ (x + 175 + 1)) := hs
  replace hI : Inv (μ (x + 175 + 1)) := hI
  rw [hD] at hs hI
  obtain ⟨e0, b0⟩ := hI.today
  obtain ⟨e1, b1⟩ := hI.wards
  obtain ⟨e2, b2⟩ := hI.men
  obtain ⟨e3, b3⟩ := hI.words
  obtain ⟨e4, b4⟩ := hI.bars
  obtain ⟨e5, b5⟩ := hI.shes
  obtain ⟨e6, b6⟩ := hI.wets
  obtain ⟨e8, b8⟩ := hI.heaped
  have z0 := hs.today
  have z1 := hs.wardN
  have z2 := hs.manN
  have z3 := hs.wordN
  have z4 := hs.barN
  have z5 := hs.sheN
  have z6 := hs.wetN
  have z8 := hs.heapN
  have hU := lawU_now hs hI hL0
  have hlA := lawA_lt hI
  have hLw := hC.law (lawA D) hlA
  have hlN := k_lawNow (n := n) (st := st) hC hs hI
  by_cases c1 : ixB a1 (nD D 5) = true
  case neg => exact Res.same hR' (-1) (by simp only [f_X11_sherdOf, xR0 hX, some_bind, cck hC, k_hasSherd hC hs hI, c1, ite_bI0, if_false, Bool.false_eq_true]) (by simp only [f_X12_sherdOf, rck hS, some_bind, r_isSherd hS hD hI, c1, ite_bI0, if_false, Bool.false_eq_true])
  obtain ⟨s, h5, rfl⟩ := ixB_ex (by omega) c1
  by_cases c2 : inS a2 0 11 = true
  case neg =>
    have c2' : a2 < 0 ∨ 11 < a2 := by
      simp only [inS, decide_eq_true_eq] at c2
      by_cases h : a2 < 0
      · exact Or.inl h
      · right
        by_cases h2 : 11 < a2
        · exact h2
        · exact absurd ⟨h, h2⟩ c2
    exact Res.same hR' (-1) (by simp (disch := omega) only [f_X11_sherdOf, xR0 hX, some_bind, cck hC, k_hasSherd hC hs hI, c1, ite_bI0, if_true, cR11 hC, cEsherds hC, c2']) (by simp only [f_X12_sherdOf, rck hS, some_bind, r_isSherd hS hD hI, c1, ite_bI0, if_true, s_in, c2, if_false, Bool.false_eq_true])
  obtain ⟨k, hk, rfl⟩ := inS_n (M := 11) (by omega) c2
  have hx : ∀ v : Int32, (∀ q, q = f_X11_sherdOf (some x) (nI s) (nI k) (mkH n st S μ) → q = q) := fun _ _ _ => rfl
  have q0 := hs.she s 0 h5 (by omega)
  have q1 := hs.she s 1 h5 (by omega)
  have q2 := hs.she s 2 h5 (by omega)
  have q3 := hs.she s 3 h5 (by omega)
  have q4 := hs.she s 4 h5 (by omega)
  have q5 := hs.she s 5 h5 (by omega)
  have q6 := hs.she s 6 h5 (by omega)
  have q7 := hs.she s 7 h5 (by omega)
  have q8 := hs.she s 8 h5 (by omega)
  simp only [Nat.reduceMul, Nat.reduceAdd] at q0 q1 q2 q3 q4 q5 q6 q7 q8
  have kM := k_meant (n := n) (st := st) hC hs hI h5
  have kH := k_howMeant (n := n) (st := st) hC hs hI h5
  obtain ⟨r6, hr6⟩ : ∃ q, D (851 + s) = bI q := by
    obtain ⟨k, hk, e⟩ := hI.sRdy s h5
    rcases (by omega : k = 0 ∨ k = 1) with rfl | rfl
    · exact ⟨false, e⟩
    · exact ⟨true, e⟩
  have hX0 : f_X11_sherdOf (some x) (nI s) (nI k) (mkH n st S μ) = f_X11_sherdOf (some x) (nI s) (nI k) (mkH n st S μ) := rfl
  have ev : ∀ i : Nat, (nI k = nI i) = (k = i ∨ nI k = nI i ∧ ¬ k = i) := fun i => by
    apply propext
    constructor
    · intro h
      by_cases e : k = i
      · exact Or.inl e
      · exact Or.inr ⟨h, e⟩
    · intro h
      rcases h with h | h
      · rw [h]
      · exact h.1
  rcases (by omega : k = 0 ∨ k = 1 ∨ k = 2 ∨ k = 3 ∨ k = 4 ∨ k = 5 ∨ k = 6 ∨ k = 7 ∨ k = 8 ∨ k = 9 ∨ k = 10 ∨ k = 11) with rfl | rfl | rfl | rfl | rfl | rfl | rfl | rfl | rfl | rfl | rfl | rfl
  · sorry
  · sorry
  · sorry
  · sorry
  · sorry
  · sorry
  · sorry
  · sorry
  · sorry
  · sorry
  · sorry
  · sorry
end SHERDOF
