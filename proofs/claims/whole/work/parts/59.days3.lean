section DAYS3
variable {n : Nat} {st : Nat → Nat} {S : SH} {μ : MU} {x b m c : Nat} {D : DR}
def FrD (c : Nat) (μ μ' : MU) : Prop := ∀ a i, ¬ (c + 55 ≤ a ∧ a < c + 70) → ¬ (a = c ∧ i = 0) → μ' a i = μ a i
theorem r_days (hS : ShM S m) (hI : Inv D) (hD : μ (m + 1) = D) {N : Nat} (hN : nD D 0 + N ≤ 9999) : ∀ k j fu, j + k = N → k < fu → b_X12_days_32 fu (some m) (nI N) (nI j) (mkH n st S (setR μ (m + 1) (itP j D))) = some (nI (nD D 0 + N), mkH n st S (setR μ (m + 1) (itP N D))) := by
  intro k
  induction k with
  | zero =>
    intro j fu hj hf
    obtain ⟨fu, rfl⟩ : ∃ q, fu = q + 1 := ⟨fu - 1, by omega⟩
    obtain rfl : j = N := by omega
    have q6 : ¬ nI j < nI j := nI_nlt (by omega) (by omega)
    simp (disch := omega) only [b_X12_days_32, q6, if_false, mR0 hS, some_bind, lit_aI, mA0 hS, setR_same, itP_0 hI]
  | succ k ih =>
    intro j fu hj hf
    obtain ⟨fu, rfl⟩ : ∃ q, fu = q + 1 := ⟨fu - 1, by omega⟩
    have q6 : nI j < nI N := nI_lt (by omega) (by omega)
    have hp := r_passes (n := n) (st := st) (μ := setR μ (m + 1) (itP j D)) hS (itP_inv hI j (by omega)) setR_row
    have hss : setR (setR μ (m + 1) (itP j D)) (m + 1) (pasD (itP j D)) = setR μ (m + 1) (itP (j + 1) D) := by
      funext a i
      by_cases h : a = m + 1
      · subst h; rw [setR_same, setR_same]; rfl
      · rw [setR_ne h, setR_ne h, setR_ne h]
    rw [hss] at hp
    simp (disch := omega) only [b_X12_days_32, q6, if_true, rck hS, hp, some_bind, nI_1]
    exact ih (j + 1) fu (by omega) (by omega)
theorem k_days (hX : ShX S x) (hI : Inv D) {N : Nat} (hN : nD D 0 + N ≤ 9999) (hN4 : N ≤ 400) : ∀ k j fu s (μ1 : MU), j + k = N → k < fu → Sim μ1 (x + 1) (itP j D) → FrD (x + 1) μ μ1 → s ≤ 3 → s ≤ j → (∀ i, j - s ≤ i → i < j → anyT (itP i D) (thB (itP i D)) = false) →
    ∃ μ2 : MU, b_X11_days_46 fu (some x) (nI N) (nI (nD D 0 + N)) (nI s) (nI j) (mkH n st S μ1) = some (nI (nD D 0 + N), mkH n st S μ2) ∧ Sim μ2 (x + 1) (itP N D) ∧ FrD (x + 1) μ μ2 := by
  have hC := hX.city
  have fin : ∀ j (μ1 : MU), j ≤ N → Sim μ1 (x + 1) (itP j D) → FrD (x + 1) μ μ1 → (∀ q, q ≠ 0 → itP N D q = itP j D q) → b_X11_days_81 (some x) (nI (nD D 0 + N)) (mkH n st S μ1) = some (nI (nD D 0 + N), mkH n st S (up2 μ1 (x + 1) 0 (nI (nD D 0 + N)))) ∧ Sim (up2 μ1 (x + 1) 0 (nI (nD D 0 + N))) (x + 1) (itP N D) ∧ FrD (x + 1) μ (up2 μ1 (x + 1) 0 (nI (nD D 0 + N))) := by
    intro j μ1 hj hs hF hq
    have hI' := itP_inv hI j (by omega)
    refine ⟨by simp (disch := omega) only [b_X11_days_81, xR0 hX, some_bind, cP0 hC], ?_, ?_⟩
    · have hI := hI'
      refine ⟨?_, Gx.congr hI hs (fun a j h => by rw [up2_ne (by omega)]) (fun q h => by exact hq q (by omega)), Gw.congr hI hs (fun a j h => by rw [up2_ne (by omega)]) (fun q h => by exact hq q (by omega)), Gm.congr hI hs (fun a j h => by rw [up2_ne (by omega)]) (fun q h => by exact hq q (by omega)), Gv.congr hI hs (fun a j h => by rw [up2_ne (by omega)]) (fun q h => by exact hq q (by omega)), Gb.congr hI hs (fun a j h => by rw [up2_ne (by omega)]) (fun q h => by exact hq q (by omega)), Gs.congr hI hs (fun a j h => by rw [up2_ne (by omega)]) (fun q h => by exact hq q (by omega)), Ge.congr hI hs (fun a j h => by rw [up2_ne (by omega)]) (fun q h => by exact hq q (by omega)), Gr.congr hI hs (fun a j h => by rw [up2_ne (by omega)]) (fun q h => by exact hq q (by omega)), Gh.congr hI hs (fun a j h => by rw [up2_ne (by omega)]) (fun q h => by exact hq q (by omega)), Gl.congr hI hs (fun a j h => by rw [up2_ne (by omega)]) (fun q h => by exact hq q (by omega))⟩
      show up2 _ _ _ _ (x + 1) 0 = _
      rw [up2_same, itP_0 (by assumption)]
    · intro a i h1 h2
      rw [up2_ne (by omega)]
      exact hF a i h1 h2
  intro k
  induction k with
  | zero =>
    intro j fu s μ1 hj hf hs hF hs3 hsj hst
    obtain ⟨fu, rfl⟩ : ∃ q, fu = q + 1 := ⟨fu - 1, by omega⟩
    obtain rfl : j = N := by omega
    have q6 : ¬ nI j < nI j := nI_nlt (by omega) (by omega)
    obtain ⟨f1, f2, f3⟩ := fin j μ1 (by omega) hs hF (fun _ _ => rfl)
    refine ⟨_, ?_, f2, f3⟩
    simp only [b_X11_days_46, q6, if_false]
    exact f1
  | succ k ih =>
    intro j fu s μ1 hj hf hs hF hs3 hsj hst
    obtain ⟨fu, rfl⟩ : ∃ q, fu = q + 1 := ⟨fu - 1, by omega⟩
    have q6 : nI j < nI N := nI_lt (by omega) (by omega)
    simp only [b_X11_days_46, q6, if_true]
    by_cases h3 : s = 3
    · subst h3
      obtain ⟨f1, f2, f3⟩ := fin j μ1 (by omega) hs hF (fun q hq => by
        have := itP_rest hI (j := j) (N := N) hsj hN (by omega) hst (N - j) (by omega) q hq
        rw [show j + (N - j) = N from by omega] at this
        exact this)
      refine ⟨_, ?_, f2, f3⟩
      rw [if_neg (by decide)]
      exact f1
    · have hl3 : nI s < 3 := nI_lt (b := 3) (by omega) (by decide)
      rw [if_pos hl3]
      have hI' := itP_inv hI j (by omega)
      have hp := k_passDay (n := n) (st := st) hC hs hI'
      simp (disch := omega) only [xR0 hX, some_bind, cck hC, hp, ite_bI0]
      have hs' : Sim (up2 (pasM μ1 (x + 1) (itP j D) (nD (itP j D) 3)) (x + 1) 0 (itP j D 0 + 1)) (x + 1) (itP (j + 1) D) := pas_sim hs hI' _ up2_same (fun a i h => by rw [up2_ne h])
      have hF' : FrD (x + 1) μ (up2 (pasM μ1 (x + 1) (itP j D) (nD (itP j D) 3)) (x + 1) 0 (itP j D 0 + 1)) := by
        intro a i h1 h2
        have := hI'.words.2
        rw [up2_ne (by omega), pasM_out (by omega)]
        exact hF a i h1 h2
      cases hn : anyT (itP j D) (thB (itP j D))
      · simp only [Bool.false_eq_true, if_false, nI_1]
        refine ih (j + 1) fu (s + 1) _ (by omega) (by omega) hs' hF' (by omega) (by omega) ?_
        intro i h1 h2
        by_cases hij : i = j
        · subst hij; exact hn
        · exact hst i (by omega) (by omega)
      · simp only [if_true, nI_1]
        exact ih (j + 1) fu 0 _ (by omega) (by omega) hs' hF' (by omega) (by omega) (fun i h1 h2 => by omega)
theorem op_days (hR : R n st S μ x b) (a1 : Int32) : Res (f_X11_days (some x) a1) (f_X12_days (some (x + 175)) a1) n st S μ x b := by
  have hR' := hR
  obtain ⟨⟨hX, hS, hs, hI, hL0⟩, hRest⟩ := hR
  have hC := hX.city
  have hBase := hRest.2.2.2.1
  obtain ⟨D, hD⟩ : ∃ D, μ (x + 175 + 1) = D := ⟨_, rfl⟩
  replace hs : Sim μ (x + 1) (μ (x + 175 + 1)) := hs
  replace hI : Inv (μ (x + 175 + 1)) := hI
  rw [hD] at hs hI
  obtain ⟨e0, b0⟩ := hI.today
  obtain ⟨e1, b1⟩ := hI.wards
  obtain ⟨e2, b2⟩ := hI.men
  obtain ⟨e3, b3⟩ := hI.words
  obtain ⟨e4, b4⟩ := hI.bars
  obtain ⟨e5, b5⟩ := hI.shes
  obtain ⟨e6, b6⟩ := hI.wets
  obtain ⟨e8, b8⟩ := hI.heaped
  have z0 := hs.today
  have z1 := hs.wardN
  have z2 := hs.manN
  have z3 := hs.wordN
  have z4 := hs.barN
  have z5 := hs.sheN
  have z6 := hs.wetN
  have z8 := hs.heapN
  by_cases c1 : inS a1 1 400 = true
  case neg => exact Res.same hR' (-1) (by simp only [f_X11_days, k_within, some_bind, ite_bI0, c1, if_false, Bool.false_eq_true]) (by simp only [f_X12_days, s_in, some_bind, ite_bI0, c1, if_false, Bool.false_eq_true])
  obtain ⟨N, hN, hN0, rfl⟩ : ∃ N, N ≤ 400 ∧ 1 ≤ N ∧ a1 = nI N := by
    simp only [inS, decide_eq_true_eq, i32_lt] at c1
    have h1 : (1 : Int32).toInt = 1 := by decide
    have h4 : (400 : Int32).toInt = 400 := by decide
    obtain ⟨N, hN, rfl⟩ := nI_of (x := a1) (by rw [i32_lt, i32_0]; omega)
    rw [nI_toInt hN] at c1
    exact ⟨N, by omega, by omega, rfl⟩
  have t1 : (9999 : Int32) - nI N = nI (9999 - N) := pk_sub (a := 9999) (b := N) (by omega)
  have t2 : (nI (9999 - N) < nI (nD D 0)) = (9999 - N < nD D 0) := nn_lt (by omega) (by omega)
  have t3 : ((9999 : Int32) < nI (nD D 0 + N)) = (9999 < nD D 0 + N) := lit_gt (by omega) (by decide)
  by_cases c2 : 9999 < nD D 0 + N
  · have c3 : 9999 - N < nD D 0 := by omega
    exact Res.same hR' (-4) (by simp only [f_X11_days, k_within, some_bind, ite_bI0, c1, if_true, xR0 hX, cI0 hC, z0, e0, t1, t2, c3]) (by simp (disch := omega) only [f_X12_days, s_in, some_bind, ite_bI0, c1, if_true, mR0 hS, lit_aI, mA0 hS, hD, e0, nI_add, t3, c2])
  · have c3 : ¬ 9999 - N < nD D 0 := by omega
    have hfu : N < FU := by simp only [FU]; omega
    obtain ⟨μ2, k1, k2, k3⟩ := k_days (n := n) (st := st) (μ := μ) hX hI (N := N) (by omega) hN N 0 FU 0 μ (by omega) hfu hs (fun _ _ _ _ => rfl) (by omega) (by omega) (fun i h1 h2 => by omega)
    have hD2 : μ2 (x + 175 + 1) = D := by
      rw [← hD]
      funext q
      exact k3 _ _ (by omega) (by omega)
    have hr := r_days (n := n) (st := st) (μ := μ2) hS hI hD2 (N := N) (by omega) N 0 FU (by omega) hfu
    have em : setR μ2 (x + 175 + 1) (itP 0 D) = μ2 := by
      show setR μ2 _ D = μ2
      rw [← hD2, setR_id]
    rw [em] at hr
    refine Res.core hRest (nI (nD D 0 + N)) (μ1 := μ2) (μ2 := setR μ2 (x + 175 + 1) (itP N D)) ?_ ?_ ?_ ?_
    · simp only [f_X11_days, k_within, some_bind, ite_bI0, c1, if_true, xR0 hX, cI0 hC, z0, e0, t1, t2, c3, if_false, nI_add]
      exact k1
    · simp (disch := omega) only [f_X12_days, s_in, some_bind, ite_bI0, c1, if_true, mR0 hS, lit_aI, mA0 hS, hD2, e0, nI_add, t3, c2, if_false]
      exact hr
    · refine Core.mk' (μ := μ) hX hS hL0 (fun a j h => by rw [setR_ne (by omega)]; exact k3 _ _ (by omega) (by omega)) ?_ ?_
      · rw [setR_row]
        exact Sim.congr (itP_inv hI N (by omega)) k2 (fun a j h => by rw [setR_ne (by omega)]) (fun q => rfl)
      · rw [setR_row]
        exact itP_inv hI N (by omega)
    · intro a j h
      unfold oth at h
      rw [setR_ne (by omega)]
      exact k3 _ _ (by omega) (by omega)
end DAYS3
