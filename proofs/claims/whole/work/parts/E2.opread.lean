-- ===== read =====
section OPREAD
variable {n : Nat} {st : Nat → Nat} {S : SH} {μ μ' : MU} {x b m l : Nat} {D D' : DR}
theorem r_read49 (hS : ShM S m) (hl : l < 4) {N : Nat} (hN : N ≤ 300) (v : Int32) : ∀ k j fu (μ : MU), j + k = N → k < fu → ∃ μ' : MU, b_X12_read_49 fu (some m) (nI l) v (nI N) (nI j) (mkH n st S μ) = some (v, mkH n st S μ') ∧ (∀ a i, ¬ a = m + 1 → μ' a i = μ a i) ∧ (∀ i, ¬ (1024 + 300 * l + j ≤ i ∧ i < 1024 + 300 * l + N) → ¬ i = 1020 + l → μ' (m + 1) i = μ (m + 1) i) ∧ (∀ k, j ≤ k → k < N → μ' (m + 1) (1024 + 300 * l + k) = μ (m + 3) k) ∧ μ' (m + 1) (1020 + l) = nI N := by
  intro k
  induction k with
  | zero =>
    intro j fu μ hj hf
    obtain ⟨fu, rfl⟩ : ∃ q, fu = q + 1 := ⟨fu - 1, by omega⟩
    obtain rfl : j = N := by omega
    have g : ¬ nI j < nI j := fun q => by simp (disch := omega) only [nn_lt] at q; omega
    have e : (1020 : Int32) + nI l = nI (1020 + l) := nI_add 1020 l
    refine ⟨up2 μ (m + 1) (1020 + l) (nI j), ?_, fun a i h => up2_ne (by omega), fun i h1 h2 => up2_ne (by omega), fun k h1 h2 => absurd h2 (by omega), up2_same⟩
    simp (disch := omega) only [b_X12_read_49, g, if_false, mR0 hS, some_bind, e, mS0 hS]
  | succ k ih =>
    intro j fu μ hj hf
    obtain ⟨fu, rfl⟩ : ∃ q, fu = q + 1 := ⟨fu - 1, by omega⟩
    have g : nI j < nI N := nI_lt (by omega) (by omega)
    have e1 : nI j + 1 = nI (j + 1) := nI_add j 1
    have e2 : ((1024 : Int32) + 300 * nI l) + nI j = nI (1024 + 300 * l + j) := by
      have q1 : (300 : Int32) * nI l = nI (300 * l) := lit_mul 300 l
      have q2 : (1024 : Int32) + nI (300 * l) = nI (1024 + 300 * l) := nI_add 1024 _
      rw [q1, q2, nI_add]
    obtain ⟨μ', w1, w2, w3, w4, w5⟩ := ih (j + 1) fu (up2 μ (m + 1) (1024 + 300 * l + j) (μ (m + 3) j)) (by omega) (by omega)
    refine ⟨μ', ?_, fun a i h => by rw [w2 a i h, up2_ne (by omega)], fun i h1 h2 => by rw [w3 i (by omega) h2, up2_ne (by omega)], fun q h1 h2 => ?_, w5⟩
    · rw [← w1]
      simp (disch := omega) only [b_X12_read_49, g, if_true, mR0 hS, mR3 hS, some_bind, mA3 hS, e2, mS0 hS, e1]
    · by_cases hq : q = j
      · subst hq
        rw [w3 _ (by omega) (by omega), up2_same]
      · rw [w4 q (by omega) h2, up2_ne (by omega)]
theorem reaC_e {T : Nat → Int32} {N e : Nat} (F : Nat → Int32) (hN : N ≤ 300) (hz : reaC T N 400 (fun _ => false) 10 [] (fun _ => 0) (fun _ => 0) 0 = .inl e) : reaS T N F = .inl e := by
  have rl := reaC_L (T := T) (N := N) (F := F) hN 400 (fun _ => false) 10 [] (fun _ => 0) (fun _ => 0) 0 (fun _ => none) (by omega) ⟨fun i _ => rfl, rfl, fun i _ h => by cases h⟩
  have p0 : popN 16 (biN (fun _ => false) 5) = 0 := by decide
  rw [hz, p0] at rl
  rw [reaS]
  exact rl
theorem reaC_k {T : Nat → Int32} {N : Nat} (F : Nat → Int32) (hN : N ≤ 300) {z : (Nat → Bool) × Int32 × List Int32 × (Nat → Nat) × (Nat → Nat)} (hz : reaC T N 400 (fun _ => false) 10 [] (fun _ => 0) (fun _ => 0) 0 = .inr z) : ∃ z', reaS T N F = .inr (popN 16 (biN z.1 5), z') := by
  have rl := reaC_L (T := T) (N := N) (F := F) hN 400 (fun _ => false) 10 [] (fun _ => 0) (fun _ => 0) 0 (fun _ => none) (by omega) ⟨fun i _ => rfl, rfl, fun i _ h => by cases h⟩
  have p0 : popN 16 (biN (fun _ => false) 5) = 0 := by decide
  rw [hz, p0] at rl
  obtain ⟨z', r1, -⟩ := rl
  rw [reaS]
  exact ⟨z', r1⟩
theorem neg_100 : ∀ e, e < 301 → (-100 - nI e : Int32) < 0 := by decide +kernel
theorem read_inv {T : Nat → Int32} {N : Nat} (hI : Inv D) (hl4 : l < 4) (hN : N ≤ 300) (hTb : ∀ k, k < N → isN (T k) 256) (FD : ∀ i, ¬ (1024 + 300 * l ≤ i ∧ i < 1024 + 300 * l + N) → ¬ i = 1020 + l → D' i = D i) (FT : ∀ k, k < N → D' (1024 + 300 * l + k) = T k) (y5 : D' (1020 + l) = nI N) : Inv D' := by
  have hsz : ∀ l', l' < 4 → ¬ l' = l → D' (1020 + l') = D (1020 + l') := fun l' h1 h2 => FD _ (by omega) (by omega)
  refine ⟨IA.congr hI (fun q h => FD q (by omega) (by omega)), Iw.congr hI (fun q h => FD q (by omega) (by omega)), Im.congr hI (fun q h => FD q (by omega) (by omega)), Iv.congr hI (fun q h => FD q (by omega) (by omega)), Ib.congr hI (fun q h => FD q (by omega) (by omega)), Is.congr hI (fun q h => FD q (by omega) (by omega)), Ix.congr hI (fun q h => FD q (by omega) (by omega)), Ih.congr hI (fun q h => FD q (by omega) (by omega)), ⟨by rw [FD 7 (by omega) (by omega)]; exact hI.law, fun l' h1 h2 => ?_, fun l' h1 => ?_, fun l' k h1 h2 => ?_⟩, Ir.congr hI (fun q h => FD q (by omega) (by omega))⟩
  · rw [FD 7 (by omega) (by omega)] at h2
    by_cases hll : l' = l
    · subst hll; rw [y5]; exact nI_pos (by omega)
    · rw [hsz l' h1 hll]; exact hI.lawR l' h1 h2
  · by_cases hll : l' = l
    · subst hll; rw [y5]; exact Or.inr ⟨N, by omega, rfl⟩
    · rw [hsz l' h1 hll]; exact hI.size l' h1
  · by_cases hll : l' = l
    · subst hll
      rw [nD, y5, nI_clamp (by omega)] at h2
      rw [FT k h2]
      exact hTb k h2
    · have e : nD D' (1020 + l') = nD D (1020 + l') := by simp only [nD, hsz l' h1 hll]
      rw [e] at h2
      have hk3 : k < 300 := by
        rcases hI.size l' h1 with h | ⟨w, hw, h⟩
        · rw [nD, h] at h2
          have z0 : (-1 : Int32).toNatClampNeg = 0 := by decide
          rw [z0] at h2
          omega
        · rw [nD, h, nI_clamp (by omega)] at h2
          omega
      rw [FD (1024 + 300 * l' + k) (by omega) (by omega)]
      exact hI.byte l' k h1 h2
theorem read_sim {T : Nat → Int32} {N : Nat} (hI : Inv D) (hl4 : l < 4) (hN : N ≤ 300) (hTb : ∀ k, k < N → isN (T k) 256) (FD : ∀ i, ¬ (1024 + 300 * l ≤ i ∧ i < 1024 + 300 * l + N) → ¬ i = 1020 + l → D' i = D i) (FT : ∀ k, k < N → D' (1024 + 300 * l + k) = T k) (y5 : D' (1020 + l) = nI N) (hs : Sim μ (x + 1) D) (FA : ∀ a j, ¬ (x + 119 + 6 * l ≤ a ∧ a ≤ x + 122 + 6 * l) → ¬ (x + 149 ≤ a) → μ' a j = μ a j) (q0 : μ' (x + 1 + 118 + 6 * l) 0 = 1) (q1 : LawOK μ' (x + 1 + 118 + 6 * l) T N) (q3 : ∃ cs, cs ≤ 320 ∧ μ' (x + 1 + 118 + 6 * l) 3 = nI cs) : Sim μ' (x + 1) D' := by
  have hsz : ∀ l', l' < 4 → ¬ l' = l → D' (1020 + l') = D (1020 + l') := fun l' h1 h2 => FD _ (by omega) (by omega)
  refine ⟨GA.congr hI hs (fun a j h => FA a j (by omega) (by omega)) (fun q h => FD q (by omega) (by omega)), Gx.congr hI hs (fun a j h => FA a j (by omega) (by omega)) (fun q h => FD q (by omega) (by omega)), Gw.congr hI hs (fun a j h => FA a j (by omega) (by omega)) (fun q h => FD q (by omega) (by omega)), Gm.congr hI hs (fun a j h => FA a j (by omega) (by omega)) (fun q h => FD q (by omega) (by omega)), Gv.congr hI hs (fun a j h => FA a j (by omega) (by omega)) (fun q h => FD q (by omega) (by omega)), Gb.congr hI hs (fun a j h => FA a j (by omega) (by omega)) (fun q h => FD q (by omega) (by omega)), Gs.congr hI hs (fun a j h => FA a j (by omega) (by omega)) (fun q h => FD q (by omega) (by omega)), Ge.congr hI hs (fun a j h => FA a j (by omega) (by omega)) (fun q h => FD q (by omega) (by omega)), Gr.congr hI hs (fun a j h => FA a j (by omega) (by omega)) (fun q h => FD q (by omega) (by omega)), Gh.congr hI hs (fun a j h => FA a j (by omega) (by omega)) (fun q h => FD q (by omega) (by omega)), fun l' h1 => ?_, fun l' h1 => ?_⟩
  · by_cases hll : l' = l
    · subst hll
      rw [y5]
      refine Or.inr ⟨nI_pos (by omega), q0, ?_⟩
      rw [nI_clamp (by omega)]
      exact q1.text (fun k hk => FT k hk)
    · rw [hsz l' h1 hll]
      rcases hs.law l' h1 with ⟨h, h'⟩ | ⟨h1', h2', h3'⟩
      · exact Or.inl ⟨h, by rw [FA _ _ (by omega) (by omega)]; exact h'⟩
      · refine Or.inr ⟨h1', by rw [FA _ _ (by omega) (by omega)]; exact h2', (h3'.congr (fun a j h => FA a j (by omega) (by omega))).text (fun k hk => ?_)⟩
        have hk3 : k < 300 := by
          rcases hI.size l' h1 with h | ⟨w, hw, h⟩
          · rw [h] at h1'
            exact absurd (by decide) h1'
          · rw [h, nI_clamp (by omega)] at hk
            omega
        exact FD _ (by omega) (by omega)
  · by_cases hll : l' = l
    · subst hll
      exact q3
    · rw [FA _ _ (by omega) (by omega)]
      exact hs.lawB l' h1
theorem read_ref (hS : ShM S (x + 175)) (hBase : BaseOK st S μ x b) {T : Nat → Int32} {N : Nat} (hN : N ≤ 300) (hTd : ∀ k, k < N → μ (x + 178) k = T k) (μ1 : MU) (hF : ∀ a j, ¬ (x + 119 ≤ a ∧ a ≤ x + 157) → μ1 a j = μ a j) : ∃ v μ2, f_X12_reads (some (x + 175)) (-1) (nI N) (mkH n st S μ1) = some (v, mkH n st S μ2) ∧ FrG (x + 175) μ1 μ2 ∧ (match reaS T N (μ1 (x + 175 + 7)) with
      | .inl e => μ2 (x + 175) 17 = nI e ∧ e ≤ N
      | .inr q => v = nI q.1 ∧ μ2 (x + 175) 17 = -1 ∧ RelZ μ2 (x + 175) q.2) := by
  refine r_reads (n := n) (x := x) (b := b) hS (by omega) (hBase.congr (fun _ _ => rfl) (fun a j q => hF a j (by omega))) (-1) ⟨up2_same, hN, Or.inl ⟨by rw [up2_ne (by omega), up2_same]; decide, fun k hk => ?_⟩⟩
  rw [up2_ne (by omega), up2_ne (by omega), hF _ _ (by omega)]
  exact hTd k hk
theorem read_rest (hRest : Rest n st S μ x b) (μ3 : MU) (hF : ∀ a j, ¬ ((x + 119 ≤ a ∧ a ≤ x + 157) ∨ (a = x + 175 ∧ (j = 4 ∨ (11 ≤ j ∧ j ≤ 18))) ∨ a = x + 176 ∨ a = x + 183 ∨ a = x + 184) → μ3 a j = μ a j) (e1 : μ3 (x + 149) 1 = 0) (e2 : μ3 (x + 175) 4 = 0) : Rest n st S μ3 x b := by
  obtain ⟨-, hRw, hTr, hBase, hn, K, ρ, hK, hSh⟩ := hRest
  exact ⟨⟨0, by omega, e1, e2, fun i hi => absurd hi (by omega)⟩, hRw.congr (fun a j h => hF a j (by omega)), hTr.congr (fun a j h => hF a j (by omega)), hBase.congr (fun _ _ => rfl) (fun a j h => hF a j (by omega)), hn, K, ρ, hK.congr (fun a j h => hF a j (by omega)), hSh.congr (fun a j h => hF a j (by omega))⟩
theorem refE (hS : ShM S m) (c1 : inS (nI l) 0 3 = true) {N e : Nat} {μ1 μ2 : MU} {v : Int32} (n4 : μ1 m 4 = nI N) (r1 : f_X12_reads (some m) (-1) (nI N) (mkH n st S μ1) = some (v, mkH n st S μ2)) (n4' : μ2 m 4 = nI N) (s1 : μ2 m 17 = nI e) (ge : ¬ nI e < (0 : Int32)) : f_X12_read (some m) (nI l) (mkH n st S μ1) = some (-100 - nI e, mkH n st S (up2 μ2 m 4 0)) := by
  have e17 : up2 μ2 m 4 0 m 17 = nI e := by rw [up2_ne (by omega), s1]
  simp only [f_X12_read, s_in, some_bind, c1, ite_bI0, if_true, mI4 hS, n4, rck hS, r1, n4', mP4 hS, mI17 hS, e17, ge, if_false]
theorem refK (hS : ShM S m) (c1 : inS (nI l) 0 3 = true) {N : Nat} {μ1 μ2 μ4 : MU} {v : Int32} (n4 : μ1 m 4 = nI N) (r1 : f_X12_reads (some m) (-1) (nI N) (mkH n st S μ1) = some (v, mkH n st S μ2)) (n4' : μ2 m 4 = nI N) (s2 : μ2 m 17 = -1) (y1 : b_X12_read_49 FU (some m) (nI l) v (nI N) (nI 0) (mkH n st S (up2 μ2 m 4 0)) = some (v, mkH n st S μ4)) : f_X12_read (some m) (nI l) (mkH n st S μ1) = some (v, mkH n st S μ4) := by
  have e17 : up2 μ2 m 4 0 m 17 = -1 := by rw [up2_ne (by omega), s2]
  have m1 : (-1 : Int32) < 0 := by decide
  obtain ⟨fu, hfu⟩ : ∃ q, FU = q := ⟨FU, rfl⟩
  rw [hfu] at y1
  have y1' : b_X12_read_49 fu (some m) (nI l) v (nI N) 0 (mkH n st S (up2 μ2 m 4 0)) = some (v, mkH n st S μ4) := y1
  simp only [f_X12_read, hfu, s_in, some_bind, c1, ite_bI0, if_true, mI4 hS, n4, rck hS, r1, n4', mP4 hS, mI17 hS, e17, m1, y1']
theorem clsE (hX : ShX S x) (c1 : inS (nI l) 0 3 = true) {v : Int32} {μ1 : MU} (v1 : f_X4_useTape (some (x + 149)) (mkH n st S μ) = some (v, mkH n st S μ1)) (hv : v < 0) : f_X11_read (some x) (nI l) (mkH n st S μ) = some (v, mkH n st S μ1) := by
  simp only [f_X11_read, k_within, some_bind, c1, ite_bI0, if_true, xR2 hX, rdck hX, v1, hv]
theorem read_fail (hR : R n st S μ x b) (hl4 : l < 4) (c1 : inS (nI l) 0 3 = true) {T : Nat → Int32} {N : Nat} (hN : N ≤ 300) (t2 : μ (x + 175) 4 = nI N) (hTd : ∀ k, k < N → μ (x + 178) k = T k) (hTb : ∀ k, k < N → isN (T k) 256) {e : Nat} (hf : ∀ F, reaS T N F = .inl e) (ut : Fail n st S x μ (f_X4_useTape (some (x + 149)) (mkH n st S μ)) e) : Res (f_X11_read (some x) (nI l)) (f_X12_read (some (x + 175)) (nI l)) n st S μ x b := by
  have hR' := hR
  have hCore := hR.1
  obtain ⟨⟨hX, hS, hs, hI, hL0⟩, hRest⟩ := hR
  have hC := hX.city
  have hBase := hRest.2.2.2.1
  obtain ⟨D, hD⟩ : ∃ D, μ (x + 175 + 1) = D := ⟨_, rfl⟩
  replace hs : Sim μ (x + 1) (μ (x + 175 + 1)) := hs
  replace hI : Inv (μ (x + 175 + 1)) := hI
  rw [hD] at hs hI
  obtain ⟨e0, b0⟩ := hI.today
  obtain ⟨e1, b1⟩ := hI.wards
  obtain ⟨e2, b2⟩ := hI.men
  obtain ⟨e3, b3⟩ := hI.words
  obtain ⟨e4, b4⟩ := hI.bars
  obtain ⟨e5, b5⟩ := hI.shes
  obtain ⟨e6, b6⟩ := hI.wets
  obtain ⟨e8, b8⟩ := hI.heaped
  have z0 := hs.today
  have z1 := hs.wardN
  have z2 := hs.manN
  have z3 := hs.wordN
  have z4 := hs.barN
  have z5 := hs.sheN
  have z6 := hs.wetN
  have z8 := hs.heapN
  obtain ⟨μ1, v1, v2, v3⟩ := ut
  have F1 : ∀ a j, ¬ (x + 119 ≤ a ∧ a ≤ x + 157) → μ1 a j = μ a j := fun a j q => v3 a j (by omega)
  obtain ⟨v, μ2, r1, r2, r3⟩ := read_ref (n := n) (st := st) (b := b) hS hBase hN hTd μ1 F1
  rw [hf] at r3
  obtain ⟨s1, s2⟩ := r3
  have n4 : μ1 (x + 175) 4 = nI N := by rw [F1 _ _ (by omega), t2]
  have n4' : μ2 (x + 175) 4 = nI N := by rw [r2 _ _ (by omega) (by omega) (by omega), n4]
  have ge : ¬ nI e < (0 : Int32) := nI_pos (by omega)
  obtain ⟨μ3, hm3⟩ : ∃ z, z = up2 μ2 (x + 175) 4 0 := ⟨_, rfl⟩
  have F3 : ∀ a j, ¬ ((x + 149 ≤ a ∧ a ≤ x + 157) ∨ (a = x + 175 ∧ (j = 4 ∨ (11 ≤ j ∧ j ≤ 18))) ∨ a = x + 183 ∨ a = x + 184) → μ3 a j = μ a j := fun a j q => by rw [hm3, up2_ne (by omega), r2 a j (by omega) (by omega) (by omega), v3 a j (by omega)]
  refine ⟨-100 - nI e, mkH n st S μ1, n, S, μ3, ?_, ?_, hCore.keep (fun a j h => F3 a j (by omega)) (fun q => F3 _ _ (by omega)), read_rest hRest μ3 (fun a j q => F3 a j (by omega)) ?_ ?_⟩
  · exact clsE hX c1 v1 (neg_100 e (by omega))
  · rw [hm3]
    exact refE hS c1 n4 r1 n4' s1 ge
  · rw [hm3, up2_ne (by omega), r2 _ _ (by omega) (by omega) (by omega), v2]
  · rw [hm3, up2_same]
theorem read_done (hR : R n st S μ x b) (hl4 : l < 4) (c1 : inS (nI l) 0 3 = true) {T : Nat → Int32} {N : Nat} (hN : N ≤ 300) (t2 : μ (x + 175) 4 = nI N) (hTd : ∀ k, k < N → μ (x + 178) k = T k) (hTb : ∀ k, k < N → isN (T k) 256) {z : (Nat → Bool) × Int32 × List Int32 × (Nat → Nat) × (Nat → Nat)} (hf0 : ∀ F, ∃ z', reaS T N F = .inr (popN 16 (biN z.1 5), z')) (hdo : ∀ μ1 : MU, RdC μ1 x z.2.2.1 → z.2.2.1.length ≤ 300 → RdD μ1 x z.1 z.2.1 z.2.2.2.1 z.2.2.2.2 → LawOK μ1 (x + 151) T N) (ut : Done n st S x μ (f_X4_useTape (some (x + 149)) (mkH n st S μ)) z) : Res (f_X11_read (some x) (nI l)) (f_X12_read (some (x + 175)) (nI l)) n st S μ x b := by
  have hR' := hR
  have hCore := hR.1
  obtain ⟨⟨hX, hS, hs, hI, hL0⟩, hRest⟩ := hR
  have hC := hX.city
  have hBase := hRest.2.2.2.1
  obtain ⟨D, hD⟩ : ∃ D, μ (x + 175 + 1) = D := ⟨_, rfl⟩
  replace hs : Sim μ (x + 1) (μ (x + 175 + 1)) := hs
  replace hI : Inv (μ (x + 175 + 1)) := hI
  rw [hD] at hs hI
  obtain ⟨e0, b0⟩ := hI.today
  obtain ⟨e1, b1⟩ := hI.wards
  obtain ⟨e2, b2⟩ := hI.men
  obtain ⟨e3, b3⟩ := hI.words
  obtain ⟨e4, b4⟩ := hI.bars
  obtain ⟨e5, b5⟩ := hI.shes
  obtain ⟨e6, b6⟩ := hI.wets
  obtain ⟨e8, b8⟩ := hI.heaped
  have z0 := hs.today
  have z1 := hs.wardN
  have z2 := hs.manN
  have z3 := hs.wordN
  have z4 := hs.barN
  have z5 := hs.sheN
  have z6 := hs.wetN
  have z8 := hs.heapN
  have fuL : FU = 4000 := rfl
  obtain ⟨μ1, v1, v2, v3, v4, v5, v6⟩ := ut
  have hlaw : LawOK μ1 (x + 151) T N := hdo μ1 v3 v4 v5
  have hLl := hC.law l (by omega)
  obtain ⟨μ2, b1, b2, b3, b4, b5', b6⟩ := k_bec3 (n := n) (st := st) (μ := μ1) hLl hX.draft (by omega) (Or.inr v5.1) (cs := z.2.2.1.length) (by omega) v3.1
  have F2 : ∀ a j, ¬ (x + 119 ≤ a ∧ a ≤ x + 157) → μ2 a j = μ a j := fun a j q => by rw [b6 a j (by omega), v6 a j (by omega)]
  obtain ⟨v, μ3, r1, r2, r3⟩ := read_ref (n := n) (st := st) (b := b) hS hBase hN hTd μ2 F2
  have hpl := popN_le 16 (biN z.1 5)
  obtain ⟨z', hf⟩ := hf0 (μ2 (x + 175 + 7))
  rw [hf] at r3
  obtain ⟨s1, s2, -⟩ := r3
  subst s1
  have n4 : μ2 (x + 175) 4 = nI N := by rw [F2 _ _ (by omega), t2]
  have n4' : μ3 (x + 175) 4 = nI N := by rw [r2 _ _ (by omega) (by omega) (by omega), n4]
  have gk : ¬ nI (popN 16 (biN z.1 5)) < (0 : Int32) := nI_pos (by omega)
  obtain ⟨μ4, y1, y2, y3, y4, y5⟩ := r_read49 (n := n) (st := st) (m := x + 175) hS hl4 hN (nI (popN 16 (biN z.1 5))) N 0 FU (up2 μ3 (x + 175) 4 0) (by omega) (by omega)
  have F4 : ∀ a j, ¬ ((a = x + 175 ∧ (j = 4 ∨ (11 ≤ j ∧ j ≤ 18))) ∨ a = x + 176 ∨ a = x + 183 ∨ a = x + 184) → μ4 a j = μ2 a j := fun a j q => by rw [y2 a j (by omega), up2_ne (by omega), r2 a j (by omega) (by omega) (by omega)]
  have FD : ∀ i, ¬ (1024 + 300 * l ≤ i ∧ i < 1024 + 300 * l + N) → ¬ i = 1020 + l → μ4 (x + 175 + 1) i = D i := fun i h1 h2 => by rw [y3 i (by omega) h2, up2_ne (by omega), r2 _ _ (by omega) (by omega) (by omega), F2 _ _ (by omega), hD]
  have FT : ∀ k, k < N → μ4 (x + 175 + 1) (1024 + 300 * l + k) = T k := fun k hk => by rw [y4 k (by omega) hk, up2_ne (by omega), r2 _ _ (by omega) (by omega) (by omega), F2 _ _ (by omega), hTd k hk]
  obtain ⟨D', hD'⟩ : ∃ D', D' = μ4 (x + 175 + 1) := ⟨_, rfl⟩
  rw [← hD'] at FD FT y5
  have FA : ∀ a j, ¬ (x + 119 + 6 * l ≤ a ∧ a ≤ x + 122 + 6 * l) → ¬ (x + 149 ≤ a) → μ4 a j = μ a j := fun a j h1 h2 => by rw [F4 a j (by omega), b6 a j (by omega), v6 a j (by omega)]
  have FL : ∀ a j, x + 119 + 6 * l ≤ a ∧ a ≤ x + 122 + 6 * l → μ4 a j = μ2 a j := fun a j h => F4 a j (by omega)
  have hsz : ∀ l', l' < 4 → ¬ l' = l → D' (1020 + l') = D (1020 + l') := fun l' h1 h2 => FD _ (by omega) (by omega)
  have hI2 : Inv D' := read_inv hI hl4 hN hTb FD FT y5
  have hlaw2 : LawOK μ4 (x + 1 + 118 + 6 * l) T N := (hlaw.shift v3.1 (by omega) b2 b3 b4 b5').congr (fun a j h => FL a j (by omega))
  have hs2 : Sim μ4 (x + 1) D' := read_sim hI hl4 hN hTb FD FT y5 hs FA (by rw [FL _ _ (by omega), b2 0 (by omega)]; exact v5.1) hlaw2 ⟨z.2.2.1.length, by omega, by rw [FL _ _ (by omega), b2 3 (by omega)]; exact v3.1⟩
  rw [hD'] at hI2 hs2
  refine ⟨nI (popN 16 (biN z.1 5)), mkH n st S μ2, n, S, μ4, ?_, ?_, Core.mk' hX hS hL0 (fun a j h => FA a j (by omega) (by omega)) hs2 hI2, read_rest hRest μ4 (fun a j q => ?_) ?_ ?_⟩
  · simp (disch := omega) only [f_X11_read, k_within, some_bind, c1, ite_bI0, if_true, xR2 hX, rdck hX, v1, gk, if_false, xR0 hX, cR13 hC, cElaws hC, rdR2 hX, lck hLl, b1]
  · exact refK hS c1 n4 r1 n4' s2 y1
  · rw [F4 a j (by omega), b6 a j (by omega), v6 a j (by omega)]
  · rw [F4 _ _ (by omega), b6 _ _ (by omega), v2]
  · rw [y2 _ _ (by omega), up2_same]
theorem op_read (hR : R n st S μ x b) (a1 : Int32) : Res (f_X11_read (some x) a1) (f_X12_read (some (x + 175)) a1) n st S μ x b := by
  have hR' := hR
  obtain ⟨⟨hX, hS, hs, hI, hL0⟩, hRest⟩ := hR
  have hC := hX.city
  have hBase := hRest.2.2.2.1
  obtain ⟨D, hD⟩ : ∃ D, μ (x + 175 + 1) = D := ⟨_, rfl⟩
  replace hs : Sim μ (x + 1) (μ (x + 175 + 1)) := hs
  replace hI : Inv (μ (x + 175 + 1)) := hI
  rw [hD] at hs hI
  obtain ⟨e0, b0⟩ := hI.today
  obtain ⟨e1, b1⟩ := hI.wards
  obtain ⟨e2, b2⟩ := hI.men
  obtain ⟨e3, b3⟩ := hI.words
  obtain ⟨e4, b4⟩ := hI.bars
  obtain ⟨e5, b5⟩ := hI.shes
  obtain ⟨e6, b6⟩ := hI.wets
  obtain ⟨e8, b8⟩ := hI.heaped
  have z0 := hs.today
  have z1 := hs.wardN
  have z2 := hs.manN
  have z3 := hs.wordN
  have z4 := hs.barN
  have z5 := hs.sheN
  have z6 := hs.wetN
  have z8 := hs.heapN
  obtain ⟨⟨N, hN, t1, t2, t3⟩, -⟩ := hRest
  by_cases c1 : inS a1 0 3 = true
  case neg => exact Res.same hR' (-1) (by simp only [f_X11_read, k_within, some_bind, c1, ite_bI0, if_false, Bool.false_eq_true]) (by simp only [f_X12_read, s_in, some_bind, c1, ite_bI0, if_false, Bool.false_eq_true])
  obtain ⟨l, hl, rfl⟩ := inS_n (M := 3) (by omega) c1
  have hT : TpR μ x (fun k => μ (x + 178) k) N := ⟨t1, hN, fun k hk => (t3 k hk).1, fun k hk => (t3 k hk).2⟩
  have ut := k_useTape (n := n) (st := st) hX hBase hT
  cases hz : reaC (fun k => μ (x + 178) k) N 400 (fun _ => false) 10 [] (fun _ => 0) (fun _ => 0) 0 with
  | inl e =>
    rw [hz] at ut
    exact read_fail hR' (by omega) c1 hN t2 (fun _ _ => rfl) hT.2.2.2 (fun F => reaC_e F hN hz) ut
  | inr z =>
    rw [hz] at ut
    exact read_done hR' (by omega) c1 hN t2 (fun _ _ => rfl) hT.2.2.2 (fun F => reaC_k F hN hz) (fun μ1 h1 h2 h3 => draft_ok hN hz h1 h2 h3) ut
end OPREAD
