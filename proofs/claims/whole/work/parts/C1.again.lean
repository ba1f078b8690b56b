-- ===== a text is read by its bytes alone =====
section TCONG
variable {T T' : Nat → Int32} {N : Nat} {F : Nat → Int32} {line : Int32}
theorem byS_by (h : ∀ k, k < N → T' k = T k) : byS T' N = byS T N := by
  funext k
  unfold byS
  split
  · rfl
  · exact h k (by omega)
theorem skS_by (h : byS T' N = byS T N) : skS T' N = skS T N := by
  funext f
  induction f with
  | zero => rfl
  | succ f ih => funext p; simp only [skS, h, ih]
theorem diS_by (h : byS T' N = byS T N) : diS T' N = diS T N := by
  funext f
  induction f with
  | zero => rfl
  | succ f ih => funext p; simp only [diS, h, ih]
theorem leS_by (h : byS T' N = byS T N) : leS T' N = leS T N := by
  funext f
  induction f with
  | zero => rfl
  | succ f ih => funext p; simp only [leS, h, ih]
theorem nuS_by (h : byS T' N = byS T N) (b : Nat) : nuS T' N b = nuS T N b := by
  funext f
  induction f with
  | zero => rfl
  | succ f ih => funext p v; simp only [nuS, h, ih]
theorem spS_by (h : byS T' N = byS T N) : ∀ w b e, spS T' N w b e = spS T N w b e := by
  intro w
  induction w with
  | nil => intro b e; rfl
  | cons c w ih => intro b e; simp only [spS, h, ih]
theorem wiS_by (h : byS T' N = byS T N) (b e : Nat) : ∀ W k, wiS T' N b e k W = wiS T N b e k W := by
  intro W
  induction W with
  | nil => intro k; rfl
  | cons w r ih => intro k; simp only [wiS, spS_by h, ih]
theorem nxS_by (h : byS T' N = byS T N) : nxS T' N = nxS T N := by
  funext p
  simp only [nxS, h, skS_by h, diS_by h, leS_by h, nuS_by h, wiS_by h]
theorem tB_by (h : byS T' N = byS T N) : tB T' N = tB T N := by funext p; simp only [tB, nxS_by h]
theorem tA_by (h : byS T' N = byS T N) : tA T' N = tA T N := by funext p; simp only [tA, nxS_by h]
theorem tK_by (h : byS T' N = byS T N) : tK T' N = tK T N := by funext p; simp only [tK, nxS_by h]
theorem tV_by (h : byS T' N = byS T N) : tV T' N = tV T N := by funext p; simp only [tV, nxS_by h]
theorem isW_by (h : byS T' N = byS T N) : isW T' N = isW T N := by funext p w; simp only [isW, tK_by h, tV_by h]
theorem termS_by (h : byS T' N = byS T N) : termS T' N F line = termS T N F line := by funext p; simp only [termS, tK_by h, tV_by h, tA_by h, tB_by h]
theorem sumL_by (h : byS T' N = byS T N) : sumL T' N F line = sumL T N F line := by
  funext f
  induction f with
  | zero => rfl
  | succ f ih => funext v p; simp only [sumL, tK_by h, tA_by h, termS_by h, ih]
theorem sumS_by (h : byS T' N = byS T N) : sumS T' N F line = sumS T N F line := by funext p; simp only [sumS, termS_by h, sumL_by h]
theorem notL_by (h : byS T' N = byS T N) : notL T' N = notL T N := by
  funext f
  induction f with
  | zero => rfl
  | succ f ih => funext t p; simp only [notL, isW_by h, tA_by h, ih]
theorem cmpS_by (h : byS T' N = byS T N) : cmpS T' N F line = cmpS T N F line := by funext p; simp only [cmpS, sumS_by h, tK_by h, tA_by h]
theorem sngS_by (h : byS T' N = byS T N) (g : Option (Nat → Nat ⊕ (Bool × Nat))) : sngS T' N F line g = sngS T N F line g := by funext p; simp only [sngS, notL_by h, tK_by h, tA_by h, tB_by h, cmpS_by h]
theorem evL_by (h : byS T' N = byS T N) (g : Option (Nat → Nat ⊕ (Bool × Nat))) : evL T' N F line g = evL T N F line g := by
  funext f
  induction f with
  | zero => rfl
  | succ f ih => funext v p; simp only [evL, isW_by h, tA_by h, sngS_by h, ih]
theorem evS_by (h : byS T' N = byS T N) (g : Option (Nat → Nat ⊕ (Bool × Nat))) : evS T' N F line g = evS T N F line g := by funext p; simp only [evS, sngS_by h, evL_by h]
theorem orL_by (h : byS T' N = byS T N) (g : Option (Nat → Nat ⊕ (Bool × Nat))) : orL T' N F line g = orL T N F line g := by
  funext f
  induction f with
  | zero => rfl
  | succ f ih => funext v p; simp only [orL, isW_by h, tA_by h, evS_by h, ih]
theorem orS_by (h : byS T' N = byS T N) (g : Option (Nat → Nat ⊕ (Bool × Nat))) : orS T' N F line g = orS T N F line g := by funext p; simp only [orS, evS_by h, orL_by h]
theorem conS_by (h : byS T' N = byS T N) : conS T' N F line = conS T N F line := by
  funext r
  induction r with
  | zero => simp only [conS, orS_by h]
  | succ r ih => simp only [conS, orS_by h, ih]
theorem linS_by (h : byS T' N = byS T N) : linS T' N F = linS T N F := by funext l p; simp only [linS, conS_by h, tK_by h, tV_by h, tA_by h, tB_by h]
theorem reaL_by (h : byS T' N = byS T N) : reaL T' N F = reaL T N F := by
  funext f
  induction f with
  | zero => rfl
  | succ f ih => funext ls z p; simp only [reaL, tK_by h, tV_by h, tA_by h, tB_by h, linS_by h, ih]
theorem reaS_t (h : ∀ k, k < N → T' k = T k) : reaS T' N F = reaS T N F := by simp only [reaS, reaL_by (byS_by h)]
theorem LawOK.text {μ : MU} {l : Nat} (h : LawOK μ l T N) (q : ∀ k, k < N → T' k = T k) : LawOK μ l T' N := by
  obtain ⟨cs, c1, c2, H, h1, h2⟩ := h
  refine ⟨cs, c1, c2, H, fun F => ?_, h2⟩
  obtain ⟨k, z, k1, k2⟩ := h1 F
  exact ⟨k, z, by rw [reaS_t q]; exact k1, k2⟩
end TCONG
section AGAIN
variable {n : Nat} {st : Nat → Nat} {S : SH} {μ μ' : MU} {x b m c l : Nat} {D D' : DR}
theorem Il.cut (hI : Inv D) (hd : ∀ q, q < 2224 → D' q = D q) : Il D' := by
  have hz : ∀ l, l < 4 → D' (1020 + l) = D (1020 + l) := fun l hl => hd _ (by omega)
  refine ⟨by rw [hd 7 (by omega)]; exact hI.law, fun l hl q => ?_, fun l hl => by rw [hz l hl]; exact hI.size l hl, fun l k hl hk => ?_⟩
  · rw [hd 7 (by omega)] at q
    rw [hz l hl]
    exact hI.lawR l hl q
  · have e : nD D' (1020 + l) = nD D (1020 + l) := by simp only [nD, hz l hl]
    rw [e] at hk
    have hk' : k < 301 := by
      rcases hI.size l hl with h | ⟨v, hv, h⟩
      · rw [nD, h] at hk
        have z : (-1 : Int32).toNatClampNeg = 0 := by decide
        rw [z] at hk
        omega
      · rw [nD, h, nI_clamp (by omega)] at hk
        omega
    have hk3 : k < 300 := by
      rcases hI.size l hl with h | ⟨v, hv, h⟩
      · rw [nD, h] at hk
        have z : (-1 : Int32).toNatClampNeg = 0 := by decide
        rw [z] at hk
        omega
      · rw [nD, h, nI_clamp (by omega)] at hk
        omega
    rw [hd (1024 + 300 * l + k) (by omega)]
    exact hI.byte l k hl hk
theorem Inv.cut (hI : Inv D) (hd : ∀ q, q < 2224 → D' q = D q) : Inv D' :=
  ⟨IA.congr hI (fun q h => hd q (by omega)), Iw.congr hI (fun q h => hd q (by omega)), Im.congr hI (fun q h => hd q (by omega)), Iv.congr hI (fun q h => hd q (by omega)), Ib.congr hI (fun q h => hd q (by omega)), Is.congr hI (fun q h => hd q (by omega)), Ix.congr hI (fun q h => hd q (by omega)), Ih.congr hI (fun q h => hd q (by omega)), Il.cut hI hd, Ir.congr hI (fun q h => hd q (by omega))⟩
theorem Sim.cut (hI : Inv D) (hs : Sim μ c D) (hd : ∀ q, q < 2224 → D' q = D q) : Sim μ c D' := by
  refine ⟨GA.congr hI hs (fun _ _ _ => rfl) (fun q h => hd q (by omega)), Gx.congr hI hs (fun _ _ _ => rfl) (fun q h => hd q (by omega)), Gw.congr hI hs (fun _ _ _ => rfl) (fun q h => hd q (by omega)), Gm.congr hI hs (fun _ _ _ => rfl) (fun q h => hd q (by omega)), Gv.congr hI hs (fun _ _ _ => rfl) (fun q h => hd q (by omega)), Gb.congr hI hs (fun _ _ _ => rfl) (fun q h => hd q (by omega)), Gs.congr hI hs (fun _ _ _ => rfl) (fun q h => hd q (by omega)), Ge.congr hI hs (fun _ _ _ => rfl) (fun q h => hd q (by omega)), Gr.congr hI hs (fun _ _ _ => rfl) (fun q h => hd q (by omega)), Gh.congr hI hs (fun _ _ _ => rfl) (fun q h => hd q (by omega)), fun l hl => ?_, hs.lawB⟩
  rw [hd (1020 + l) (by omega)]
  rcases hs.law l hl with h | ⟨h1, h2, h3⟩
  · exact Or.inl h
  · refine Or.inr ⟨h1, h2, h3.text (fun k hk => hd _ ?_)⟩
    rcases hI.size l hl with h | ⟨v, hv, h⟩
    · rw [h] at h1
      exact absurd (by decide) h1
    · rw [h, nI_clamp (by omega)] at hk
      omega
def cpS (μ : MU) (a b j : Nat) : MU := fun z i => if z = b ∧ j ≤ i ∧ i < 2224 then μ a i else μ z i
theorem cpS_at {a b j i : Nat} (h : j ≤ i) (h2 : i < 2224) : cpS μ a b j b i = μ a i := by simp [cpS, h, h2]
theorem cpS_ne {a b j z i : Nat} (h : ¬ z = b) : cpS μ a b j z i = μ z i := by simp [cpS, h]
theorem cpS_end {a b : Nat} : cpS μ a b 2224 = μ := by
  funext z i
  unfold cpS
  rw [if_neg (by omega)]
theorem cpS_up {a b j : Nat} (hab : a ≠ b) (hj : j < 2224) : cpS (up2 μ b j (μ a j)) a b (j + 1) = cpS μ a b j := by
  funext z i
  unfold cpS
  by_cases hz : z = b
  · subst hz
    by_cases hi : i = j
    · subst hi
      rw [if_neg (by omega), if_pos (by omega), up2_same]
    · by_cases h2 : j + 1 ≤ i ∧ i < 2224
      · rw [if_pos (by omega), if_pos (by omega), up2_ne (by omega)]
      · rw [if_neg (by omega), if_neg (by omega), up2_ne (by omega)]
  · rw [if_neg (by omega), if_neg (by omega), up2_ne (by omega)]
theorem r_againL (hS : ShM S m) : ∀ k j fu (μ : MU), j + k = 2224 → k < fu → b_X12_again_12 fu (some m) (nI j) (mkH n st S μ) = some (1, mkH n st S (cpS μ (m + 2) (m + 1) j)) := by
  intro k
  induction k with
  | zero =>
    intro j fu μ hj hf
    obtain ⟨fu, rfl⟩ : ∃ q, fu = q + 1 := ⟨fu - 1, by omega⟩
    obtain rfl : j = 2224 := by omega
    have hlt : ¬ nI 2224 < (2224 : Int32) := by decide
    simp only [b_X12_again_12, hlt, if_false, cpS_end]
  | succ k ih =>
    intro j fu μ hj hf
    obtain ⟨fu, rfl⟩ : ∃ q, fu = q + 1 := ⟨fu - 1, by omega⟩
    have hlt : nI j < (2224 : Int32) := nI_lt (b := 2224) (by omega) (by omega)
    have e1 : nI j + 1 = nI (j + 1) := nI_add j 1
    simp (disch := omega) only [b_X12_again_12, hlt, if_true, mR0 hS, mR1 hS, some_bind, mA1 hS, mS0 hS, e1]
    rw [ih (j + 1) fu _ (by omega) (by omega), cpS_up (by omega) (by omega)]
theorem r_keepL (hS : ShM S m) : ∀ k j fu (μ : MU), j + k = 2224 → k < fu → b_X12_keep_2 fu (some m) (nI j) (mkH n st S μ) = some (1, mkH n st S (up2 (cpS μ (m + 1) (m + 2) j) m 2 1)) := by
  intro k
  induction k with
  | zero =>
    intro j fu μ hj hf
    obtain ⟨fu, rfl⟩ : ∃ q, fu = q + 1 := ⟨fu - 1, by omega⟩
    obtain rfl : j = 2224 := by omega
    have hlt : ¬ nI 2224 < (2224 : Int32) := by decide
    simp only [b_X12_keep_2, hlt, if_false, cpS_end, mZ2_1 hS, some_bind]
  | succ k ih =>
    intro j fu μ hj hf
    obtain ⟨fu, rfl⟩ : ∃ q, fu = q + 1 := ⟨fu - 1, by omega⟩
    have hlt : nI j < (2224 : Int32) := nI_lt (b := 2224) (by omega) (by omega)
    have e1 : nI j + 1 = nI (j + 1) := nI_add j 1
    simp (disch := omega) only [b_X12_keep_2, hlt, if_true, mR0 hS, mR1 hS, some_bind, mA0 hS, mS1 hS, e1]
    rw [ih (j + 1) fu _ (by omega) (by omega), cpS_up (by omega) (by omega)]
theorem op_again (hR : R n st S μ x b) : Res (f_X11_again (some x)) (f_X12_again (some (x + 175))) n st S μ x b := by
  have hR' := hR
  obtain ⟨⟨hX, hS, hs, hI, hL0⟩, hRest⟩ := hR
  have hC := hX.city
  have hBase := hRest.2.2.2.1
  obtain ⟨D, hD⟩ : ∃ D, μ (x + 175 + 1) = D := ⟨_, rfl⟩
  replace hs : Sim μ (x + 1) (μ (x + 175 + 1)) := hs
  replace hI : Inv (μ (x + 175 + 1)) := hI
  rw [hD] at hs hI
  obtain ⟨e0, b0⟩ := hI.today
  obtain ⟨e1, b1⟩ := hI.wards
  obtain ⟨e2, b2⟩ := hI.men
  obtain ⟨e3, b3⟩ := hI.words
  obtain ⟨e4, b4⟩ := hI.bars
  obtain ⟨e5, b5⟩ := hI.shes
  obtain ⟨e6, b6⟩ := hI.wets
  obtain ⟨e8, b8⟩ := hI.heaped
  have z0 := hs.today
  have z1 := hs.wardN
  have z2 := hs.manN
  have z3 := hs.wordN
  have z4 := hs.barN
  have z5 := hs.sheN
  have z6 := hs.wetN
  have z8 := hs.heapN
  have hRest' := hRest
  obtain ⟨-, -, -, -, hn, K, ρ, hK, hSh⟩ := hRest'
  obtain ⟨hK1, hK2⟩ := hK
  have g1 : gR 11 1 (mkH n st S μ) (some x) = some K := gR_mk hX.obj.1 hK1
  cases K with
  | none =>
    simp only [] at hK2
    exact Res.same hR' (-3) (by simp only [f_X11_again, g1, some_bind, if_true]) (by simp only [f_X12_again, mI2 hS, some_bind, hK2, if_true])
  | some K =>
    simp only [] at hK2
    obtain ⟨k1, k2, k3, k4, k5, k6⟩ := hK2
    have nn : ¬ (some K : Option Nat) = none := fun h => by cases h
    obtain ⟨μ1, e1, e2, e3⟩ := k_become (n := n) (st := st) hC k4 (by omega) k5 k6
    have f2 : μ1 (x + 175) 2 = 1 := by rw [e3 _ _ (by omega)]; exact k1
    have i10 : ¬ (1 : Int32) = 0 := by decide
    have rl := r_againL (n := n) (st := st) hS 2224 0 FU μ1 (by omega) (by have : FU = 4000 := rfl; omega)
    obtain ⟨μ2, em⟩ : ∃ z, z = cpS μ1 (x + 175 + 2) (x + 175 + 1) 0 := ⟨_, rfl⟩
    have F : ∀ a j, ¬ (x + 1 ≤ a ∧ a < x + 143) → ¬ a = x + 176 → μ2 a j = μ a j := fun a j h1 h2 => by rw [em, cpS_ne (by omega), e3 a j (by omega)]
    have hD' : ∀ q, q < 2224 → μ2 (x + 175 + 1) q = μ (x + 177) q := fun q hq => by rw [em, cpS_at (by omega) hq, e3 _ _ (by omega)]
    have hI2 : Inv (μ2 (x + 175 + 1)) := k6.cut hD'
    have hs2 : Sim μ2 (x + 1) (μ2 (x + 175 + 1)) := Sim.cut k6 (Sim.congr k6 e2 (fun a j h => by rw [em]; exact cpS_ne (by omega)) (fun q => rfl)) hD'
    refine Res.core hRest 1 (μ1 := μ1) (μ2 := μ2) ?_ ?_ (Core.mk' hX hS hL0 (fun a j h => F a j (by omega) (by omega)) hs2 hI2) (fun a j h => F a j (by unfold oth at h; omega) (by unfold oth at h; omega))
    · simp only [f_X11_again, g1, some_bind, nn, if_false, xR0 hX, cck hC, e1]
    · rw [f_X12_again]
      simp only [mI2 hS, some_bind, f2, i10, if_false]
      rw [em]
      exact rl
end AGAIN
