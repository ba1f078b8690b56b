-- ===== shelf, taken =====
section SHELF
variable {n n' : Nat} {st : Nat → Nat} {S S' : SH} {μ μ' : MU} {x b m c l : Nat} {D : DR}
/-- what lies on shelf k has changed -/
theorem R.shelf (hR : R n st S μ x b) {k : Nat} (hk : k < 4) {a2 a3 A B : Int32} {sl : Option Nat} {S4 : SH} {μ3 : MU} (hS4 : S4 = slS S (x + 171) k sl) (hn : ∀ a j, ¬ (j = k ∧ (a = x + 169 ∨ a = x + 170 ∨ a = x + 195 ∨ a = x + 196)) → μ3 a j = μ a j) (h1 : μ3 (x + 169) k = a2) (h2 : μ3 (x + 170) k = a3) (h3 : μ3 (x + 195) k = A) (h4 : μ3 (x + 196) k = B)
    (h : (A = 0 ∧ sl = none ∧ (a2 = 3 ∨ a2 = 4)) ∨ (∃ w q, w < 3 ∧ q < 40 ∧ A = nI (w + 1) ∧ B = nI q ∧ sl = none ∧ a2 = nI w ∧ a3 = nI q) ∨ (∃ r q, r < 8 ∧ q < 4 ∧ μ (x + 191) q = nI r ∧ A = 4 ∧ B = nI r ∧ (S (x + 168)).2.2 q = some sl ∧ a2 = 3)) : R n st S4 μ3 x b := by
  obtain ⟨hCo, hTape, hRows, hTrace, hBase, hn8, K, ρ, hK, hSh⟩ := hR
  have hX := hCo.1
  have hS := hCo.2.1
  have s4o : ∀ a, ¬ a = x + 171 → S4 a = S a := fun a h' => by rw [hS4, slS_ne h']
  have s48 : S4 (x + 171) = (106, 4, fun j => if j = k then some sl else (S (x + 171)).2.2 j) := by rw [hS4, slS_at, hX.shelfRow.1, hX.shelfRow.2]
  have hX4 : ShX S4 x := hX.to (fun a _ _ _ h1 => s4o a h1) ⟨by rw [s4o _ (by omega)], by rw [s4o _ (by omega)], fun j _ => by rw [s4o _ (by omega)]⟩ ⟨by rw [s4o _ (by omega)], by rw [s4o _ (by omega)]⟩ (by rw [s48, hX.shelfRow.1, hX.shelfRow.2]; exact ⟨rfl, rfl⟩)
  have hS4' : ShM S4 (x + 175) := hS.to (fun a _ _ => s4o a (by omega))
  refine ⟨hCo.to hX4 hS4' (fun a q h => hn a q (by omega)) (fun q => hn _ _ (by omega)), hTape.congr (fun a q h => hn a q (by omega)), hRows.congr (fun a q h => hn a q (by omega)), hTrace.congr (fun a q h => hn a q (by omega)), hBase.congr (fun a h => s4o a (by omega)) (fun a q h => hn a q (by omega)), hn8, K, ρ, hK.to (Nat.le_refl _) (by rw [s4o _ (by omega)]) (fun k' hk' a h1 h2 => ?_) (fun a q h => hn a q (by omega)) (fun k' hk' a q h1 h2 => ?_), ?_⟩
  · have hk2 := hK.2
    rw [hk'] at hk2
    simp only [] at hk2
    exact s4o a (by omega)
  · have hk2 := hK.2
    rw [hk'] at hk2
    simp only [] at hk2
    exact hn a q (by omega)
  · obtain ⟨s1, s2, s3, s4⟩ := hSh
    have hu : ∀ r, r < 8 → usedR μ3 x r → usedR μ x r := by
      rintro r hr ⟨q, hq, hh⟩
      rw [hn (x + 191) q (by omega)] at hh
      by_cases e : q = k
      · subst e
        rcases hh with hh | ⟨g1, g2⟩
        · exact ⟨q, hq, Or.inl hh⟩
        · rw [h3] at g1
          rw [h4] at g2
          rcases h with ⟨e1, -⟩ | ⟨w, z, w1, w2, w3, -⟩ | ⟨r', z, z1, z2, z3, z4, z5, -⟩
          · rw [e1] at g1; exact absurd g1 (by decide)
          · rw [w3] at g1
            exact absurd ((nI_eq (b := 4) (by omega) (by omega)).mp g1) (by omega)
          · rw [z5] at g2
            rw [(nI_eq (by omega) (by omega)).mp g2] at z3
            exact ⟨z, z2, Or.inl z3⟩
      · rw [hn (x + 195) q (by omega), hn (x + 196) q (by omega)] at hh
        exact ⟨q, hq, hh⟩
    refine ⟨fun q hq => by rw [hn _ _ (by omega), s4o _ (by omega)]; exact s1 q hq, fun q hq => ?_, fun r hr hur => ?_, fun r1 r2 q1 q2 q3 q4 => s4 r1 r2 q1 q2 (hu r1 q1 q3) (hu r2 q2 q4)⟩
    · by_cases e : q = k
      · subst e
        rw [h1, h2, h3, h4, s48]
        simp only [if_true]
        rcases h with ⟨e1, e2, e3⟩ | ⟨w, z, w1, w2, w3, w4, w5, w6, w7⟩ | ⟨r', z, z1, z2, z3, z4, z5, z6, z7⟩
        · exact Or.inl ⟨e1, by rw [e2], e3⟩
        · exact Or.inr (Or.inl ⟨w, z, w1, w2, w3, w4, by rw [w5], w6, w7⟩)
        · refine Or.inr (Or.inr ⟨r', z1, z4, z5, ?_, z7⟩)
          rcases s1 z z2 with ⟨g1, -⟩ | ⟨r2, g1, g2, g3⟩
          · rw [z3] at g1; exact absurd g1 (n1_ne (by omega))
          · rw [z3] at g2
            rw [(nI_eq (by omega) (by omega)).mp g2, ← g3, z6]
      · rw [hn _ _ (by omega), hn _ _ (by omega), hn _ _ (by omega), hn _ _ (by omega), s48]
        simp only [e, if_false]
        exact s2 q hq
    · obtain ⟨⟨p1, len, p2, p3, p4, p5, p6, p7⟩, p8, p9⟩ := s3 r hr (hu r hr hur)
      exact ⟨⟨p1.to (s4o _ (by omega)), len, p2, p3.to (s4o _ (by omega)), by rw [hn _ _ (by omega)]; exact p4, by rw [hn _ _ (by omega), hn _ _ (by omega)]; exact p5, by rw [hn _ _ (by omega)]; exact p6, fun i hi => by rw [hn _ _ (by omega), hn _ _ (by omega)]; exact p7 i hi⟩, p8, p9⟩
theorem op_shelf (hR : R n st S μ x b) (a1 a2 a3 : Int32) : Res (f_X11_shelf (some x) a1 a2 a3) (f_X12_shelf (some (x + 175)) a1 a2 a3) n st S μ x b := by
  have hR' := hR
  obtain ⟨⟨hX, hS, hs, hI, hL0⟩, hRest⟩ := hR
  have hC := hX.city
  have hBase := hRest.2.2.2.1
  obtain ⟨D, hD⟩ : ∃ D, μ (x + 175 + 1) = D := ⟨_, rfl⟩
  replace hs : Sim μ (x + 1) (μ (x + 175 + 1)) := hs
  replace hI : Inv (μ (x + 175 + 1)) := hI
  rw [hD] at hs hI
  obtain ⟨e0, b0⟩ := hI.today
  obtain ⟨e1, b1⟩ := hI.wards
  obtain ⟨e2, b2⟩ := hI.men
  obtain ⟨e3, b3⟩ := hI.words
  obtain ⟨e4, b4⟩ := hI.bars
  obtain ⟨e5, b5⟩ := hI.shes
  obtain ⟨e6, b6⟩ := hI.wets
  obtain ⟨e8, b8⟩ := hI.heaped
  have z0 := hs.today
  have z1 := hs.wardN
  have z2 := hs.manN
  have z3 := hs.wordN
  have z4 := hs.barN
  have z5 := hs.sheN
  have z6 := hs.wetN
  have z8 := hs.heapN
  obtain ⟨-, -, -, -, hn, K, ρ, hK, hSh⟩ := hRest
  by_cases c1 : inS a1 0 3 = true
  case neg => exact Res.same hR' (-1) (by simp only [f_X11_shelf, k_within, some_bind, c1, ite_bI0, if_false, Bool.false_eq_true]) (by simp only [f_X12_shelf, s_isFour, some_bind, c1, ite_bI0, if_false, Bool.false_eq_true])
  obtain ⟨k, hk, rfl⟩ := inS_n (M := 3) (by omega) c1
  have hk4 : k < 4 := by omega
  by_cases c2 : inS a2 0 4 = true
  case neg =>
    have hc : a2 < 0 ∨ 3 < a2 := by
      rw [inS, decide_eq_true_eq, Decidable.not_and_iff_not_or_not, Decidable.not_not, Decidable.not_not] at c2
      rcases c2 with h | h
      · exact Or.inl h
      · refine Or.inr ?_
        rw [Int32.lt_iff_toInt_lt] at h ⊢
        have e4 : (4 : Int32).toInt = 4 := by decide
        have e3 : (3 : Int32).toInt = 3 := by decide
        omega
    have h4 : ¬ a2 = 4 := fun q => by rw [q] at c2; exact c2 (by decide)
    have kH : f_X11_canHold (some x) a2 a3 (mkH n st S μ) = some 0 := by rw [f_X11_canHold, if_pos hc, if_neg h4]
    refine Res.same hR' (-1) ?_ ?_
    · simp only [f_X11_shelf, k_within, some_bind, c1, ite_bI0, if_true, xck hX, kH]
    · simp only [f_X12_shelf, s_isFour, s_in, some_bind, c1, c2, ite_bI0, if_true, if_false, Bool.false_eq_true]
  have e31 : ∀ (μ1 : MU) (q : Nat), q < 4 → aI (mkH n st S μ1) (some (x + 175 + 16)) (nI q) = some (μ1 (x + 191) q) := fun μ1 q hq => mA31 hS hq
  obtain ⟨t, ht, rfl⟩ := inS_n (M := 4) (by omega) c2
  -- what the class does
  obtain ⟨μ2, hμ2⟩ : ∃ q, q = up2 (up2 μ (x + 169) k (nI t)) (x + 170) k a3 := ⟨_, rfl⟩
  have n2 : ∀ a j, ¬ (j = k ∧ (a = x + 169 ∨ a = x + 170)) → μ2 a j = μ a j := fun a j h => by rw [hμ2, up2_ne (by omega), up2_ne (by omega)]
  have hD2 : μ2 (x + 175 + 1) = D := by funext q; rw [n2 _ _ (by omega), hD]
  have kx : ∀ sl : Option Nat, (∀ v, sl = some v → (S v).1 = 7) → f_X11_canHold (some x) (nI t) a3 (mkH n st S μ) = some 1 → (nI t = 3 → aR (mkH n st S μ2) (some (x + 168)) a3 = some sl) → (¬ nI t = 3 → sl = none) → f_X11_shelf (some x) (nI k) (nI t) a3 (mkH n st S μ) = some (1, mkH n st (slS S (x + 171) k sl) μ2) := by
    intro sl hsl kH h3 h3'
    have i10 : ¬ (1 : Int32) = 0 := by decide
    have sw : sI (mkH n st S μ) (some (x + 169)) (nI k) (nI t) = some (mkH n st S (up2 μ (x + 169) k (nI t))) := xSSWh hX hk4
    have sn : sI (mkH n st S (up2 μ (x + 169) k (nI t))) (some (x + 170)) (nI k) a3 = some (mkH n st S μ2) := by rw [hμ2]; exact xSSNu hX hk4
    have sr : sR (mkH n st S μ2) (some (x + 171)) (nI k) sl = some (mkH n st (slS S (x + 171) k sl) μ2) := sR_mk (k := 106) hX.shelfRow.1 (by omega) (by rw [hX.shelfRow.2]; exact hk4) (by rw [hX.shelfRow.2]; omega) (fun v hv => hsl v hv)
    simp only [f_X11_shelf, k_within, some_bind, c1, ite_bI0, if_true, xck hX, kH, i10, if_false, xR11 hX, sw, xR12 hX, sn, xR13 hX]
    by_cases h : nI t = 3
    · rw [if_pos h]
      simp only [xR10 hX, some_bind, h3 h, b_X11_shelf_54, sr]
    · rw [if_neg h]
      rw [h3' h] at sr ⊢
      simp only [b_X11_shelf_54, sr, some_bind]
  have nox : f_X11_canHold (some x) (nI t) a3 (mkH n st S μ) = some 0 → f_X11_shelf (some x) (nI k) (nI t) a3 (mkH n st S μ) = some (-1, mkH n st S μ) := fun kH => by
    simp only [f_X11_shelf, k_within, some_bind, c1, ite_bI0, if_true, xck hX, kH]
  -- what the reference does
  have r163 : ∀ (S4 : SH) (μ1 : MU) (A B : Int32), ShM S4 (x + 175) → b_X12_shelf_163 (some (x + 175 + 21)) (nI k) B (mkH n st S4 (up2 μ1 (x + 175 + 20) k A)) = some (1, mkH n st S4 (up2 (up2 μ1 (x + 175 + 20) k A) (x + 175 + 21) k B)) := fun S4 μ1 A B h4 => by
    have := mS36 (n := n) (st := st) (μ := up2 μ1 (x + 175 + 20) k A) (v := B) h4 hk4
    rw [b_X12_shelf_163, this, some_bind]
  have fin : ∀ (A B : Int32) (sl : Option Nat), f_X11_shelf (some x) (nI k) (nI t) a3 (mkH n st S μ) = some (1, mkH n st (slS S (x + 171) k sl) μ2) → (∀ S4, ShM S4 (x + 175) → S4 = slS S (x + 171) k sl → f_X12_shelf (some (x + 175)) (nI k) (nI t) a3 (mkH n st S4 μ2) = some (1, mkH n st S4 (up2 (up2 μ2 (x + 175 + 20) k A) (x + 175 + 21) k B))) → ((A = 0 ∧ sl = none ∧ (nI t = 3 ∨ nI t = 4)) ∨ (∃ w q, w < 3 ∧ q < 40 ∧ A = nI (w + 1) ∧ B = nI q ∧ sl = none ∧ nI t = nI w ∧ a3 = nI q) ∨ (∃ r q, r < 8 ∧ q < 4 ∧ μ (x + 191) q = nI r ∧ A = 4 ∧ B = nI r ∧ (S (x + 168)).2.2 q = some sl ∧ nI t = 3)) → Res (f_X11_shelf (some x) (nI k) (nI t) a3) (f_X12_shelf (some (x + 175)) (nI k) (nI t) a3) n st S μ x b := by
    intro A B sl hx hm hcond
    obtain ⟨S4, hS4⟩ : ∃ q, q = slS S (x + 171) k sl := ⟨_, rfl⟩
    have hS4' : ShM S4 (x + 175) := hS.to (fun a _ _ => by rw [hS4, slS_ne (by omega)])
    refine ⟨1, mkH n st S4 μ2, n, S4, up2 (up2 μ2 (x + 175 + 20) k A) (x + 175 + 21) k B, by rw [hS4]; exact hx, hm S4 hS4' hS4, ?_⟩
    refine hR'.shelf hk4 hS4 (fun a j h => by rw [up2_ne (by omega), up2_ne (by omega), n2 a j (by omega)]) ?_ ?_ ?_ ?_ hcond
    · rw [up2_ne (by omega), up2_ne (by omega), hμ2, up2_ne (by omega), up2_same]
    · rw [up2_ne (by omega), up2_ne (by omega), hμ2, up2_same]
    · rw [up2_ne (by omega), show x + 195 = x + 175 + 20 from by omega, up2_same]
    · rw [show x + 196 = x + 175 + 21 from by omega, up2_same]
  have rh : ∀ (S4 : SH) (μ1 : MU), ShM S4 (x + 175) → f_X12_shelf (some (x + 175)) (nI k) (nI t) a3 (mkH n st S4 μ1) = if nI t = 0 then ((f_X12_isSherd (some (x + 175)) a3 (mkH n st S4 μ1)).bind fun v3 => b_X12_shelf_81 (some (x + 175)) (nI k) (nI t) a3 v3 (mkH n st S4 μ1)) else if nI t = 1 then (some (bI (inS a3 0 (μ1 (x + 175 + 1) 4 - 1)))).bind fun v6 => b_X12_shelf_81 (some (x + 175)) (nI k) (nI t) a3 v6 (mkH n st S4 μ1) else if nI t = 2 then (f_X12_isMan (some (x + 175)) a3 (mkH n st S4 μ1)).bind fun v7 => b_X12_shelf_81 (some (x + 175)) (nI k) (nI t) a3 v7 (mkH n st S4 μ1) else if nI t = 4 then b_X12_shelf_81 (some (x + 175)) (nI k) (nI t) a3 1 (mkH n st S4 μ1) else if bI (inS a3 0 3) = 0 then b_X12_shelf_81 (some (x + 175)) (nI k) (nI t) a3 0 (mkH n st S4 μ1) else b_X12_shelf_81 (some (x + 175)) (nI k) (nI t) a3 1 (mkH n st S4 μ1) := by
    intro S4 μ1 h4
    have a4 := mA0 (n := n) (st := st) (μ := μ1) h4 (q := 4) (by omega)
    simp only [f_X12_shelf, s_isFour, s_in, some_bind, c1, c2, ite_bI0, if_true, rck h4, mR0 h4, lit_aI, a4]
  have thing : ∀ (w N : Nat), w < 3 → t = w → N ≤ 40 → f_X11_canHold (some x) (nI t) a3 (mkH n st S μ) = some (bI (ixB a3 N)) → (∀ (S4 : SH) (μ1 : MU), ShM S4 (x + 175) → μ1 (x + 175 + 1) = D → f_X12_shelf (some (x + 175)) (nI k) (nI t) a3 (mkH n st S4 μ1) = b_X12_shelf_81 (some (x + 175)) (nI k) (nI t) a3 (bI (ixB a3 N)) (mkH n st S4 μ1)) → Res (f_X11_shelf (some x) (nI k) (nI t) a3) (f_X12_shelf (some (x + 175)) (nI k) (nI t) a3) n st S μ x b := by
    intro w N hw htw hN kH rH
    have bt : ¬ bI true = 0 := by decide
    have n3 : ¬ nI t = 3 := fun q => by have := (nI_eq (b := 3) (by omega) (by omega)).mp q; omega
    have n4 : ¬ nI t = 4 := fun q => by have := (nI_eq (b := 4) (by omega) (by omega)).mp q; omega
    cases hc : ixB a3 N with
    | false =>
      rw [hc] at kH
      refine Res.same hR' (-1) (nox kH) ?_
      rw [rH S μ hS hD, hc, b_X12_shelf_81, if_pos (by decide)]
    | true =>
      rw [hc] at kH
      obtain ⟨q, hq, rfl⟩ := ixB_ex (by omega) hc
      refine fin (nI (t + 1)) (nI q) none (kx none (fun v hv => by cases hv) kH (fun h => absurd h n3) (fun _ => rfl)) (fun S4 h4 _ => ?_) (Or.inr (Or.inl ⟨t, q, by omega, by omega, rfl, rfl, rfl, rfl, rfl⟩))
      have s35 := mS35 (n := n) (st := st) (μ := μ2) (v := nI (t + 1)) h4 hk4
      rw [rH S4 μ2 h4 hD2, hc, b_X12_shelf_81, if_neg bt, if_neg n4, if_neg n3, b_X12_shelf_114]
      simp only [mR35 h4, some_bind, if_true, b_X12_shelf_133, nI_1, s35, mR36 h4]
      rw [if_neg n3]
      exact r163 S4 μ2 _ _ h4
  rcases (by omega : t = 0 ∨ t = 1 ∨ t = 2 ∨ t = 3 ∨ t = 4) with rfl | rfl | rfl | rfl | rfl
  · have g1 : ¬ (nI 0 < 0 ∨ 3 < nI 0) := by decide
    have g2 : nI 0 = (0 : Int32) := rfl
    refine thing 0 (nD D 5) (by omega) rfl (by omega) ?_ ?_
    · rw [f_X11_canHold, if_neg g1, if_pos g2]
      simp only [xR0 hX, some_bind, cck hC, k_hasSherd hC hs hI, rZ_bI]
    · intro S4 μ1 h4 hD1
      rw [rh S4 μ1 h4, if_pos g2, r_isSherd h4 hD1 hI, some_bind]
  · have g1 : ¬ (nI 1 < 0 ∨ 3 < nI 1) := by decide
    have g2 : ¬ nI 1 = (0 : Int32) := by decide
    have g3 : nI 1 = (1 : Int32) := rfl
    refine thing 1 (nD D 4) (by omega) rfl (by omega) ?_ ?_
    · rw [f_X11_canHold, if_neg g1, if_neg g2, if_pos g3]
      simp only [xR0 hX, some_bind, cck hC, k_hasBargain hC hs hI, rZ_bI]
    · intro S4 μ1 h4 hD1
      rw [rh S4 μ1 h4, if_neg g2, if_pos g3, some_bind, hD1, e4, ixB_in (by omega)]
  · have g1 : ¬ (nI 2 < 0 ∨ 3 < nI 2) := by decide
    have g2 : ¬ nI 2 = (0 : Int32) := by decide
    have g3 : ¬ nI 2 = (1 : Int32) := by decide
    have g4 : nI 2 = (2 : Int32) := rfl
    refine thing 2 (nD D 2) (by omega) rfl (by omega) ?_ ?_
    · rw [f_X11_canHold, if_neg g1, if_neg g2, if_neg g3, if_pos g4]
      simp only [xR0 hX, some_bind, cck hC, k_hasMan hC hs hI, rZ_bI]
    · intro S4 μ1 h4 hD1
      rw [rh S4 μ1 h4, if_neg g2, if_neg g3, if_pos g4, r_isMan h4 hD1 hI, some_bind]
  · have g1 : ¬ (nI 3 < 0 ∨ 3 < nI 3) := by decide
    have g2 : ¬ nI 3 = (0 : Int32) := by decide
    have g3 : ¬ nI 3 = (1 : Int32) := by decide
    have g4 : ¬ nI 3 = (2 : Int32) := by decide
    have g5 : nI 3 = (3 : Int32) := rfl
    have g6 : ¬ nI 3 = (4 : Int32) := by decide
    have bt : ¬ bI true = 0 := by decide
    have i10 : ¬ (1 : Int32) = 0 := by decide
    have kH : f_X11_canHold (some x) (nI 3) a3 (mkH n st S μ) = some (bI (inS a3 0 3)) := by
      rw [f_X11_canHold, if_neg g1, if_neg g2, if_neg g3, if_neg g4, if_pos g5]
      simp only [k_within, some_bind, rZ_bI]
    cases hc : inS a3 0 3 with
    | false =>
      rw [hc] at kH
      refine Res.same hR' (-1) (nox kH) ?_
      rw [rh S μ hS, if_neg g2, if_neg g3, if_neg g4, if_neg g6, hc, if_pos (by decide), b_X12_shelf_81, if_pos rfl]
    | true =>
      rw [hc] at kH
      obtain ⟨q, hq, rfl⟩ := inS_n (M := 3) (by omega) hc
      have hq4 : q < 4 := by omega
      have rH : ∀ S4, ShM S4 (x + 175) → f_X12_shelf (some (x + 175)) (nI k) (nI 3) (nI q) (mkH n st S4 μ2) = if μ (x + 191) q < 0 then b_X12_shelf_114 (some (x + 175)) (nI k) (nI 3) (nI q) 1 (mkH n st S4 μ2) else b_X12_shelf_114 (some (x + 175)) (nI k) (nI 3) (nI q) 0 (mkH n st S4 μ2) := by
        intro S4 h4
        have a31 : aI (mkH n st S4 μ2) (some (x + 175 + 16)) (nI q) = some (μ (x + 191) q) := by rw [← n2 (x + 191) q (by omega)]; exact mA31 h4 hq4
        rw [rh S4 μ2 h4, if_neg g2, if_neg g3, if_neg g4, if_neg g6, hc, if_neg bt, b_X12_shelf_81, if_neg i10, if_neg g6, if_pos g5]
        simp only [mR31 h4, some_bind, a31]
      have hkr : kRef (S (x + 168)).1 = true := by rw [hX.sheets.1]; rfl
      have hkl : q < (S (x + 168)).2.1 := by rw [hX.sheets.2]; exact hq4
      have hk3 : (S (x + 168)).2.1 < 2 ^ 31 := by rw [hX.sheets.2]; omega
      rcases hSh.1 q hq4 with ⟨h1, h2⟩ | ⟨r, hr, h1, h2⟩
      · refine fin 0 0 none (kx none (fun v hv => by cases hv) kH (fun _ => aR_mk hkr hkl hk3 h2) (fun _ => rfl)) (fun S4 h4 _ => ?_) (Or.inl ⟨rfl, rfl, Or.inl rfl⟩)
        have s35 := mS35 (n := n) (st := st) (μ := μ2) (v := 0) h4 hk4
        rw [rH S4 h4, h1, if_pos (by decide), b_X12_shelf_114]
        simp only [mR35 h4, some_bind, i10, if_false, b_X12_shelf_133, s35, mR36 h4]
        exact r163 S4 μ2 _ _ h4
      · have hrow := (hSh.2.2.1 r hr ⟨q, hq4, Or.inl h1⟩).1
        refine fin 4 (nI r) (some (ρ r)) (kx (some (ρ r)) (fun v hv => by obtain rfl := Option.some.inj hv; exact hrow.1.1) kH (fun _ => aR_mk hkr hkl hk3 h2) (fun h => absurd g5 h)) (fun S4 h4 _ => ?_) (Or.inr (Or.inr ⟨r, q, hr, hq4, h1, rfl, rfl, h2, rfl⟩))
        have s35 := mS35 (n := n) (st := st) (μ := μ2) (v := 4) h4 hk4
        have a31 : aI (mkH n st S4 (up2 μ2 (x + 175 + 20) k 4)) (some (x + 175 + 16)) (nI q) = some (nI r) := by
          have := mA31 (n := n) (st := st) (μ := up2 μ2 (x + 175 + 20) k 4) h4 hq4
          rw [up2_ne (by omega), n2 (x + 175 + 16) q (by omega)] at this
          rw [← h1]; exact this
        have e4' : nI 3 + 1 = (4 : Int32) := rfl
        rw [rH S4 h4, h1, if_neg (nI_pos (by omega)), b_X12_shelf_114]
        simp only [mR35 h4, some_bind, if_true, b_X12_shelf_133, e4', s35, mR36 h4]
        rw [if_pos g5]
        simp only [mR31 h4, some_bind, a31]
        exact r163 S4 μ2 _ _ h4
  · have g1 : nI 4 < 0 ∨ 3 < nI 4 := by decide
    have g2 : ¬ nI 4 = (0 : Int32) := by decide
    have g3 : ¬ nI 4 = (1 : Int32) := by decide
    have g4 : ¬ nI 4 = (2 : Int32) := by decide
    have g5 : ¬ nI 4 = (3 : Int32) := by decide
    have g6 : nI 4 = (4 : Int32) := rfl
    have i10 : ¬ (1 : Int32) = 0 := by decide
    refine fin 0 0 none (kx none (fun v hv => by cases hv) (by rw [f_X11_canHold, if_pos g1, if_pos g6]) (fun h => absurd h g5) (fun _ => rfl)) (fun S4 h4 _ => ?_) (Or.inl ⟨rfl, rfl, Or.inr rfl⟩)
    have s35 := mS35 (n := n) (st := st) (μ := μ2) (v := 0) h4 hk4
    rw [rh S4 μ2 h4, if_neg g2, if_neg g3, if_neg g4, if_pos g6, b_X12_shelf_81, if_neg i10, if_pos g6, b_X12_shelf_114]
    simp only [mR35 h4, some_bind, i10, if_false, b_X12_shelf_133, s35, mR36 h4]
    exact r163 S4 μ2 _ _ h4
end SHELF
