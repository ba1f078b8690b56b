-- ===== hands: the call =====
section SLT
variable {al : Nat → Nat → Bool} {most : Nat}
theorem seP_lt : ∀ r i used (P P' : Nat → Nat), (∀ k, k < i → P k < most) → seP al most r i used P = some P' → ∀ k, k < i + r → P' k < most := by
  intro r
  induction r with
  | zero =>
    intro i used P P' hP h k hk
    rw [seP] at h
    obtain rfl := Option.some.inj h
    exact hP k (by omega)
  | succ r ih =>
    intro i used P P' hP h k hk
    rw [seP] at h
    have inner : ∀ q p, seL al (seP al most r (i + 1)) most i used P q p = some P' → ∀ k, k < i + (r + 1) → P' k < most := by
      intro q
      induction q with
      | zero => intro p h; cases h
      | succ q ihq =>
        intro p h k hk
        rw [seL] at h
        by_cases c : used < p ∨ most ≤ p
        · rw [if_pos c] at h; cases h
        · rw [if_neg c] at h
          by_cases c2 : okP al P i p i = true
          · rw [if_pos c2] at h
            cases hz : seP al most r (i + 1) (if p = used then used + 1 else used) (upN P i p) with
            | some P'' =>
              rw [hz] at h
              have h' : P'' = P' := Option.some.inj h
              subst h'
              exact ih (i + 1) _ _ _ (fun k hk => by
                by_cases hki : k = i
                · subst hki; rw [upN_at]; omega
                · rw [upN_ne hki]; exact hP k (by omega)) hz k (by omega)
            | none =>
              rw [hz] at h
              exact ihq (p + 1) h k hk
          · rw [if_neg c2] at h
            exact ihq (p + 1) h k hk
    exact inner 11 0 h k hk
end SLT
section HANDS4
variable {n : Nat} {st : Nat → Nat} {S : SH} {μ μ0 : MU} {x b m c l : Nat} {D : DR}
theorem r_h32 (hS : ShM S m) (hI : Inv D) (a1 : Int32) {M : Nat} (hM : M ≤ nD D 8) {P : Nat → Nat} (hn : ∀ z, z < M → seP (alH D) z (nD D 8) 0 0 (fun _ => 0) = none) (hP : seP (alH D) M (nD D 8) 0 0 (fun _ => 0) = some P) : ∀ k i fu (μ : MU), i + k = M → k < fu → μ (m + 1) = D → ∃ μ' : MU, b_X12_hands_32 fu (some m) a1 (nI i) (mkH n st S μ) = (if 1 < a1 then (gR 12 30 (mkH n st S μ') (some m)).bind fun v2 => (aI (mkH n st S μ') v2 (a1 - 10)).bind fun v3 => some (v3, mkH n st S μ') else b_X12_hands_68 FU (some m) a1 (nI M) (nI 0) (nI 0) (mkH n st S μ')) ∧ (∀ a z, ¬ a = m + 15 → μ' a z = μ a z) ∧ (∀ z, z < nD D 8 → μ' (m + 15) z = nI (P z)) := by
  have b8 := hI.heaped.2
  have z0 : nI 0 = (0 : Int32) := rfl
  intro k
  induction k with
  | zero =>
    intro i fu μ hi hf hD
    obtain ⟨fu, rfl⟩ : ∃ q, fu = q + 1 := ⟨fu - 1, by omega⟩
    obtain rfl : i = M := by omega
    obtain ⟨μ1, v1, v2, v3, v5⟩ := r_parts (n := n) (st := st) (most := i) hS hI (by omega) (nD D 8) 0 0 12 (fun _ => 0) μ (by omega) (by omega) (by omega) (fun k hk => absurd hk (by omega)) hD (fun k hk => absurd hk (by omega))
    rw [hP] at v1
    simp only [z0] at v1
    have i10 : ¬ bI (some P).isSome = 0 := by show ¬ (1 : Int32) = 0; decide
    refine ⟨μ1, ?_, v2, v5 P hP⟩
    simp only [b_X12_hands_32, rck hS, v1, some_bind, i10, if_false]
    rfl
  | succ k ih =>
    intro i fu μ hi hf hD
    obtain ⟨fu, rfl⟩ : ∃ q, fu = q + 1 := ⟨fu - 1, by omega⟩
    obtain ⟨μ1, v1, v2, v3, v5⟩ := r_parts (n := n) (st := st) (most := i) hS hI (by omega) (nD D 8) 0 0 12 (fun _ => 0) μ (by omega) (by omega) (by omega) (fun k hk => absurd hk (by omega)) hD (fun k hk => absurd hk (by omega))
    rw [hn i (by omega)] at v1
    simp only [z0] at v1
    have i10 : bI (none : Option (Nat → Nat)).isSome = 0 := rfl
    have e1 : nI i + 1 = nI (i + 1) := nI_add i 1
    obtain ⟨μ', w1, w2, w3⟩ := ih (i + 1) fu μ1 (by omega) (by omega) (by funext z; rw [v2 _ _ (by omega), hD])
    refine ⟨μ', ?_, fun a z h => by rw [w2 a z h, v2 a z h], w3⟩
    rw [← w1]
    simp only [b_X12_hands_32, rck hS, v1, some_bind, i10, if_true, e1]
theorem op_hands (hR : R n st S μ x b) (a1 : Int32) : Res (f_X11_hands (some x) a1) (f_X12_hands (some (x + 175)) a1) n st S μ x b := by
  have hR' := hR
  obtain ⟨⟨hX, hS, hs, hI, hL0⟩, hRest⟩ := hR
  have hC := hX.city
  have hBase := hRest.2.2.2.1
  obtain ⟨D, hD⟩ : ∃ D, μ (x + 175 + 1) = D := ⟨_, rfl⟩
  replace hs : Sim μ (x + 1) (μ (x + 175 + 1)) := hs
  replace hI : Inv (μ (x + 175 + 1)) := hI
  rw [hD] at hs hI
  obtain ⟨e0, b0⟩ := hI.today
  obtain ⟨e1, b1⟩ := hI.wards
  obtain ⟨e2, b2⟩ := hI.men
  obtain ⟨e3, b3⟩ := hI.words
  obtain ⟨e4, b4⟩ := hI.bars
  obtain ⟨e5, b5⟩ := hI.shes
  obtain ⟨e6, b6⟩ := hI.wets
  obtain ⟨e8, b8⟩ := hI.heaped
  have z0 := hs.today
  have z1 := hs.wardN
  have z2 := hs.manN
  have z3 := hs.wordN
  have z4 := hs.barN
  have z5 := hs.sheN
  have z6 := hs.wetN
  have z8 := hs.heapN
  have z0 : nI 0 = (0 : Int32) := rfl
  have c18 : gI 2 18 (mkH n st S μ) (some (x + 1)) = some (nI (nD D 8)) := by rw [cI18 hC, z8, e8]
  have fuL : FU = 4000 := rfl
  -- the class's parts
  obtain ⟨μ1, p1, p2, p3⟩ := k_al2 (n := n) (st := st) hX hs hI (nD D 8) 0 FU μ (by omega) (by omega) (fun _ _ _ => rfl) (fun z hz => absurd hz (by omega))
  have hs1 : Sim μ1 (x + 1) D := Sim.congr hI hs (fun a z h => p2 a z (by omega)) (fun q => rfl)
  obtain ⟨M, P, μ2, q1, q2, q3, q4, q5, q6⟩ := k_al87 (n := n) (st := st) hX hs1 hI (fun a ha => by
      rw [p3 a ha]
      exact congrArg nI (biN_congr (nD D 8) (fun j hj => alB_sym hI (hp_of hI ha).2 (hp_of hI hj).2))) (nD D 8) 0 FU μ1 (by omega) (by omega) (fun _ _ _ => rfl) (fun z hz => absurd hz (by omega))
  have hph : f_X11_partHeap (some x) (mkH n st S μ) = some (nI M, mkH n st S μ2) := by
    rw [f_X11_partHeap]
    exact p1.trans q1
  have hs2 : Sim μ2 (x + 1) D := Sim.congr hI hs1 (fun a z h => q6 a z (by omega)) (fun q => rfl)
  have P31 : ∀ z, z < nD D 8 → P z < 2 ^ 31 := fun z hz => by
    have := seP_lt _ _ _ _ _ (fun k hk => absurd hk (by omega)) q4 z (by omega)
    omega
  have hD2 : μ2 (x + 175 + 1) = D := by
    funext z
    rw [q6 _ _ (by omega), p2 _ _ (by omega), hD]
  obtain ⟨μ3, r1, r2, r3⟩ := r_h32 (n := n) (st := st) (m := x + 175) hS hI a1 q2 q3 q4 M 0 FU μ2 (by omega) (by omega) hD2
  have hR3 : R n st S μ3 x b := hR'.congr fun a j h => by
    unfold scr at h
    rw [r2 a j (by omega), q6 a j (by omega), p2 a j (by omega)]
  have hD3 : μ3 (x + 175 + 1) = D := by
    funext z
    rw [r2 _ _ (by omega)]
    exact congrFun hD2 z
  have r68 := r_h68 (n := n) (st := st) (m := x + 175) hS hD3 hI r3 P31 (M := M) (by omega) a1 M 0 FU 0 (by omega) (by omega)
  have khi := k_hired (n := n) (st := st) hX hs2 hI q5 P31 (M := M) (by omega) M 0 FU 0 (by omega) (by omega)
  have khi' : f_X11_hiredOf (some x) (nI M) (mkH n st S μ2) = some (nI (0 + cntB (hiB D P (nD D 8)) M 0)) := khi
  have l9 : (9 : Int32) + nI (nD D 8) = nI (9 + nD D 8) := nI_add 9 _
  have a8 : aI (mkH n st S μ) (some (x + 175 + 1)) 8 = some (nI (nD D 8)) := by
    rw [← e8, ← hD]
    exact mA0 (q := 8) hS (by omega)
  have a8' : aI (mkH n st S μ2) (some (x + 175 + 1)) 8 = some (nI (nD D 8)) := by
    rw [← e8, ← hD2]
    exact mA0 (q := 8) hS (by omega)
  by_cases c0 : a1 = 0
  · subst c0
    have t1 : (0 : Int32) < 10 := by decide
    have t2 : inS 0 0 1 = true := by decide
    have t3 : ¬ (1 : Int32) < 0 := by decide
    refine ⟨nI M, mkH n st S μ2, n, S, μ3, ?_, ?_, hR3⟩
    · simp only [f_X11_hands, t1, if_true, b_X11_hands_25, b_X11_hands_41, xck hX, hph, some_bind]
    · rw [f_X12_hands, s_in, some_bind, t2]
      rw [ite_bI0, if_pos rfl]
      refine r1.trans ?_
      rw [if_neg t3, r68, if_pos rfl]
  by_cases c1 : a1 = 1
  · subst c1
    have t1 : (1 : Int32) < 10 := by decide
    have t2 : inS 1 0 1 = true := by decide
    have t3 : ¬ (1 : Int32) < 1 := by decide
    have t4 : ¬ (1 : Int32) = 0 := by decide
    refine ⟨nI (0 + cntB (hiB D P (nD D 8)) M 0), mkH n st S μ2, n, S, μ3, ?_, ?_, hR3⟩
    · simp only [f_X11_hands, t1, if_true, b_X11_hands_25, b_X11_hands_41, xck hX, hph, some_bind, t4, if_false, khi']
    · rw [f_X12_hands, s_in, some_bind, t2]
      rw [ite_bI0, if_pos rfl]
      refine r1.trans ?_
      rw [if_neg t3, r68, if_neg t4]
  have t2 : inS a1 0 1 = false := by
    cases hz : inS a1 0 1 with
    | false => rfl
    | true =>
      obtain ⟨k, hk, e⟩ := inS_n (M := 1) (by omega) hz
      rcases (by omega : k = 0 ∨ k = 1) with rfl | rfl
      · exact absurd e c0
      · exact absurd e c1
  by_cases c2 : inS a1 10 (9 + nI (nD D 8)) = true
  · have c2' := c2
    rw [l9] at c2'
    have hN1 : 1 ≤ nD D 8 := by
      rcases Nat.eq_zero_or_pos (nD D 8) with h | h
      · have h10 : (10 : Int32).toInt = 10 := by decide
        have h9 : (nI (9 + 0)).toInt = 9 := by decide
        rw [h, inS, decide_eq_true_iff, i32_lt, i32_lt, h10, h9] at c2'
        omega
      · exact h
    obtain ⟨k, k1, k2, rfl⟩ := inS_lo (a := 10) (c := 9 + nD D 8) (by omega) (by omega) c2'
    obtain ⟨q, rfl⟩ : ∃ q, k = 10 + q := ⟨k - 10, by omega⟩
    have t1 : ¬ nI (10 + q) < (10 : Int32) := fun z => by
      have : nI (10 + q) < nI 10 := z
      simp (disch := omega) only [nn_lt] at this
      omega
    have t5 : nI (10 + q) - 10 = nI q := by
      have : (10 : Int32) + nI q = nI (10 + q) := nI_add 10 q
      rw [← this, Int32.add_comm, Int32.add_sub_cancel]
    have t6 : nI q < nI (nD D 8) := nI_lt (by omega) (by omega)
    have t3 : (1 : Int32) < nI (10 + q) := nI_lt (a := 1) (by omega) (by omega)
    have i10 : ¬ (1 : Int32) = 0 := by decide
    have ak : aI (mkH n st S μ2) (some (x + 172)) (nI q) = some (nI (P q)) := by rw [xAPOf hX (by omega), q5 q (by omega)]
    have ar : aI (mkH n st S μ3) (some (x + 175 + 15)) (nI q) = some (nI (P q)) := by rw [mA30 hS (by omega), r3 q (by omega)]
    refine ⟨nI (P q), mkH n st S μ2, n, S, μ3, ?_, ?_, hR3⟩
    · simp only [f_X11_hands, t1, if_false, xR0 hX, some_bind, c18, t5, t6, if_true, b_X11_hands_25, b_X11_hands_41, xck hX, hph, c0, c1, i10, xR14 hX, ak]
    · rw [f_X12_hands, s_in, some_bind, t2]
      simp only [ite_bI0, Bool.false_eq_true, if_false, mR0 hS, some_bind, a8', s_in, c2, if_true]
      refine r1.trans ?_
      simp only [t3, if_true, mR30 hS, some_bind, t5, ar]
  · have hcl : f_X11_hands (some x) a1 (mkH n st S μ) = b_X11_hands_25 (some x) a1 0 (mkH n st S μ) := by
      by_cases t1 : a1 < 10
      · simp only [f_X11_hands, t1, if_true]
      · have t6 : ¬ a1 - 10 < nI (nD D 8) := fun z => by
          apply c2
          have h10 : (10 : Int32).toInt = 10 := by decide
          have hb := Int32.toInt_lt a1
          have t1' : ¬ a1.toInt < 10 := fun q => t1 (i32_lt.mpr (by rw [h10]; exact q))
          have hs' : (a1 - 10).toInt = a1.toInt - 10 := by
            rw [i32_sub (by rw [h10]; omega) (by rw [h10]; omega), h10]
          rw [i32_lt, hs', nI_toInt (by omega)] at z
          rw [l9, inS, decide_eq_true_iff, i32_lt, i32_lt, h10, nI_toInt (by omega)]
          omega
        simp only [f_X11_hands, t1, if_false, xR0 hX, some_bind, c18, t6]
    refine Res.same hR' (-1) ?_ ?_
    · rw [hcl]
      simp only [b_X11_hands_25, c0, c1, if_false, if_true]
    · simp only [f_X12_hands, s_in, some_bind, t2, ite_bI0, Bool.false_eq_true, if_false, mR0 hS, a8, c2]
end HANDS4
