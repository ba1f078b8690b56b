-- ===== hands =====
def hiB (D : DR) (P : Nat → Nat) (N p : Nat) : Bool := decide (3 ≤ cntB (fun k => decide (P k = p)) N 0) && decide (2 ≤ popN 16 (orK (fun k => if P k = p then gbS D (nD D (1011 + k)) else 0) N))
section HANDS3
variable {n : Nat} {st : Nat → Nat} {S : SH} {μ μ0 : MU} {x b m c l : Nat} {D : DR}
theorem hp_of (hI : Inv D) {k : Nat} (hk : k < nD D 8) : D (1011 + k) = nI (nD D (1011 + k)) ∧ nD D (1011 + k) < nD D 5 := by
  obtain ⟨s, hs, e⟩ := hI.hp k hk
  have b5 := hI.shes.2
  rw [nD_of e (by omega)]
  exact ⟨e, hs⟩
theorem k_al22 (hX : ShX S x) (hs : Sim μ0 (x + 1) D) (hI : Inv D) (k2 : Option Nat → Int32 → AH → Option (Int32 × AH)) {i : Nat} (hi : i < nD D 8) : ∀ k j fu (μ : MU), j + k = nD D 8 → k < fu → (∀ a z, ¬ a = x + 174 → μ a z = μ0 a z) → μ (x + 174) i = nI (biN (fun j => alH D i j) j) → ∃ μ' : MU, b_X11_partHeap_22 k2 fu (some x) (nI i) (nI j) (mkH n st S μ) = k2 (some x) (nI (i + 1)) (mkH n st S μ') ∧ (∀ a z, ¬ (a = x + 174 ∧ z = i) → μ' a z = μ a z) ∧ μ' (x + 174) i = nI (biN (fun j => alH D i j) (nD D 8)) := by
  have b8 := hI.heaped.2
  have e8 := hI.heaped.1
  have b5 := hI.shes.2
  have hC := hX.city
  intro k
  induction k with
  | zero =>
    intro j fu μ hj hf hF hv
    obtain ⟨fu, rfl⟩ : ∃ q, fu = q + 1 := ⟨fu - 1, by omega⟩
    obtain rfl : j = nD D 8 := by omega
    have g : ¬ nI (nD D 8) < nI (nD D 8) := fun q => by simp (disch := omega) only [nn_lt] at q; omega
    have c18 : gI 2 18 (mkH n st S μ) (some (x + 1)) = some (nI (nD D 8)) := by rw [cI18 hC, hF _ _ (by omega), hs.heapN, e8]
    have e1 : nI i + 1 = nI (i + 1) := nI_add i 1
    exact ⟨μ, by simp only [b_X11_partHeap_22, xR0 hX, some_bind, c18, g, if_false, e1], fun _ _ _ => rfl, hv⟩
  | succ k ih =>
    intro j fu μ hj hf hF hv
    obtain ⟨fu, rfl⟩ : ∃ q, fu = q + 1 := ⟨fu - 1, by omega⟩
    have g : nI j < nI (nD D 8) := nI_lt (by omega) (by omega)
    have c18 : gI 2 18 (mkH n st S μ) (some (x + 1)) = some (nI (nD D 8)) := by rw [cI18 hC, hF _ _ (by omega), hs.heapN, e8]
    have e1 : nI j + 1 = nI (j + 1) := nI_add j 1
    obtain ⟨ei, si⟩ := hp_of hI hi
    obtain ⟨ej, sj⟩ := hp_of hI (k := j) (by omega)
    have ai : aI (mkH n st S μ) (some (x + 1 + 12)) (nI i) = some (nI (nD D (1011 + i))) := by rw [ob_aI hC.heap (by omega) (by omega), hF _ _ (by omega), hs.heap i hi, ← ei]
    have aj : aI (mkH n st S μ) (some (x + 1 + 12)) (nI j) = some (nI (nD D (1011 + j))) := by rw [ob_aI hC.heap (by omega) (by omega), hF _ _ (by omega), hs.heap j (by omega), ← ej]
    have hsμ : Sim μ (x + 1) D := Sim.congr hI hs (fun a z h => hF a z (by omega)) (fun q => rfl)
    have ra := k_areAlike (n := n) (st := st) hC hsμ hI si sj
    by_cases ha : alB D (nD D (1011 + i)) (nD D (1011 + j)) = true
    · have s1 : (1 : Int32) <<< (nI j &&& 31) = nI (2 ^ j) := shl1 (by omega)
      have a4 : aI (mkH n st S μ) (some (x + 174)) (nI i) = some (nI (biN (fun j => alH D i j) j)) := by rw [xAAli hX (by omega), hv]
      have eb : biN (fun j => alH D i j) (j + 1) = biN (fun j => alH D i j) j ||| 2 ^ j := by rw [or_pow (biN_lt _ _), biN, alH, ha, if_pos rfl]
      obtain ⟨μ', w1, w2, w3⟩ := ih (j + 1) fu (up2 μ (x + 174) i (nI (biN (fun j => alH D i j) (j + 1)))) (by omega) (by omega) (fun a z h => by rw [up2_ne (by omega), hF a z h]) up2_same
      refine ⟨μ', ?_, fun a z h => by rw [w2 a z h, up2_ne h], w3⟩
      rw [← w1]
      simp (disch := omega) only [b_X11_partHeap_22, xR0 hX, some_bind, c18, g, if_true, cR17 hC, ai, aj, cck hC, ra, ha, ite_bI0, xR16 hX, a4, s1, orN, xSAli hX, e1, eb]
    · have eb : biN (fun j => alH D i j) (j + 1) = biN (fun j => alH D i j) j := by rw [biN, alH, if_neg ha, Nat.add_zero]
      obtain ⟨μ', w1, w2, w3⟩ := ih (j + 1) fu μ (by omega) (by omega) hF (by rw [eb]; exact hv)
      refine ⟨μ', ?_, w2, w3⟩
      rw [← w1]
      simp (disch := omega) only [b_X11_partHeap_22, xR0 hX, some_bind, c18, g, if_true, cR17 hC, ai, aj, cck hC, ra, ha, ite_bI0, if_false, Bool.false_eq_true, e1]
theorem k_al2 (hX : ShX S x) (hs : Sim μ0 (x + 1) D) (hI : Inv D) : ∀ k i fu (μ : MU), i + k = nD D 8 → k < fu → (∀ a z, ¬ a = x + 174 → μ a z = μ0 a z) → (∀ z, z < i → μ (x + 174) z = nI (biN (fun j => alH D z j) (nD D 8))) → ∃ μ' : MU, b_X11_partHeap_2 fu (some x) (nI i) (mkH n st S μ) = b_X11_partHeap_87 FU (some x) (nI 0) (mkH n st S μ') ∧ (∀ a z, ¬ a = x + 174 → μ' a z = μ0 a z) ∧ (∀ z, z < nD D 8 → μ' (x + 174) z = nI (biN (fun j => alH D z j) (nD D 8))) := by
  have b8 := hI.heaped.2
  have e8 := hI.heaped.1
  have hC := hX.city
  intro k
  induction k with
  | zero =>
    intro i fu μ hi hf hF hv
    obtain ⟨fu, rfl⟩ : ∃ q, fu = q + 1 := ⟨fu - 1, by omega⟩
    obtain rfl : i = nD D 8 := by omega
    have g : ¬ nI (nD D 8) < nI (nD D 8) := fun q => by simp (disch := omega) only [nn_lt] at q; omega
    have c18 : gI 2 18 (mkH n st S μ) (some (x + 1)) = some (nI (nD D 8)) := by rw [cI18 hC, hF _ _ (by omega), hs.heapN, e8]
    refine ⟨μ, ?_, hF, hv⟩
    simp only [b_X11_partHeap_2, xR0 hX, some_bind, c18, g, if_false]
    rfl
  | succ k ih =>
    intro i fu μ hi hf hF hv
    obtain ⟨fu, rfl⟩ : ∃ q, fu = q + 1 := ⟨fu - 1, by omega⟩
    have g : nI i < nI (nD D 8) := nI_lt (by omega) (by omega)
    have c18 : gI 2 18 (mkH n st S μ) (some (x + 1)) = some (nI (nD D 8)) := by rw [cI18 hC, hF _ _ (by omega), hs.heapN, e8]
    obtain ⟨μ1, v1, v2, v3⟩ := k_al22 (n := n) (st := st) hX hs hI (b_X11_partHeap_2 fu) (i := i) (by omega) (nD D 8) 0 FU (up2 μ (x + 174) i 0) (by omega) (by have : FU = 4000 := rfl; omega) (fun a z h => by rw [up2_ne (by omega), hF a z h]) up2_same
    obtain ⟨μ', w1, w2, w3⟩ := ih (i + 1) fu μ1 (by omega) (by omega) (fun a z h => by rw [v2 a z (by omega), up2_ne (by omega), hF a z h]) (fun z hz => by
      by_cases hzi : z = i
      · subst hzi; exact v3
      · rw [v2 _ _ (by omega), up2_ne (by omega)]; exact hv z (by omega))
    refine ⟨μ', ?_, w2, w3⟩
    rw [← w1, ← v1]
    simp (disch := omega) only [b_X11_partHeap_2, xR0 hX, some_bind, c18, g, if_true, xR16 hX, xSAli hX]
    rfl
theorem k_al87 (hX : ShX S x) (hs : Sim μ0 (x + 1) D) (hI : Inv D) (hA : ∀ a, a < nD D 8 → μ0 (x + 174) a = nI (biN (fun j => alH D j a) (nD D 8))) : ∀ k i fu (μ : MU), i + k = nD D 8 → k < fu → (∀ a z, ¬ (a = x + 172 ∨ a = x + 173) → μ a z = μ0 a z) → (∀ z, z < i → seP (alH D) z (nD D 8) 0 0 (fun _ => 0) = none) → ∃ (M : Nat) (P : Nat → Nat) (μ' : MU), b_X11_partHeap_87 fu (some x) (nI i) (mkH n st S μ) = some (nI M, mkH n st S μ') ∧ M ≤ nD D 8 ∧ (∀ z, z < M → seP (alH D) z (nD D 8) 0 0 (fun _ => 0) = none) ∧ seP (alH D) M (nD D 8) 0 0 (fun _ => 0) = some P ∧ (∀ z, z < nD D 8 → μ' (x + 172) z = nI (P z)) ∧ (∀ a z, ¬ (a = x + 172 ∨ a = x + 173) → μ' a z = μ0 a z) := by
  have b8 := hI.heaped.2
  have e8 := hI.heaped.1
  have hC := hX.city
  have z0 : nI 0 = (0 : Int32) := rfl
  intro k
  induction k with
  | zero =>
    intro i fu μ hi hf hF hv
    obtain ⟨fu, rfl⟩ : ∃ q, fu = q + 1 := ⟨fu - 1, by omega⟩
    obtain rfl : i = nD D 8 := by omega
    have g : ¬ nI (nD D 8) < nI (nD D 8) := fun q => by simp (disch := omega) only [nn_lt] at q; omega
    have c18 : gI 2 18 (mkH n st S μ) (some (x + 1)) = some (nI (nD D 8)) := by rw [cI18 hC, hF _ _ (by omega), hs.heapN, e8]
    obtain ⟨μ1, v1, v2, v3, v4, v5⟩ := k_parts (n := n) (st := st) (al := alH D) (N := nD D 8) (most := nD D 8) hX (by omega) (by omega) (nD D 8) 0 0 12 (fun _ => 0) μ (by omega) (by omega) (by omega) (fun k hk => absurd hk (by omega)) (fun a ha => by rw [hF _ _ (by omega)]; exact hA a ha) (fun k hk => absurd hk (by omega)) (fun k hk => absurd hk (by omega))
    have hsm : (seP (alH D) (nD D 8) (nD D 8) 0 0 (fun _ => 0)).isSome = true := seP_some _ _ _ _ (by omega) (fun k hk => absurd hk (by omega)) (by omega)
    obtain ⟨P, hP⟩ := Option.isSome_iff_exists.mp hsm
    have c18' : gI 2 18 (mkH n st S μ1) (some (x + 1)) = some (nI (nD D 8)) := by rw [cI18 hC, v2 _ _ (by omega), hF _ _ (by omega), hs.heapN, e8]
    simp only [z0] at v1
    refine ⟨nD D 8, P, μ1, ?_, Nat.le_refl _, hv, hP, v5 P hP, fun a z h => by rw [v2 a z h, hF a z h]⟩
    simp only [b_X11_partHeap_87, xR0 hX, some_bind, c18, g, if_false, xR16 hX, xR15 hX, xR14 hX, v1, c18']
  | succ k ih =>
    intro i fu μ hi hf hF hv
    obtain ⟨fu, rfl⟩ : ∃ q, fu = q + 1 := ⟨fu - 1, by omega⟩
    have g : nI i < nI (nD D 8) := nI_lt (by omega) (by omega)
    have c18 : gI 2 18 (mkH n st S μ) (some (x + 1)) = some (nI (nD D 8)) := by rw [cI18 hC, hF _ _ (by omega), hs.heapN, e8]
    obtain ⟨μ1, v1, v2, v3, v4, v5⟩ := k_parts (n := n) (st := st) (al := alH D) (N := nD D 8) (most := i) hX (by omega) (by omega) (nD D 8) 0 0 12 (fun _ => 0) μ (by omega) (by omega) (by omega) (fun k hk => absurd hk (by omega)) (fun a ha => by rw [hF _ _ (by omega)]; exact hA a ha) (fun k hk => absurd hk (by omega)) (fun k hk => absurd hk (by omega))
    simp only [z0] at v1
    have e1 : nI i + 1 = nI (i + 1) := nI_add i 1
    cases hz : seP (alH D) i (nD D 8) 0 0 (fun _ => 0) with
    | some P =>
      rw [hz] at v1
      have i10 : ¬ bI (some P).isSome = 0 := by show ¬ (1 : Int32) = 0; decide
      refine ⟨i, P, μ1, ?_, by omega, hv, hz, v5 P hz, fun a z h => by rw [v2 a z h, hF a z h]⟩
      simp only [b_X11_partHeap_87, xR0 hX, some_bind, c18, g, if_true, xR16 hX, xR15 hX, xR14 hX, v1, i10, if_false]
    | none =>
      rw [hz] at v1
      have i10 : bI (none : Option (Nat → Nat)).isSome = 0 := rfl
      obtain ⟨M, P, μ', w1, w2⟩ := ih (i + 1) fu μ1 (by omega) (by omega) (fun a z h => by rw [v2 a z h, hF a z h]) (fun z hz' => by
        by_cases hzi : z = i
        · subst hzi; exact hz
        · exact hv z (by omega))
      refine ⟨M, P, μ', ?_, w2⟩
      rw [← w1]
      simp only [b_X11_partHeap_87, xR0 hX, some_bind, c18, g, if_true, xR16 hX, xR15 hX, xR14 hX, v1, i10, e1]
theorem orK_snoc (f : Nat → Nat) (k : Nat) : orK f (k + 1) = orK f k ||| f k := rfl
theorem k_hi18 (hX : ShX S x) (hs : Sim μ (x + 1) D) (hI : Inv D) {P : Nat → Nat} (hP : ∀ z, z < nD D 8 → μ (x + 172) z = nI (P z)) (hP9 : ∀ z, z < nD D 8 → P z < 2 ^ 31) (k4 : Option Nat → Int32 → Int32 → Int32 → Option Int32) (x1 x2 : Int32) {p : Nat} (hp : p < 2 ^ 31) : ∀ k j fu, j + k = nD D 8 → k < fu → b_X11_hiredOf_18 k4 (mkH n st S μ) fu (some x) x1 x2 (nI p) (nI (cntB (fun k => decide (P k = p)) j 0)) (nI (orK (fun k => if P k = p then gbS D (nD D (1011 + k)) else 0) j)) (nI j) = k4 (some x) x1 (if hiB D P (nD D 8) p then x2 + 1 else x2) (nI (p + 1)) := by
  have b8 := hI.heaped.2
  have e8 := hI.heaped.1
  have b5 := hI.shes.2
  have hC := hX.city
  have c18 : gI 2 18 (mkH n st S μ) (some (x + 1)) = some (nI (nD D 8)) := by rw [cI18 hC, hs.heapN, e8]
  have ep : nI p + 1 = nI (p + 1) := nI_add p 1
  intro k
  induction k with
  | zero =>
    intro j fu hj hf
    obtain ⟨fu, rfl⟩ : ∃ q, fu = q + 1 := ⟨fu - 1, by omega⟩
    obtain rfl : j = nD D 8 := by omega
    have g : ¬ nI (nD D 8) < nI (nD D 8) := fun q => by simp (disch := omega) only [nn_lt] at q; omega
    have hcl := cntB_le (fun k => decide (P k = p)) (nD D 8) 0
    have hor : orK (fun k => if P k = p then gbS D (nD D (1011 + k)) else 0) (nD D 8) < 2 ^ 5 := orK_lt _ (fun i hi => by
      split
      · exact gbS_lt hI (hp_of hI hi).2
      · exact Nat.two_pow_pos 5)
    have hor16 : orK (fun k => if P k = p then gbS D (nD D (1011 + k)) else 0) (nD D 8) < 2 ^ 16 := Nat.lt_of_lt_of_le hor (by decide)
    have hbc := k_bitCount hor16 (mkH n st S μ)
    have hpl := popN_le 16 (orK (fun k => if P k = p then gbS D (nD D (1011 + k)) else 0) (nD D 8))
    by_cases q1 : 3 ≤ cntB (fun k => decide (P k = p)) (nD D 8) 0
    · have g3 : ¬ nI (cntB (fun k => decide (P k = p)) (nD D 8) 0) < (3 : Int32) := fun q => by
        have : nI (cntB (fun k => decide (P k = p)) (nD D 8) 0) < nI 3 := q
        simp (disch := omega) only [nn_lt] at this
        omega
      by_cases q2 : 2 ≤ popN 16 (orK (fun k => if P k = p then gbS D (nD D (1011 + k)) else 0) (nD D 8))
      · have g4 : ¬ nI (popN 16 (orK (fun k => if P k = p then gbS D (nD D (1011 + k)) else 0) (nD D 8))) < (2 : Int32) := fun q => by
          have : nI (popN 16 (orK (fun k => if P k = p then gbS D (nD D (1011 + k)) else 0) (nD D 8))) < nI 2 := q
          simp (disch := omega) only [nn_lt] at this
          omega
        have hh : hiB D P (nD D 8) p = true := by rw [hiB, decide_eq_true q1, decide_eq_true q2]; rfl
        simp only [b_X11_hiredOf_18, xR0 hX, some_bind, c18, g, if_false, g3, hbc, g4, ep, hh, if_true]
      · have g4 : nI (popN 16 (orK (fun k => if P k = p then gbS D (nD D (1011 + k)) else 0) (nD D 8))) < (2 : Int32) := nI_lt (b := 2) (by omega) (by omega)
        have hh : hiB D P (nD D 8) p = false := by rw [hiB, decide_eq_false q2, Bool.and_false]
        simp only [b_X11_hiredOf_18, xR0 hX, some_bind, c18, g, if_false, g3, hbc, g4, ep, hh, if_true, Bool.false_eq_true]
    · have g3 : nI (cntB (fun k => decide (P k = p)) (nD D 8) 0) < (3 : Int32) := nI_lt (b := 3) (by omega) (by omega)
      have hh : hiB D P (nD D 8) p = false := by rw [hiB, decide_eq_false q1, Bool.false_and]
      simp only [b_X11_hiredOf_18, xR0 hX, some_bind, c18, g, if_false, g3, ep, hh, if_true, Bool.false_eq_true]
  | succ k ih =>
    intro j fu hj hf
    obtain ⟨fu, rfl⟩ : ∃ q, fu = q + 1 := ⟨fu - 1, by omega⟩
    have g : nI j < nI (nD D 8) := nI_lt (by omega) (by omega)
    have e1 : nI j + 1 = nI (j + 1) := nI_add j 1
    obtain ⟨ej, sj⟩ := hp_of hI (k := j) (by omega)
    have a2 : aI (mkH n st S μ) (some (x + 172)) (nI j) = some (nI (P j)) := by rw [xAPOf hX (by omega), hP j (by omega)]
    have aj : aI (mkH n st S μ) (some (x + 1 + 12)) (nI j) = some (nI (nD D (1011 + j))) := by rw [ob_aI hC.heap (by omega) (by omega), hs.heap j (by omega), ← ej]
    have hg := k_gateBit (n := n) (st := st) hC hs hI sj
    rw [← ih (j + 1) fu (by omega) (by omega), cntB_snoc, orK_snoc, Nat.zero_add]
    have ec : nI (cntB (fun k => decide (P k = p)) j 0) + 1 = nI (cntB (fun k => decide (P k = p)) j 0 + 1) := nI_add _ 1
    by_cases hc : P j = p
    · have hc' : nI (P j) = nI p := by rw [hc]
      simp (disch := omega) only [b_X11_hiredOf_18, xR0 hX, some_bind, c18, g, if_true, xR14 hX, a2, hc', cR11 hC, cR17 hC, aj, cEsherds hC, oSheK hC, hg, orN, e1, ec, hc, decide_true]
    · have hc' : ¬ nI (P j) = nI p := fun q => by rw [nn_eq (hP9 j (by omega)) hp] at q; exact hc q
      simp only [b_X11_hiredOf_18, xR0 hX, some_bind, c18, g, if_true, xR14 hX, a2, hc', if_false, e1, hc, decide_false, Bool.false_eq_true, Nat.add_zero, Nat.or_zero]
theorem k_hired (hX : ShX S x) (hs : Sim μ (x + 1) D) (hI : Inv D) {P : Nat → Nat} (hP : ∀ z, z < nD D 8 → μ (x + 172) z = nI (P z)) (hP9 : ∀ z, z < nD D 8 → P z < 2 ^ 31) {M : Nat} (hM : M ≤ 9) : ∀ k p fu z, p + k = M → k < fu → b_X11_hiredOf_4 (mkH n st S μ) fu (some x) (nI M) (nI z) (nI p) = some (nI (z + cntB (hiB D P (nD D 8)) k p)) := by
  have b8 := hI.heaped.2
  intro k
  induction k with
  | zero =>
    intro p fu z hp hf
    obtain ⟨fu, rfl⟩ : ∃ q, fu = q + 1 := ⟨fu - 1, by omega⟩
    obtain rfl : p = M := by omega
    have g : ¬ nI p < nI p := fun q => by simp (disch := omega) only [nn_lt] at q; omega
    simp only [b_X11_hiredOf_4, g, if_false, cntB, Nat.add_zero]
  | succ k ih =>
    intro p fu z hp hf
    obtain ⟨fu, rfl⟩ : ∃ q, fu = q + 1 := ⟨fu - 1, by omega⟩
    have g : nI p < nI M := nI_lt (by omega) (by omega)
    have h18 := k_hi18 (n := n) (st := st) hX hs hI hP hP9 (b_X11_hiredOf_4 (mkH n st S μ) fu) (nI M) (nI z) (p := p) (by omega) (nD D 8) 0 FU (by omega) (by have : FU = 4000 := rfl; omega)
    have h18' : b_X11_hiredOf_18 (b_X11_hiredOf_4 (mkH n st S μ) fu) (mkH n st S μ) FU (some x) (nI M) (nI z) (nI p) 0 0 0 = b_X11_hiredOf_4 (mkH n st S μ) fu (some x) (nI M) (if hiB D P (nD D 8) p then nI z + 1 else nI z) (nI (p + 1)) := h18
    have ez : nI z + 1 = nI (z + 1) := nI_add z 1
    simp only [b_X11_hiredOf_4, g, if_true, h18']
    rw [cntB]
    by_cases hh : hiB D P (nD D 8) p = true
    · rw [if_pos hh, if_pos hh, ez, ih (p + 1) fu (z + 1) (by omega) (by omega), Nat.add_assoc]
    · rw [if_neg hh, if_neg hh, ih (p + 1) fu z (by omega) (by omega), Nat.zero_add]
theorem r_hi7 (hS : ShM S m) (hD : μ (m + 1) = D) (hI : Inv D) {P : Nat → Nat} (hP : ∀ z, z < nD D 8 → μ (m + 15) z = nI (P z)) (hP9 : ∀ z, z < nD D 8 → P z < 2 ^ 31) {p : Nat} (hp : p < 2 ^ 31) : ∀ k j fu, j + k = nD D 8 → k < fu → b_X12_isHired_7 (mkH n st S μ) fu (some m) (nI p) (nI (cntB (fun k => decide (P k = p)) j 0)) (nI (orK (fun k => if P k = p then gbS D (nD D (1011 + k)) else 0) j)) (nI j) = some (bI (hiB D P (nD D 8) p)) := by
  have b8 := hI.heaped.2
  have e8 := hI.heaped.1
  have b5 := hI.shes.2
  have a8 : aI (mkH n st S μ) (some (m + 1)) 8 = some (nI (nD D 8)) := by
    rw [← e8, ← hD]
    exact mA0 (q := 8) hS (by omega)
  intro k
  induction k with
  | zero =>
    intro j fu hj hf
    obtain ⟨fu, rfl⟩ : ∃ q, fu = q + 1 := ⟨fu - 1, by omega⟩
    obtain rfl : j = nD D 8 := by omega
    have g : ¬ nI (nD D 8) < nI (nD D 8) := fun q => by simp (disch := omega) only [nn_lt] at q; omega
    have hcl := cntB_le (fun k => decide (P k = p)) (nD D 8) 0
    have hor : orK (fun k => if P k = p then gbS D (nD D (1011 + k)) else 0) (nD D 8) < 2 ^ 5 := orK_lt _ (fun i hi => by
      split
      · exact gbS_lt hI (hp_of hI hi).2
      · exact Nat.two_pow_pos 5)
    have hor16 : orK (fun k => if P k = p then gbS D (nD D (1011 + k)) else 0) (nD D 8) < 2 ^ 16 := Nat.lt_of_lt_of_le hor (by decide)
    have hbc := r_bits hor16 (mkH n st S μ)
    have hpl := popN_le 16 (orK (fun k => if P k = p then gbS D (nD D (1011 + k)) else 0) (nD D 8))
    by_cases q1 : 3 ≤ cntB (fun k => decide (P k = p)) (nD D 8) 0
    · have g3 : ¬ nI (cntB (fun k => decide (P k = p)) (nD D 8) 0) < (3 : Int32) := fun q => by
        have : nI (cntB (fun k => decide (P k = p)) (nD D 8) 0) < nI 3 := q
        simp (disch := omega) only [nn_lt] at this
        omega
      by_cases q2 : 2 ≤ popN 16 (orK (fun k => if P k = p then gbS D (nD D (1011 + k)) else 0) (nD D 8))
      · have g4 : ¬ nI (popN 16 (orK (fun k => if P k = p then gbS D (nD D (1011 + k)) else 0) (nD D 8))) < (2 : Int32) := fun q => by
          have : nI (popN 16 (orK (fun k => if P k = p then gbS D (nD D (1011 + k)) else 0) (nD D 8))) < nI 2 := q
          simp (disch := omega) only [nn_lt] at this
          omega
        have hh : hiB D P (nD D 8) p = true := by rw [hiB, decide_eq_true q1, decide_eq_true q2]; rfl
        simp only [b_X12_isHired_7, mR0 hS, some_bind, a8, g, if_false, g3, hbc, g4, hh]
        rfl
      · have g4 : nI (popN 16 (orK (fun k => if P k = p then gbS D (nD D (1011 + k)) else 0) (nD D 8))) < (2 : Int32) := nI_lt (b := 2) (by omega) (by omega)
        have hh : hiB D P (nD D 8) p = false := by rw [hiB, decide_eq_false q2, Bool.and_false]
        simp only [b_X12_isHired_7, mR0 hS, some_bind, a8, g, if_false, g3, hbc, g4, hh, if_true]
        rfl
    · have g3 : nI (cntB (fun k => decide (P k = p)) (nD D 8) 0) < (3 : Int32) := nI_lt (b := 3) (by omega) (by omega)
      have hh : hiB D P (nD D 8) p = false := by rw [hiB, decide_eq_false q1, Bool.false_and]
      simp only [b_X12_isHired_7, mR0 hS, some_bind, a8, g, if_false, g3, hh, if_true]
      rfl
  | succ k ih =>
    intro j fu hj hf
    obtain ⟨fu, rfl⟩ : ∃ q, fu = q + 1 := ⟨fu - 1, by omega⟩
    have g : nI j < nI (nD D 8) := nI_lt (by omega) (by omega)
    have e1 : nI j + 1 = nI (j + 1) := nI_add j 1
    obtain ⟨ej, sj⟩ := hp_of hI (k := j) (by omega)
    have lj : (1011 : Int32) + nI j = nI (1011 + j) := nI_add 1011 j
    have ls : (771 : Int32) + nI (nD D (1011 + j)) = nI (771 + nD D (1011 + j)) := nI_add 771 _
    have dj : aI (mkH n st S μ) (some (m + 1)) (nI (1011 + j)) = some (nI (nD D (1011 + j))) := by rw [mA0 hS (by omega), hD, ← ej]
    have dg : aI (mkH n st S μ) (some (m + 1)) (nI (771 + nD D (1011 + j))) = some (D (771 + nD D (1011 + j))) := by rw [mA0 hS (by omega), hD]
    have a5 : aI (mkH n st S μ) (some (m + 15)) (nI j) = some (nI (P j)) := by rw [mA30 hS (by omega), hP j (by omega)]
    rw [← ih (j + 1) fu (by omega) (by omega), cntB_snoc, orK_snoc, Nat.zero_add]
    have ec : nI (cntB (fun k => decide (P k = p)) j 0) + 1 = nI (cntB (fun k => decide (P k = p)) j 0 + 1) := nI_add _ 1
    have ec0 : nI (cntB (fun k => decide (P k = p)) j 0) + 0 = nI (cntB (fun k => decide (P k = p)) j 0) := Int32.add_zero _
    have or0 : ∀ v : Int32, v ||| 0 = v := fun v => Int32.or_zero
    by_cases hc : P j = p
    · have hc' : nI (P j) = nI p := by rw [hc]
      rcases hI.sGate _ sj with hgt | ⟨q, hq, hgt⟩
      · have hn : D (771 + nD D (1011 + j)) < 0 := by rw [hgt]; decide
        have gz : gbS D (nD D (1011 + j)) = 0 := by rw [gbS, if_pos hn]
        simp only [b_X12_isHired_7, b_X12_isHired_49, b_X12_isHired_94, mR0 hS, some_bind, a8, g, if_true, lj, dj, mR30 hS, a5, hc', ls, dg, hn, e1, ec, hc, decide_true, or0, gz, Nat.or_zero]
      · have hn : ¬ D (771 + nD D (1011 + j)) < 0 := by rw [hgt]; exact nI_pos (by omega)
        have gz : gbS D (nD D (1011 + j)) = 2 ^ q := by rw [gbS, if_neg hn, nD_of hgt (by omega)]
        have s1 : (1 : Int32) <<< (nI q &&& 31) = nI (2 ^ q) := shl1 (by omega)
        rw [hgt] at dg hn
        simp only [b_X12_isHired_7, b_X12_isHired_49, b_X12_isHired_94, mR0 hS, some_bind, a8, g, if_true, lj, dj, mR30 hS, a5, hc', ls, dg, hn, if_false, e1, ec, hc, decide_true, s1, orN, gz]
    · have hc' : ¬ nI (P j) = nI p := fun q => by rw [nn_eq (hP9 j (by omega)) hp] at q; exact hc q
      simp only [b_X12_isHired_7, b_X12_isHired_49, b_X12_isHired_94, mR0 hS, some_bind, a8, g, if_true, lj, dj, mR30 hS, a5, hc', if_false, e1, ec0, hc, decide_false, Bool.false_eq_true, Nat.add_zero, Nat.or_zero, or0]
theorem r_h68 (hS : ShM S m) (hD : μ (m + 1) = D) (hI : Inv D) {P : Nat → Nat} (hP : ∀ z, z < nD D 8 → μ (m + 15) z = nI (P z)) (hP9 : ∀ z, z < nD D 8 → P z < 2 ^ 31) {M : Nat} (hM : M ≤ 9) (a1 : Int32) : ∀ k p fu z, p + k = M → k < fu → b_X12_hands_68 fu (some m) a1 (nI M) (nI z) (nI p) (mkH n st S μ) = if a1 = 0 then some (nI M, mkH n st S μ) else some (nI (z + cntB (hiB D P (nD D 8)) k p), mkH n st S μ) := by
  have b8 := hI.heaped.2
  intro k
  induction k with
  | zero =>
    intro p fu z hp hf
    obtain ⟨fu, rfl⟩ : ∃ q, fu = q + 1 := ⟨fu - 1, by omega⟩
    obtain rfl : p = M := by omega
    have g : ¬ nI p < nI p := fun q => by simp (disch := omega) only [nn_lt] at q; omega
    simp only [b_X12_hands_68, g, if_false, cntB, Nat.add_zero]
  | succ k ih =>
    intro p fu z hp hf
    obtain ⟨fu, rfl⟩ : ∃ q, fu = q + 1 := ⟨fu - 1, by omega⟩
    have g : nI p < nI M := nI_lt (by omega) (by omega)
    have h7 := r_hi7 (n := n) (st := st) hS hD hI hP hP9 (p := p) (by omega) (nD D 8) 0 FU (by omega) (by have : FU = 4000 := rfl; omega)
    have h7' : f_X12_isHired (some m) (nI p) (mkH n st S μ) = some (bI (hiB D P (nD D 8) p)) := h7
    have ez : nI z + 1 = nI (z + 1) := nI_add z 1
    have ez0 : nI z + 0 = nI z := Int32.add_zero _
    have ep : nI p + 1 = nI (p + 1) := nI_add p 1
    rw [cntB]
    by_cases hh : hiB D P (nD D 8) p = true
    · simp only [b_X12_hands_68, g, if_true, rck hS, h7', some_bind, hh, ite_bI0, b_X12_hands_89, ez, ep]
      rw [ih (p + 1) fu (z + 1) (by omega) (by omega), Nat.add_assoc]
    · simp only [b_X12_hands_68, g, if_true, rck hS, h7', some_bind, hh, ite_bI0, if_false, Bool.false_eq_true, b_X12_hands_89, ez0, ep]
      rw [ih (p + 1) fu z (by omega) (by omega), Nat.zero_add]
end HANDS3
