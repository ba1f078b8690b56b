-- ===== hands: the class's search and the reference's =====
section HANDS
variable {n : Nat} {st : Nat → Nat} {S : SH} {μ : MU} {x b m c l : Nat} {D : DR} {al : Nat → Nat → Bool} {N most : Nat}
theorem bI_andn (p q : Bool) : bI p &&& bI q = bI (p && q) := by cases p <;> cases q <;> decide
theorem mbr_step {P : Nat → Nat} {i p : Nat} : biN (fun k => decide (P k = p)) i ||| 2 ^ i = biN (fun k => decide (upN P i p k = p)) (i + 1) := by
  rw [biN, or_pow (biN_lt _ _)]
  rw [upN_at, decide_eq_true rfl, if_pos rfl]
  congr 1
  exact biN_congr i (fun k hk => by rw [upN_ne (by omega)])
theorem mbr_oth {P : Nat → Nat} {i p p' : Nat} (h : ¬ p' = p) : biN (fun k => decide (upN P i p k = p')) (i + 1) = biN (fun k => decide (P k = p')) i := by
  rw [biN, upN_at, decide_eq_false (fun q => h q.symm), if_neg (by decide), Nat.add_zero]
  exact biN_congr i (fun k hk => by rw [upN_ne (by omega)])
theorem k_parts (hX : ShX S x) (hN : N ≤ 9) (hm9 : most ≤ 9) : ∀ r i used d (P : Nat → Nat) (μ : MU), i + r = N → r < d → used ≤ i → (∀ k, k < i → P k < used) → (∀ a, a < N → μ (x + 174) a = nI (biN (fun j => al j a) N)) → (∀ k, k < i → μ (x + 172) k = nI (P k)) → (∀ p, p < used → μ (x + 173) p = nI (biN (fun k => decide (P k = p)) i)) → ∃ μ' : MU, f_X11_partsRest d (some (x + 174)) (some (x + 173)) (some (x + 172)) (nI N) (nI i) (nI used) (nI most) (mkH n st S μ) = some (bI (seP al most r i used P).isSome, mkH n st S μ') ∧ (∀ a j, ¬ (a = x + 172 ∨ a = x + 173) → μ' a j = μ a j) ∧ (∀ k, k < i → μ' (x + 172) k = μ (x + 172) k) ∧ (seP al most r i used P = none → ∀ p, p < used → μ' (x + 173) p = μ (x + 173) p) ∧ (∀ P', seP al most r i used P = some P' → ∀ k, k < N → μ' (x + 172) k = nI (P' k)) := by
  intro r
  induction r with
  | zero =>
    intro i used d P μ hi hd hu hP hA hp hm
    obtain ⟨d, rfl⟩ : ∃ q, d = q + 1 := ⟨d - 1, by omega⟩
    obtain rfl : i = N := by omega
    have hlt : ¬ nI i < nI i := fun q => by simp (disch := omega) only [nn_lt] at q; omega
    refine ⟨μ, by simp only [f_X11_partsRest, g_X11_partsRest, hlt, if_false, seP]; rfl, fun _ _ _ => rfl, fun _ _ => rfl, fun _ _ _ => rfl, fun P' h k hk => ?_⟩
    rw [seP] at h
    obtain rfl := Option.some.inj h
    exact hp k hk
  | succ r ihr =>
    intro i used d P μ hi hd hu hP hA hp hm
    obtain ⟨d, rfl⟩ : ∃ q, d = q + 1 := ⟨d - 1, by omega⟩
    have hlt : nI i < nI N := nI_lt (by omega) (by omega)
    have inner : ∀ q p fu (μ : MU), p ≤ used + 1 → used + 1 - p < q → used + 1 - p < fu → (∀ a, a < N → μ (x + 174) a = nI (biN (fun j => al j a) N)) → (∀ k, k < i → μ (x + 172) k = nI (P k)) → (∀ p, p < used → μ (x + 173) p = nI (biN (fun k => decide (P k = p)) i)) → ∃ μ' : MU, b_X11_partsRest_11 (f_X11_partsRest d) fu (some (x + 174)) (some (x + 173)) (some (x + 172)) (nI N) (nI i) (nI used) (nI most) (nI p) (mkH n st S μ) = some (bI (seL al (seP al most r (i + 1)) most i used P q p).isSome, mkH n st S μ') ∧ (∀ a j, ¬ (a = x + 172 ∨ a = x + 173) → μ' a j = μ a j) ∧ (∀ k, k < i → μ' (x + 172) k = μ (x + 172) k) ∧ (seL al (seP al most r (i + 1)) most i used P q p = none → ∀ p, p < used → μ' (x + 173) p = μ (x + 173) p) ∧ (∀ P', seL al (seP al most r (i + 1)) most i used P q p = some P' → ∀ k, k < N → μ' (x + 172) k = nI (P' k)) := by
      intro q
      induction q with
      | zero => intro p fu μ _ h; omega
      | succ q ihq =>
        intro p fu μ hpu hq hf hA hp hm
        obtain ⟨fu, rfl⟩ : ∃ q, fu = q + 1 := ⟨fu - 1, by omega⟩
        by_cases c1 : used < p
        · have g1 : nI used < nI p := nI_lt c1 (by omega)
          have e : seL al (seP al most r (i + 1)) most i used P (q + 1) p = none := by rw [seL, if_pos (Or.inl c1)]
          rw [e]
          exact ⟨μ, by simp only [b_X11_partsRest_11, g1, if_true]; rfl, fun _ _ _ => rfl, fun _ _ => rfl, fun _ _ _ => rfl, fun P' h => by cases h⟩
        have g1 : ¬ nI used < nI p := fun q => by simp (disch := omega) only [nn_lt] at q; omega
        by_cases c2 : p < most
        case neg =>
          have g2 : ¬ nI p < nI most := fun q => by simp (disch := omega) only [nn_lt] at q; omega
          have e : seL al (seP al most r (i + 1)) most i used P (q + 1) p = none := by rw [seL, if_pos (Or.inr (by omega))]
          rw [e]
          exact ⟨μ, by simp only [b_X11_partsRest_11, g1, g2, if_false]; rfl, fun _ _ _ => rfl, fun _ _ => rfl, fun _ _ _ => rfl, fun P' h => by cases h⟩
        have g2 : nI p < nI most := nI_lt c2 (by omega)
        have hb : biN (fun k => decide (P k = p)) i < 2 ^ 16 := Nat.lt_of_lt_of_le (biN_lt _ i) (Nat.pow_le_pow_right (by omega) (by omega))
        have e11 : nI p + 1 = nI (p + 1) := nI_add p 1
        have start : b_X11_partsRest_11 (f_X11_partsRest d) (fu + 1) (some (x + 174)) (some (x + 173)) (some (x + 172)) (nI N) (nI i) (nI used) (nI most) (nI p) (mkH n st S μ) = b_X11_partsRest_40 (f_X11_partsRest d) (b_X11_partsRest_11 (f_X11_partsRest d) fu) (some (x + 174)) (some (x + 173)) (some (x + 172)) (nI N) (nI i) (nI used) (nI most) (nI p) (nI (biN (fun k => decide (P k = p)) i)) (mkH n st S μ) := by
          by_cases c3 : p < used
          · have g3 : nI p < nI used := nI_lt c3 (by omega)
            have a3 : aI (mkH n st S μ) (some (x + 173)) (nI p) = some (nI (biN (fun k => decide (P k = p)) i)) := by rw [xAPMe hX (by omega), hm p c3]
            simp only [b_X11_partsRest_11, g1, g2, g3, if_true, if_false, a3, some_bind]
          · have g3 : ¬ nI p < nI used := fun q => by simp (disch := omega) only [nn_lt] at q; omega
            have z : biN (fun k => decide (P k = p)) i = 0 := (biN_zero _ i).mpr (fun k hk => decide_eq_false (by have := hP k hk; omega))
            simp only [b_X11_partsRest_11, g1, g2, g3, if_true, if_false, z]
            rfl
        have a0 : aI (mkH n st S μ) (some (x + 174)) (nI i) = some (nI (biN (fun j => al j i) N)) := by rw [xAAli hX (by omega), hA i (by omega)]
        have cond : (nI (biN (fun k => decide (P k = p)) i) &&& (nI (biN (fun j => al j i) N) ^^^ (-1)) = 0) = (okP al P i p i = true) := by
          rw [andNot0 hb]
          refine propext ⟨fun h => (okP_iff p i).mpr (fun k hk hpk => ?_), fun h k hk h32 => ?_⟩
          · have q1 : (biN (fun k => decide (P k = p)) i).testBit k = true := by rw [biN_test, decide_eq_true hk, decide_eq_true hpk]; rfl
            have q2 := h k q1 (by omega)
            rw [biN_test, Bool.and_eq_true] at q2
            exact q2.2
          · rw [biN_test, Bool.and_eq_true, decide_eq_true_iff, decide_eq_true_iff] at hk
            rw [biN_test, (okP_iff p i).mp h k hk.1 hk.2, decide_eq_true (show k < N by omega)]
            rfl
        by_cases c3 : okP al P i p i = true
        case neg =>
          have e : seL al (seP al most r (i + 1)) most i used P (q + 1) p = seL al (seP al most r (i + 1)) most i used P q (p + 1) := by rw [seL, if_neg (by omega), if_neg c3]
          obtain ⟨μ', w1, w2⟩ := ihq (p + 1) fu μ (by omega) (by omega) (by omega) hA hp hm
          rw [e]
          refine ⟨μ', ?_, w2⟩
          rw [start]
          simp only [b_X11_partsRest_40, a0, some_bind, cond, c3, if_false, e11, Bool.false_eq_true]
          exact w1
        obtain ⟨u', hu'⟩ : ∃ z, z = if p = used then used + 1 else used := ⟨_, rfl⟩
        have hmx : mMax (nI used) (nI (p + 1)) = nI u' := by
          rw [mMax, hu']
          by_cases hpe : p = used
          · rw [if_pos (nI_lt (by omega) (by omega)), if_pos hpe, hpe]
          · rw [if_neg (fun q => by simp (disch := omega) only [nn_lt] at q; omega), if_neg hpe]
        have hul : used ≤ u' ∧ u' ≤ i + 1 ∧ p < u' ∧ (∀ z, z < u' → z < used ∨ z = p) := by
          rw [hu']
          split
          · exact ⟨by omega, by omega, by omega, fun z hz => by omega⟩
          · exact ⟨by omega, by omega, by omega, fun z hz => by omega⟩
        obtain ⟨μ1, h1⟩ : ∃ z, z = up2 (up2 μ (x + 172) i (nI p)) (x + 173) p (nI (biN (fun k => decide (P k = p)) i ||| 2 ^ i)) := ⟨_, rfl⟩
        have s1 : (1 : Int32) <<< (nI i &&& 31) = nI (2 ^ i) := shl1 (by omega)
        obtain ⟨μ2, k1, k2, k3, k4, k5⟩ := ihr (i + 1) u' d (upN P i p) μ1 (by omega) (by omega) (by omega) (fun k hk => by
            by_cases hki : k = i
            · subst hki; rw [upN_at]; omega
            · rw [upN_ne hki]; have := hP k (by omega); omega) (fun a ha => by rw [h1, up2_ne (by omega), up2_ne (by omega)]; exact hA a ha) (fun k hk => by
            by_cases hki : k = i
            · subst hki; rw [h1, up2_ne (by omega), up2_same, upN_at]
            · rw [h1, up2_ne (by omega), up2_ne (by omega), upN_ne hki]; exact hp k (by omega)) (fun p' hp' => by
            by_cases hpp : p' = p
            · subst hpp; rw [h1, up2_same, mbr_step]
            · rw [h1, up2_ne (by omega), up2_ne (by omega), mbr_oth hpp]
              exact hm p' (by rcases hul.2.2.2 p' hp' with h | h <;> omega))
        have e0 : seL al (seP al most r (i + 1)) most i used P (q + 1) p = (match seP al most r (i + 1) u' (upN P i p) with
            | some P' => some P'
            | none => seL al (seP al most r (i + 1)) most i used P q (p + 1)) := by rw [seL, if_neg (by omega), if_pos c3, ← hu']; rfl
        have e1i : nI i + 1 = nI (i + 1) := nI_add i 1
        have run : b_X11_partsRest_11 (f_X11_partsRest d) (fu + 1) (some (x + 174)) (some (x + 173)) (some (x + 172)) (nI N) (nI i) (nI used) (nI most) (nI p) (mkH n st S μ) = if bI (seP al most r (i + 1) u' (upN P i p)).isSome = 0 then (sI (mkH n st S μ2) (some (x + 173)) (nI p) (nI (biN (fun k => decide (P k = p)) i))).bind fun h5 => b_X11_partsRest_11 (f_X11_partsRest d) fu (some (x + 174)) (some (x + 173)) (some (x + 172)) (nI N) (nI i) (nI used) (nI most) (nI (p + 1)) h5 else some (1, mkH n st S μ2) := by
          rw [start]
          simp (disch := omega) only [b_X11_partsRest_40, a0, some_bind, cond, c3, if_true, xSPOf hX, xSPMe hX, s1, orN, ← h1, e1i, hmx, k1, e11]
        cases hz : seP al most r (i + 1) u' (upN P i p) with
        | some P' =>
          have e0' : seL al (seP al most r (i + 1)) most i used P (q + 1) p = some P' := by simp only [e0, hz]
          rw [hz] at run k5
          rw [e0']
          refine ⟨μ2, ?_, fun a j h => by rw [k2 a j h, h1, up2_ne (by omega), up2_ne (by omega)], fun k hk => by rw [k3 k (by omega), h1, up2_ne (by omega), up2_ne (by omega)], (fun h => by cases h), fun P'' h => ?_⟩
          · rw [run]; rfl
          · obtain rfl := Option.some.inj h
            exact k5 P' rfl
        | none =>
          have e0' : seL al (seP al most r (i + 1)) most i used P (q + 1) p = seL al (seP al most r (i + 1)) most i used P q (p + 1) := by simp only [e0, hz]
          rw [hz] at run k4
          rw [e0']
          obtain ⟨μ3, h3⟩ : ∃ z, z = up2 μ2 (x + 173) p (nI (biN (fun k => decide (P k = p)) i)) := ⟨_, rfl⟩
          have n3 : ∀ a j, ¬ (a = x + 172 ∨ a = x + 173) → μ3 a j = μ a j := fun a j h => by rw [h3, up2_ne (by omega), k2 a j h, h1, up2_ne (by omega), up2_ne (by omega)]
          have p3 : ∀ k, k < i → μ3 (x + 172) k = μ (x + 172) k := fun k hk => by rw [h3, up2_ne (by omega), k3 k (by omega), h1, up2_ne (by omega), up2_ne (by omega)]
          have m3 : ∀ p', p' < used → μ3 (x + 173) p' = μ (x + 173) p' := fun p' hp' => by
            by_cases hpp : p' = p
            · subst hpp; rw [h3, up2_same, hm p' hp']
            · rw [h3, up2_ne (by omega), k4 rfl p' (by omega), h1, up2_ne (by omega), up2_ne (by omega)]
          obtain ⟨μ4, w1, w2, w3, w4, w5⟩ := ihq (p + 1) fu μ3 (by omega) (by omega) (by omega) (fun a ha => by rw [n3 _ _ (by omega)]; exact hA a ha) (fun k hk => by rw [p3 k hk]; exact hp k hk) (fun p' hp' => by rw [m3 p' hp']; exact hm p' hp')
          refine ⟨μ4, ?_, fun a j h => by rw [w2 a j h, n3 a j h], fun k hk => by rw [w3 k hk, p3 k hk], fun h p' hp' => by rw [w4 h p' hp', m3 p' hp'], w5⟩
          rw [run]
          simp (disch := omega) only [Option.isSome_none, xSPMe hX, some_bind, ← h3]
          exact w1
    obtain ⟨μ', w1, w2⟩ := inner 11 0 FU μ (by omega) (by omega) (by have : FU = 4000 := rfl; omega) hA hp hm
    refine ⟨μ', ?_, w2⟩
    simp only [f_X11_partsRest, g_X11_partsRest, hlt, if_true]
    exact w1
theorem r_parts (hS : ShM S m) (hI : Inv D) (hm9 : most ≤ 9) : ∀ r i used d (P : Nat → Nat) (μ : MU), i + r = nD D 8 → r < d → used ≤ i → (∀ k, k < i → P k < used) → μ (m + 1) = D → (∀ k, k < i → μ (m + 15) k = nI (P k)) → ∃ μ' : MU, f_X12_parts d (some m) (nI i) (nI used) (nI most) (mkH n st S μ) = some (bI (seP (alH D) most r i used P).isSome, mkH n st S μ') ∧ (∀ a j, ¬ a = m + 15 → μ' a j = μ a j) ∧ (∀ k, k < i → μ' (m + 15) k = μ (m + 15) k) ∧ (∀ P', seP (alH D) most r i used P = some P' → ∀ k, k < nD D 8 → μ' (m + 15) k = nI (P' k)) := by
  have b8 := hI.heaped.2
  have e8 := hI.heaped.1
  have b5 := hI.shes.2
  intro r
  induction r with
  | zero =>
    intro i used d P μ hi hd hu hP hD hp
    obtain ⟨d, rfl⟩ : ∃ q, d = q + 1 := ⟨d - 1, by omega⟩
    obtain rfl : i = nD D 8 := by omega
    have a8 : aI (mkH n st S μ) (some (m + 1)) 8 = some (nI (nD D 8)) := by
      rw [← e8, ← hD]
      exact mA0 (q := 8) hS (by omega)
    refine ⟨μ, by simp only [f_X12_parts, g_X12_parts, mR0 hS, some_bind, a8, if_true, seP]; rfl, fun _ _ _ => rfl, fun _ _ => rfl, fun P' h k hk => ?_⟩
    rw [seP] at h
    obtain rfl := Option.some.inj h
    exact hp k hk
  | succ r ihr =>
    intro i used d P μ hi hd hu hP hD hp
    obtain ⟨d, rfl⟩ : ∃ q, d = q + 1 := ⟨d - 1, by omega⟩
    have a8 : aI (mkH n st S μ) (some (m + 1)) 8 = some (nI (nD D 8)) := by
      rw [← e8, ← hD]
      exact mA0 (q := 8) hS (by omega)
    have hne : ¬ nI i = nI (nD D 8) := fun q => by simp (disch := omega) only [nn_eq] at q; omega
    have e1i : nI i + 1 = nI (i + 1) := nI_add i 1
    have hsh : ∀ k, k < nD D 8 → D (1011 + k) = nI (nD D (1011 + k)) ∧ nD D (1011 + k) < nD D 5 := fun k hk => by
      obtain ⟨s, hs, e⟩ := hI.hp k hk
      rw [nD_of e (by omega)]
      exact ⟨e, hs⟩
    have fits : ∀ (k16 : Option Nat → Int32 → Int32 → Int32 → Int32 → AH → Option (Int32 × AH)) (p : Nat) (μ : MU), p < 2 ^ 31 → μ (m + 1) = D → (∀ k, k < i → μ (m + 15) k = nI (P k)) → ∀ q j fu, j + q = i → q < fu → b_X12_parts_34 (f_X12_parts d) k16 fu (some m) (nI i) (nI used) (nI most) (nI p) (bI (okP (alH D) P i p j)) (nI j) (mkH n st S μ) = if okP (alH D) P i p i then (if nI p = nI used then b_X12_parts_126 (f_X12_parts d) k16 (some m) (nI i) (nI used) (nI most) (nI p) (some m) (nI (i + 1)) (nI used + 1) (mkH n st S (up2 μ (m + 15) i (nI p))) else b_X12_parts_126 (f_X12_parts d) k16 (some m) (nI i) (nI used) (nI most) (nI p) (some m) (nI (i + 1)) (nI used) (mkH n st S (up2 μ (m + 15) i (nI p)))) else k16 (some m) (nI i) (nI used) (nI most) (nI p + 1) (mkH n st S μ) := by
      intro k16 p μ hp31 hD hp q
      induction q with
      | zero =>
        intro j fu hj hf
        obtain ⟨fu, rfl⟩ : ∃ q, fu = q + 1 := ⟨fu - 1, by omega⟩
        obtain rfl : j = i := by omega
        have g : ¬ nI j < nI j := fun q => by simp (disch := omega) only [nn_lt] at q; omega
        simp (disch := omega) only [b_X12_parts_34, g, if_false, ite_bI0, mR30 hS, some_bind, mS30 hS, e1i]
      | succ q ih =>
        intro j fu hj hf
        obtain ⟨fu, rfl⟩ : ∃ q, fu = q + 1 := ⟨fu - 1, by omega⟩
        have g : nI j < nI i := nI_lt (by omega) (by omega)
        have e1 : nI j + 1 = nI (j + 1) := nI_add j 1
        have aj : aI (mkH n st S μ) (some (m + 15)) (nI j) = some (nI (P j)) := by rw [mA30 hS (by omega), hp j (by omega)]
        have lj : (1011 : Int32) + nI j = nI (1011 + j) := nI_add 1011 j
        have li : (1011 : Int32) + nI i = nI (1011 + i) := nI_add 1011 i
        obtain ⟨ej, sj⟩ := hsh j (by omega)
        obtain ⟨ei, si⟩ := hsh i (by omega)
        have dj : aI (mkH n st S μ) (some (m + 1)) (nI (1011 + j)) = some (nI (nD D (1011 + j))) := by rw [mA0 hS (by omega), hD, ← ej]
        have di : aI (mkH n st S μ) (some (m + 1)) (nI (1011 + i)) = some (nI (nD D (1011 + i))) := by rw [mA0 hS (by omega), hD, ← ei]
        have ra := r_areAlike (n := n) (st := st) hS hD (s := nD D (1011 + j)) (o := nD D (1011 + i)) (by omega) (by omega)
        have b1 : (1 : Int32) = bI true := rfl
        have b0 : (0 : Int32) = bI false := rfl
        have hPj : P j < 2 ^ 31 := by have := hP j (by omega); omega
        by_cases hc : P j = p
        · have hc' : nI (P j) = nI p := by rw [hc]
          by_cases ha : alB D (nD D (1011 + j)) (nD D (1011 + i)) = true
          · have ek : okP (alH D) P i p (j + 1) = (okP (alH D) P i p j && true) := by rw [okP, alH, ha, Bool.or_true]
            rw [← ih (j + 1) fu (by omega) (by omega), ek]
            simp only [b_X12_parts_34, g, if_true, mR30 hS, some_bind, aj, hc', mR0 hS, lj, li, dj, di, rck hS, ra, ha, ite_bI0, b_X12_parts_87, e1]
            rw [b1, bI_andn]
          · have ek : okP (alH D) P i p (j + 1) = (okP (alH D) P i p j && false) := by rw [okP, alH, (Bool.not_eq_true _).mp ha, Bool.or_false, decide_eq_false (fun h => h hc)]
            rw [← ih (j + 1) fu (by omega) (by omega), ek]
            simp only [b_X12_parts_34, g, if_true, mR30 hS, some_bind, aj, hc', mR0 hS, lj, li, dj, di, rck hS, ra, ha, ite_bI0, b_X12_parts_87, e1, if_false, Bool.false_eq_true]
            rw [b0, bI_andn]
        · have hc' : ¬ nI (P j) = nI p := fun q => by rw [nn_eq hPj hp31] at q; exact hc q
          have ek : okP (alH D) P i p (j + 1) = (okP (alH D) P i p j && true) := by rw [okP, decide_eq_true hc, Bool.true_or]
          rw [← ih (j + 1) fu (by omega) (by omega), ek]
          simp only [b_X12_parts_34, g, if_true, mR30 hS, some_bind, aj, hc', if_false, b_X12_parts_87, e1]
          rw [b1, bI_andn]
    have inner : ∀ q p fu (μ : MU), p ≤ used + 1 → used + 1 - p < q → used + 1 - p < fu → μ (m + 1) = D → (∀ k, k < i → μ (m + 15) k = nI (P k)) → ∃ μ' : MU, b_X12_parts_16 (f_X12_parts d) fu (some m) (nI i) (nI used) (nI most) (nI p) (mkH n st S μ) = some (bI (seL (alH D) (seP (alH D) most r (i + 1)) most i used P q p).isSome, mkH n st S μ') ∧ (∀ a j, ¬ a = m + 15 → μ' a j = μ a j) ∧ (∀ k, k < i → μ' (m + 15) k = μ (m + 15) k) ∧ (∀ P', seL (alH D) (seP (alH D) most r (i + 1)) most i used P q p = some P' → ∀ k, k < nD D 8 → μ' (m + 15) k = nI (P' k)) := by
      intro q
      induction q with
      | zero => intro p fu μ _ h; omega
      | succ q ihq =>
        intro p fu μ hpu hq hf hD hp
        obtain ⟨fu, rfl⟩ : ∃ q, fu = q + 1 := ⟨fu - 1, by omega⟩
        by_cases c1 : used < p
        · have g1 : nI used < nI p := nI_lt c1 (by omega)
          have e : seL (alH D) (seP (alH D) most r (i + 1)) most i used P (q + 1) p = none := by rw [seL, if_pos (Or.inl c1)]
          rw [e]
          exact ⟨μ, by simp only [b_X12_parts_16, g1, if_true]; rfl, fun _ _ _ => rfl, fun _ _ => rfl, fun P' h => by cases h⟩
        have g1 : ¬ nI used < nI p := fun q => by simp (disch := omega) only [nn_lt] at q; omega
        by_cases c2 : p < most
        case neg =>
          have g2 : ¬ nI p < nI most := fun q => by simp (disch := omega) only [nn_lt] at q; omega
          have e : seL (alH D) (seP (alH D) most r (i + 1)) most i used P (q + 1) p = none := by rw [seL, if_pos (Or.inr (by omega))]
          rw [e]
          exact ⟨μ, by simp only [b_X12_parts_16, g1, g2, if_false]; rfl, fun _ _ _ => rfl, fun _ _ => rfl, fun P' h => by cases h⟩
        have g2 : nI p < nI most := nI_lt c2 (by omega)
        have e11 : nI p + 1 = nI (p + 1) := nI_add p 1
        have eu1 : nI used + 1 = nI (used + 1) := nI_add used 1
        have fit := fits (b_X12_parts_16 (f_X12_parts d) fu) p μ (by omega) hD hp i 0 FU (by omega) (by have : FU = 4000 := rfl; omega)
        have start : b_X12_parts_16 (f_X12_parts d) (fu + 1) (some m) (nI i) (nI used) (nI most) (nI p) (mkH n st S μ) = b_X12_parts_34 (f_X12_parts d) (b_X12_parts_16 (f_X12_parts d) fu) FU (some m) (nI i) (nI used) (nI most) (nI p) (bI (okP (alH D) P i p 0)) (nI 0) (mkH n st S μ) := by
          simp only [b_X12_parts_16, g1, g2, if_false, if_true]
          rfl
        by_cases c3 : okP (alH D) P i p i = true
        case neg =>
          have e : seL (alH D) (seP (alH D) most r (i + 1)) most i used P (q + 1) p = seL (alH D) (seP (alH D) most r (i + 1)) most i used P q (p + 1) := by rw [seL, if_neg (by omega), if_neg c3]
          obtain ⟨μ', w1, w2⟩ := ihq (p + 1) fu μ (by omega) (by omega) (by omega) hD hp
          rw [e]
          refine ⟨μ', ?_, w2⟩
          rw [start, fit, if_neg c3, e11]
          exact w1
        obtain ⟨u', hu'⟩ : ∃ z, z = if p = used then used + 1 else used := ⟨_, rfl⟩
        have hul : used ≤ u' ∧ u' ≤ i + 1 ∧ p < u' := by
          rw [hu']
          split
          · exact ⟨by omega, by omega, by omega⟩
          · exact ⟨by omega, by omega, by omega⟩
        obtain ⟨μ1, h1⟩ : ∃ z, z = up2 μ (m + 15) i (nI p) := ⟨_, rfl⟩
        obtain ⟨μ2, k1, k2, k3, k5⟩ := ihr (i + 1) u' d (upN P i p) μ1 (by omega) (by omega) (by omega) (fun k hk => by
            by_cases hki : k = i
            · subst hki; rw [upN_at]; omega
            · rw [upN_ne hki]; have := hP k (by omega); omega) (by funext z; rw [h1, up2_ne (by omega), hD]) (fun k hk => by
            by_cases hki : k = i
            · subst hki; rw [h1, up2_same, upN_at]
            · rw [h1, up2_ne (by omega), upN_ne hki]; exact hp k (by omega))
        have e0 : seL (alH D) (seP (alH D) most r (i + 1)) most i used P (q + 1) p = (match seP (alH D) most r (i + 1) u' (upN P i p) with
            | some P' => some P'
            | none => seL (alH D) (seP (alH D) most r (i + 1)) most i used P q (p + 1)) := by rw [seL, if_neg (by omega), if_pos c3, ← hu']; rfl
        have run : b_X12_parts_16 (f_X12_parts d) (fu + 1) (some m) (nI i) (nI used) (nI most) (nI p) (mkH n st S μ) = if bI (seP (alH D) most r (i + 1) u' (upN P i p)).isSome = 0 then b_X12_parts_16 (f_X12_parts d) fu (some m) (nI i) (nI used) (nI most) (nI (p + 1)) (mkH n st S μ2) else some (1, mkH n st S μ2) := by
          rw [start, fit, if_pos c3, ← h1]
          by_cases hpe : p = used
          · rw [if_pos hpe] at hu'
            rw [if_pos (by rw [hpe]), eu1, ← hu']
            simp only [b_X12_parts_126, rck hS, k1, some_bind, e11]
          · rw [if_neg hpe] at hu'
            rw [if_neg (fun z => by simp (disch := omega) only [nn_eq] at z; exact hpe z), ← hu']
            simp only [b_X12_parts_126, rck hS, k1, some_bind, e11]
        cases hz : seP (alH D) most r (i + 1) u' (upN P i p) with
        | some P' =>
          have e0' : seL (alH D) (seP (alH D) most r (i + 1)) most i used P (q + 1) p = some P' := by simp only [e0, hz]
          rw [hz] at run k5
          rw [e0']
          refine ⟨μ2, ?_, fun a j h => by rw [k2 a j h, h1, up2_ne (by omega)], fun k hk => by rw [k3 k (by omega), h1, up2_ne (by omega)], fun P'' h => ?_⟩
          · rw [run]; rfl
          · obtain rfl := Option.some.inj h
            exact k5 P' rfl
        | none =>
          have e0' : seL (alH D) (seP (alH D) most r (i + 1)) most i used P (q + 1) p = seL (alH D) (seP (alH D) most r (i + 1)) most i used P q (p + 1) := by simp only [e0, hz]
          rw [hz] at run
          rw [e0']
          have p3 : ∀ k, k < i → μ2 (m + 15) k = μ (m + 15) k := fun k hk => by rw [k3 k (by omega), h1, up2_ne (by omega)]
          have n3 : ∀ a j, ¬ a = m + 15 → μ2 a j = μ a j := fun a j h => by rw [k2 a j h, h1, up2_ne (by omega)]
          obtain ⟨μ4, w1, w2, w3, w5⟩ := ihq (p + 1) fu μ2 (by omega) (by omega) (by omega) (by funext z; rw [n3 _ _ (by omega), hD]) (fun k hk => by rw [p3 k hk]; exact hp k hk)
          refine ⟨μ4, ?_, fun a j h => by rw [w2 a j h, n3 a j h], fun k hk => by rw [w3 k hk, p3 k hk], w5⟩
          rw [run]
          exact w1
    obtain ⟨μ', w1, w2⟩ := inner 11 0 FU μ (by omega) (by omega) (by have : FU = 4000 := rfl; omega) hD hp
    refine ⟨μ', ?_, w2⟩
    simp only [f_X12_parts, g_X12_parts, mR0 hS, some_bind, a8, hne, if_false]
    exact w1
end HANDS
