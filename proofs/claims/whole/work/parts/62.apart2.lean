section APART2
variable {n : Nat} {st : Nat → Nat} {S : SH} {μ : MU} {x b m c : Nat} {D : DR}
def FrL (L : Nat) (μ μ' : MU) : Prop := ∀ a i, a ≠ L → μ' a i = μ a i
theorem k_width {L : Nat} (hL : nnS S L 100 7) (a d : Int32) : ∀ f k j fu (μ : MU), k < 27 ^ f → k < 2 ^ 31 → j + f ≤ 6 → f < fu → (∀ i, i ≤ j → μ L i = nI i) → ∃ μ' : MU, b_X11_lettersApart_9 fu a d (some L) (nI j) (nI k) (mkH n st S μ) = b_X11_lettersApart_37 a d (some L) (nI (j + nlS f k)) (mkH n st S μ') ∧ (∀ i, i ≤ j + nlS f k → μ' L i = nI i) ∧ FrL L μ μ' := by
  intro f
  induction f with
  | zero =>
    intro k j fu μ hk h31 hj hf hm
    obtain ⟨fu, rfl⟩ : ∃ q, fu = q + 1 := ⟨fu - 1, by omega⟩
    obtain rfl : k = 0 := by omega
    exact ⟨μ, by simp only [b_X11_lettersApart_9, show ¬ (0 : Int32) < nI 0 from by decide, if_false, nlS, Nat.add_zero], fun i hi => hm i (by simpa [nlS] using hi), fun _ _ _ => rfl⟩
  | succ f ih =>
    intro k j fu μ hk h31 hj hf hm
    obtain ⟨fu, rfl⟩ : ∃ q, fu = q + 1 := ⟨fu - 1, by omega⟩
    by_cases h0 : k = 0
    · subst h0
      exact ⟨μ, by simp only [b_X11_lettersApart_9, show ¬ (0 : Int32) < nI 0 from by decide, if_false, nlS, if_true, Nat.add_zero], fun i hi => hm i (by simpa [nlS] using hi), fun _ _ _ => rfl⟩
    · have hk' : k / 27 < 27 ^ f := by
        rw [Nat.div_lt_iff_lt_mul (by omega)]
        rw [Nat.pow_succ] at hk
        exact hk
      obtain ⟨μ', h1, h2, h3⟩ := ih (k / 27) (j + 1) fu (up2 μ L (j + 1) (nI (j + 1))) hk' (by omega) (by omega) (by omega) (by
        intro i hi
        by_cases hij : i = j + 1
        · subst hij; exact up2_same
        · rw [up2_ne (by omega)]; exact hm i (by omega))
      refine ⟨μ', ?_, ?_, ?_⟩
      · have hp : (0 : Int32) < nI k := nI_lt (a := 0) (by omega) h31
        have h6 : nI j < 6 := nI_lt (b := 6) (by omega) (by decide)
        simp (disch := omega) only [b_X11_lettersApart_9, hp, h6, if_true, div27, nI_1, ob_sI hL, some_bind]
        rw [h1, nlS, if_neg h0, show j + 1 + nlS f (k / 27) = j + (nlS f (k / 27) + 1) from by omega]
      · intro i hi
        rw [nlS, if_neg h0] at hi
        exact h2 i (by omega)
      · intro q i h
        rw [h3 q i h, up2_ne (by omega)]
theorem mMin_N {p q : Nat} (hp : p < 2 ^ 31) (hq : q < 2 ^ 31) : mMin (nI p) (nI q) = nI (min p q) := by
  unfold mMin
  simp only [nn_lt hq hp]
  by_cases h : q < p
  · rw [if_pos h, Nat.min_eq_right (by omega)]
  · rw [if_neg h, Nat.min_eq_left (by omega)]
theorem k_row {L : Nat} (hL : nnS S L 100 7) (k43 : Int32 → Option Nat → Int32 → Int32 → Int32 → AH → Option (Int32 × AH)) {la : Nat → Nat} {d w i q : Nat} (hw : w ≤ 6) (hi : i < 6) (hq : q < 2 ^ 31) (hqi : q % 27 = la i) (dv : Int32) : ∀ k j fu y (μ : MU), j + k = w + 1 → 1 ≤ j → k < fu → y = d / 27 ^ (j - 1) → d < 2 ^ 31 → (∀ j', j' < j → μ L j' = nI (tabS la (ltS d) (i + 1) j')) → (∀ j', j ≤ j' → j' ≤ w → μ L j' = nI (tabS la (ltS d) i j')) → ∃ μ' : MU, b_X11_lettersApart_66 k43 fu dv (some L) (nI w) (nI (i + 1)) (nI q) (nI (tabS la (ltS d) i (j - 1))) (nI y) (nI j) (mkH n st S μ) = k43 dv (some L) (nI w) (nI (i + 1)) (nI (q / 27)) (mkH n st S μ') ∧ (∀ j', j' ≤ w → μ' L j' = nI (tabS la (ltS d) (i + 1) j')) ∧ FrL L μ μ' := by
  intro k
  induction k with
  | zero =>
    intro j fu y μ hj h1 hf hy hd m1 m2
    obtain ⟨fu, rfl⟩ : ∃ q, fu = q + 1 := ⟨fu - 1, by omega⟩
    have q0 : nI w < nI j := nI_lt (by omega) (by omega)
    exact ⟨μ, by simp only [b_X11_lettersApart_66, q0, if_true, div27 hq], fun j' hj' => m1 j' (by omega), fun _ _ _ => rfl⟩
  | succ k ih =>
    intro j fu y μ hj h1 hf hy hd m1 m2
    obtain ⟨fu, rfl⟩ : ∃ q, fu = q + 1 := ⟨fu - 1, by omega⟩
    obtain ⟨j, rfl⟩ : ∃ q, j = q + 1 := ⟨j - 1, by omega⟩
    have q0 : ¬ nI w < nI (j + 1) := nI_nlt (by omega) (by omega)
    have hy31 : y < 2 ^ 31 := by rw [hy]; exact Nat.lt_of_le_of_lt (Nat.div_le_self _ _) hd
    have hyj : y % 27 = ltS d j := by rw [hy]; rfl
    have hy' : y / 27 = d / 27 ^ (j + 1 + 1 - 1) := by
      rw [hy]
      show d / 27 ^ j / 27 = d / 27 ^ (j + 1)
      rw [Nat.div_div_eq_div_mul, Nat.pow_succ]
    have l1 := tabS_le la (ltS d) i j
    have l2 := tabS_le la (ltS d) i (j + 1)
    have l3 := tabS_le la (ltS d) (i + 1) j
    have g1 := m1 j (by omega)
    have g2 := m2 (j + 1) (by omega) (by omega)
    have hll : (nI (q % 27) = nI (y % 27)) = (la i = ltS d j) := by
      rw [hqi, hyj]
      refine nn_eq (by rw [← hqi]; omega) (by have := ltS_lt d j; omega)
    have heq : tabS la (ltS d) (i + 1) (j + 1) = min (tabS la (ltS d) i j + if la i = ltS d j then 0 else 1) (min (tabS la (ltS d) i (j + 1)) (tabS la (ltS d) (i + 1) j) + 1) := by
      rw [tabS]; exact Nat.min_comm _ _
    have h94 : ∀ v, v ≤ 20 → b_X11_lettersApart_94 k43 (b_X11_lettersApart_66 k43 fu) dv (some L) (nI w) (nI (i + 1)) (nI q) (nI y) (nI (j + 1)) (nI v) (mkH n st S μ) = b_X11_lettersApart_66 k43 fu dv (some L) (nI w) (nI (i + 1)) (nI q) (nI (tabS la (ltS d) i (j + 1))) (nI (y / 27)) (nI (j + 1 + 1)) (mkH n st S (up2 μ L (j + 1) (nI (min v (min (tabS la (ltS d) i (j + 1)) (tabS la (ltS d) (i + 1) j) + 1))))) := by
      intro v hv
      simp (disch := omega) only [b_X11_lettersApart_94, ob_aI hL, some_bind, nI_pred, g1, g2, mMin_N, nI_1, ob_sI hL, div27]
    obtain ⟨μ', f1, f2, f3⟩ := ih (j + 1 + 1) fu (y / 27) (up2 μ L (j + 1) (nI (tabS la (ltS d) (i + 1) (j + 1)))) (by omega) (by omega) (by omega) hy' hd (by
      intro j' hj'
      by_cases hjj : j' = j + 1
      · subst hjj; exact up2_same
      · rw [up2_ne (by omega)]; exact m1 j' (by omega)) (by
      intro j' hj' hjw
      rw [up2_ne (by omega)]; exact m2 j' (by omega) hjw)
    refine ⟨μ', ?_, f2, fun a' i' h => by rw [f3 a' i' h, up2_ne (by omega)]⟩
    rw [← f1, heq]
    simp only [b_X11_lettersApart_66, q0, if_false, rem27 hq, rem27 hy31, hll, nI_1, Nat.add_sub_cancel]
    by_cases hq' : la i = ltS d j
    · simp only [if_pos hq', Nat.add_zero]
      exact h94 _ (by omega)
    · simp only [if_neg hq']
      exact h94 _ (by omega)
theorem k_rows {L : Nat} (hL : nnS S L 100 7) {d w : Nat} (hw : w ≤ 6) (hd : d < 2 ^ 31) (la : Nat → Nat) : ∀ f q i fu (μ : MU), q < 27 ^ f → q < 2 ^ 31 → i + f ≤ 6 → f < fu → (∀ j, ltS q j = la (i + j)) → (∀ j', j' ≤ w → μ L j' = nI (tabS la (ltS d) i j')) → ∃ μ' : MU, b_X11_lettersApart_43 fu (nI d) (some L) (nI w) (nI i) (nI q) (mkH n st S μ) = some (nI (tabS la (ltS d) (i + nlS f q) w), mkH n st S μ') ∧ FrL L μ μ' := by
  intro f
  induction f with
  | zero =>
    intro q i fu μ hk h31 hj hf hla hm
    obtain ⟨fu, rfl⟩ : ∃ q, fu = q + 1 := ⟨fu - 1, by omega⟩
    obtain rfl : q = 0 := by omega
    have g := hm w (by omega)
    exact ⟨μ, by simp (disch := omega) only [b_X11_lettersApart_43, show ¬ (0 : Int32) < nI 0 from by decide, if_false, ob_aI hL, some_bind, g, nlS, Nat.add_zero], fun _ _ _ => rfl⟩
  | succ f ih =>
    intro q i fu μ hk h31 hj hf hla hm
    obtain ⟨fu, rfl⟩ : ∃ q, fu = q + 1 := ⟨fu - 1, by omega⟩
    by_cases h0 : q = 0
    · subst h0
      have g := hm w (by omega)
      exact ⟨μ, by simp (disch := omega) only [b_X11_lettersApart_43, show ¬ (0 : Int32) < nI 0 from by decide, if_false, ob_aI hL, some_bind, g, nlS, if_true, Nat.add_zero], fun _ _ _ => rfl⟩
    · have hk' : q / 27 < 27 ^ f := by
        rw [Nat.div_lt_iff_lt_mul (by omega)]
        rw [Nat.pow_succ] at hk
        exact hk
      have hp : (0 : Int32) < nI q := nI_lt (a := 0) (by omega) h31
      have hqi : q % 27 = la i := by
        have := hla 0
        rw [Nat.add_zero] at this
        rw [← this]; simp [ltS]
      obtain ⟨μ1, r1, r2, r3⟩ := k_row (n := n) (st := st) hL (b_X11_lettersApart_43 fu) (la := la) (d := d) (w := w) (i := i) (q := q) hw (by omega) h31 hqi (nI d) w 1 FU d (up2 μ L 0 (nI (i + 1))) (by omega) (by omega) (by simp only [FU]; omega) (by simp) hd (by
        intro j' hj'
        obtain rfl : j' = 0 := by omega
        rw [up2_same, tabS]) (by
        intro j' h1 h2
        rw [up2_ne (by omega)]; exact hm j' h2)
      obtain ⟨μ2, s1, s2⟩ := ih (q / 27) (i + 1) fu μ1 hk' (by omega) (by omega) (by omega) (by
        intro j
        have := hla (j + 1)
        rw [ltS_succ] at this
        rw [this]; congr 1; omega) r2
      refine ⟨μ2, ?_, fun a' i' h => by rw [s2 a' i' h, r3 a' i' h, up2_ne (by omega)]⟩
      have g0 : nI i = nI (tabS la (ltS d) i (1 - 1)) := by
        cases i with
        | zero => simp [tabS]
        | succ i => simp [tabS]
      rw [nlS, if_neg h0, show i + (nlS f (q / 27) + 1) = i + 1 + nlS f (q / 27) from by omega, ← s1, ← r1]
      simp (disch := omega) only [b_X11_lettersApart_43, hp, if_true, lit_sI, ob_sI hL, some_bind, nI_1]
      rw [g0]
      rfl
theorem k_apart {L : Nat} (hL : nnS S L 100 7) {a d : Nat} (ha : a < 387420489) (hd : d < 387420489) : ∃ μ' : MU, f_X11_lettersApart (nI a) (nI d) (some L) (mkH n st S μ) = some (nI (apS (nI a) (nI d)), mkH n st S μ') ∧ FrL L μ μ' := by
  obtain ⟨μ1, h1, h2, h3⟩ := k_width (n := n) (st := st) hL (nI a) (nI d) 6 d 0 FU (up2 μ L 0 0) (by omega) (by omega) (by omega) (by decide) (by
    intro i hi
    obtain rfl : i = 0 := by omega
    rw [up2_same]; rfl)
  rw [Nat.zero_add] at h1 h2
  have lb := nlS_le 6 d
  obtain ⟨μ2, g1, g2⟩ := k_rows (n := n) (st := st) hL (d := d) (w := nlS 6 d) lb (by omega) (ltS a) 6 a 0 FU μ1 (by omega) (by omega) (by omega) (by decide) (fun j => by rw [Nat.zero_add]) (by
    intro j' hj'
    rw [tabS]; exact h2 j' hj')
  refine ⟨μ2, ?_, fun a' i' h => by rw [g2 a' i' h, h3 a' i' h, up2_ne (by omega)]⟩
  rw [apS, nI_clamp (by omega), nI_clamp (by omega)]
  rw [Nat.zero_add] at g1
  simp (disch := omega) only [f_X11_lettersApart, lit_sI, ob_sI hL, some_bind]
  exact h1.trans g1
theorem op_apart (hR : R n st S μ x b) (a1 a2 : Int32) : Res (f_X11_apart (some x) a1 a2) (f_X12_apart (some (x + 175)) a1 a2) n st S μ x b := by
  have hR' := hR
  obtain ⟨⟨hX, hS, hs, hI, hL0⟩, hRest⟩ := hR
  have hC := hX.city
  have hBase := hRest.2.2.2.1
  obtain ⟨D, hD⟩ : ∃ D, μ (x + 175 + 1) = D := ⟨_, rfl⟩
  replace hs : Sim μ (x + 1) (μ (x + 175 + 1)) := hs
  replace hI : Inv (μ (x + 175 + 1)) := hI
  rw [hD] at hs hI
  obtain ⟨e0, b0⟩ := hI.today
  obtain ⟨e1, b1⟩ := hI.wards
  obtain ⟨e2, b2⟩ := hI.men
  obtain ⟨e3, b3⟩ := hI.words
  obtain ⟨e4, b4⟩ := hI.bars
  obtain ⟨e5, b5⟩ := hI.shes
  obtain ⟨e6, b6⟩ := hI.wets
  obtain ⟨e8, b8⟩ := hI.heaped
  have z0 := hs.today
  have z1 := hs.wardN
  have z2 := hs.manN
  have z3 := hs.wordN
  have z4 := hs.barN
  have z5 := hs.sheN
  have z6 := hs.wetN
  have z8 := hs.heapN
  by_cases c1 : nmB a1 = true
  case neg => exact Res.same hR' (-1) (by simp only [f_X11_apart, k_isName, some_bind, ite_bI0, c1, if_false, Bool.false_eq_true]) (by simp only [f_X12_apart, r_isName, some_bind, ite_bI0, c1, if_false, Bool.false_eq_true])
  by_cases c2 : nmB a2 = true
  case neg => exact Res.same hR' (-1) (by simp only [f_X11_apart, k_isName, some_bind, ite_bI0, c1, c2, if_true, if_false, Bool.false_eq_true]) (by simp only [f_X12_apart, r_isName, some_bind, ite_bI0, c1, c2, if_true, if_false, Bool.false_eq_true])
  obtain ⟨a, rfl, _, ha, _⟩ := nmB_ex c1
  obtain ⟨d, rfl, _, hd, _⟩ := nmB_ex c2
  obtain ⟨μ1, h1, h2⟩ := k_apart (n := n) (st := st) (μ := μ) hC.lin ha hd
  obtain ⟨μ2, g1, g2⟩ := r_apartBy (n := n) (st := st) (μ := μ1) hS ha hd
  refine ⟨nI (apS (nI a) (nI d)), mkH n st S μ1, n, S, μ2, ?_, ?_, hR'.congr ?_⟩
  · simp only [f_X11_apart, k_isName, some_bind, ite_bI0, c1, c2, if_true, xR0 hX, cR19 hC, h1]
  · simp only [f_X12_apart, r_isName, some_bind, ite_bI0, c1, c2, if_true, rck hS, g1]
  · intro q i h
    unfold scr at h
    rw [g2 q i (by omega), h2 q i (by omega)]
end APART2
