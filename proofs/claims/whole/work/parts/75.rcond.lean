-- ===== the reference reads a condition =====
section RCOND
variable {n : Nat} {st : Nat → Nat} {S : SH} {μ : MU} {x b m : Nat} {T : Nat → Int32} {N : Nat} {F : Nat → Int32}
def FrP (m : Nat) (μ μ' : MU) : Prop := ∀ a j, ¬ (a = m ∧ 13 ≤ j ∧ j ≤ 18) → μ' a j = μ a j
theorem FrP.trans {μ' μ'' : MU} (h : FrP m μ μ') (h' : FrP m μ' μ'') : FrP m μ μ'' := fun a j q => (h' a j q).trans (h a j q)
theorem FrK.frP {μ' : MU} (h : FrK m μ μ') : FrP m μ μ' := fun a j q => h a j (by omega)
/-- the reader stands ahead of the token behind p, without a fault -/
def RdS (st : Nat → Nat) (S : SH) (x b m : Nat) (T : Nat → Int32) (N : Nat) (F : Nat → Int32) (o p : Nat) (μ : MU) : Prop := (ShM S m ∧ x ≤ m) ∧ BaseOK st S μ x b ∧ SrcR μ m T N ∧ μ m 17 = -1 ∧ μ m 18 = nI o ∧ (∀ i, i < 7 → μ (m + 7) i = F i) ∧ Tok μ m T N p ∧ p ≤ N
def Ou {α : Type} (m : Nat) (T : Nat → Int32) (N : Nat) (enc : α → Int32) (μ μ' : MU) (v : Int32) (res : Nat ⊕ (α × Nat)) : Prop := FrP m μ μ' ∧ μ' m 18 = μ m 18 ∧ match res with
  | .inl e => μ' m 17 = nI e ∧ e ≤ N
  | .inr q => v = enc q.1 ∧ μ' m 17 = -1 ∧ Tok μ' m T N q.2 ∧ q.2 ≤ N
theorem RdS.go {μ' : MU} {o o' p q : Nat} (h : RdS st S x b m T N F o p μ) (hf : FrP m μ μ') (h17 : μ' m 17 = -1) (h18 : μ' m 18 = nI o') (ht : Tok μ' m T N q) (hq : q ≤ N) : RdS st S x b m T N F o' q μ' := by
  obtain ⟨⟨hS, hm⟩, hB, hT, -, -, hF, -, -⟩ := h
  exact ⟨⟨hS, hm⟩, hB.congr (fun _ _ => rfl) (fun a j q => hf a j (by omega)), hT.fr (fun a j q _ _ => hf a j q), h17, h18, fun i hi => by rw [hf _ _ (by omega)]; exact hF i hi, ht, hq⟩
/-- on to the next token -/
theorem RdS.next {o p : Nat} (h : RdS st S x b m T N F o p μ) : ∃ μ', f_X12_next (some m) (mkH n st S μ) = some (mkH n st S μ') ∧ FrK m μ μ' ∧ RdS st S x b m T N F o (tA T N p) μ' := by
  have h' := h
  obtain ⟨⟨hS, hm⟩, hB, hT, h17, h18, hF, ht, hp⟩ := h
  have hpp := tok_pos (T := T) hp
  obtain ⟨μ', g1, g2, g3⟩ := r_next (n := n) (st := st) hS hm hB hT hpp.2.2.1 ht.1
  exact ⟨μ', g1, g2, h'.go g2.frP (by rw [g2 _ _ (by omega)]; exact h17) (by rw [g2 _ _ (by omega)]; exact h18) g3 hpp.2.2.1⟩
/-- a fault here -/
theorem RdS.wrong {o p : Nat} (h : RdS st S x b m T N F o p μ) : ∃ μ', f_X12_wrong (some m) (mkH n st S μ) = some (mkH n st S μ') ∧ FrP m μ μ' ∧ μ' m 18 = μ m 18 ∧ μ' m 17 = nI (tB T N p) ∧ tB T N p ≤ N := by
  obtain ⟨⟨hS, hm⟩, hB, hT, h17, h18, hF, ht, hp⟩ := h
  have hpp := tok_pos (T := T) hp
  refine ⟨up2 μ m 17 (nI (tB T N p)), ?_, fun a j q => up2_ne (by omega), up2_ne (by omega), up2_same, by omega⟩
  have : (-1 : Int32) < 0 := by decide
  simp only [f_X12_wrong, mI17 hS, some_bind, h17, this, if_true, mI14 hS, ht.2.1, b_X12_wrong_19, mP17 hS]
theorem r_factOf {l : Nat} (hl : l < 4) (w : Int32) (h : AH) : f_X12_factOf (nI l) w h = some (facS (nI l) w) := by
  unfold f_X12_factOf facS
  rcases (by omega : l = 0 ∨ l = 1 ∨ l = 2 ∨ l = 3) with rfl | rfl | rfl | rfl
  · have a1 : ¬ (nI 0 < 0 ∨ 2 < nI 0) := by decide
    have a2 : nI 0 = (0 : Int32) := rfl
    rw [if_neg a1, if_pos a2, if_pos a2, s_in]
    by_cases h1 : inS w 8 14 = true
    · simp only [h1, some_bind, ite_bI0, if_true]
    · simp only [h1, some_bind, ite_bI0, if_false, Bool.false_eq_true]
  · have a1 : ¬ (nI 1 < 0 ∨ 2 < nI 1) := by decide
    have a2 : ¬ nI 1 = (0 : Int32) := by decide
    have a3 : nI 1 = (1 : Int32) := rfl
    rw [if_neg a1, if_neg a2, if_pos a3, if_neg a2, if_pos a3, s_in]
    by_cases h1 : inS w 15 18 = true
    · simp only [h1, some_bind, ite_bI0, if_true]
    · simp only [h1, some_bind, ite_bI0, if_false, Bool.false_eq_true]
  · have a1 : ¬ (nI 2 < 0 ∨ 2 < nI 2) := by decide
    have a2 : ¬ nI 2 = (0 : Int32) := by decide
    have a3 : ¬ nI 2 = (1 : Int32) := by decide
    have a4 : nI 2 = (2 : Int32) := rfl
    rw [if_neg a1, if_neg a2, if_neg a3, if_pos a4, if_neg a2, if_neg a3, if_pos a4]
    by_cases h1 : w = 19
    · rw [if_pos h1, if_pos h1]
    · rw [if_neg h1, if_neg h1]
      by_cases h2 : w = 15
      · rw [if_pos h2, if_pos h2]
      · rw [if_neg h2, if_neg h2]
  · have a1 : nI 3 < 0 ∨ 2 < nI 3 := by decide
    have a2 : ¬ nI 3 = (0 : Int32) := by decide
    have a3 : ¬ nI 3 = (1 : Int32) := by decide
    have a4 : ¬ nI 3 = (2 : Int32) := by decide
    rw [if_pos a1, if_neg a2, if_neg a3, if_neg a4]
    by_cases h1 : w = 20
    · rw [if_pos h1, if_pos h1]
    · rw [if_neg h1, if_neg h1]
      by_cases h2 : w = 4
      · rw [if_pos h2, if_pos h2]
      · rw [if_neg h2, if_neg h2]
theorem m1lt : (-1 : Int32) < 0 := by decide
theorem r_term {l : Nat} (hl : l < 4) {o p : Nat} (h : RdS st S x b m T N F o p μ) : ∃ v μ', f_X12_term (some m) (nI l) (mkH n st S μ) = some (v, mkH n st S μ') ∧ Ou m T N id μ μ' v (termS T N F (nI l) p) := by
  have h' := h
  obtain ⟨⟨hS, hm⟩, hB, hT, h17, h18, hF, ht, hp⟩ := h
  obtain ⟨t1, t2, t3, t4⟩ := ht
  unfold termS
  by_cases h3 : tK T N p = 3
  · rw [if_pos h3]
    obtain ⟨μ', g1, g2, g3⟩ := h'.next (n := n)
    refine ⟨tV T N p, μ', ?_, g2.frP, g2 _ _ (by omega), rfl, by rw [g2 _ _ (by omega)]; exact h17, g3.2.2.2.2.2.2.1, g3.2.2.2.2.2.2.2⟩
    simp only [f_X12_term, mI17 hS, some_bind, h17, m1lt, if_true, mI15 hS, t3, h3, mI16 hS, t4 (Or.inr h3), rck hS, g1]
  · rw [if_neg h3]
    by_cases h2 : tK T N p = 2 ∧ ¬ facS (nI l) (tV T N p) < 0
    · rw [if_pos h2]
      obtain ⟨μ', g1, g2, g3⟩ := h'.next (n := n)
      obtain ⟨k, hk, ek⟩ := facS_in h2.2
      refine ⟨F k, μ', ?_, g2.frP, g2 _ _ (by omega), ?_, by rw [g2 _ _ (by omega)]; exact h17, g3.2.2.2.2.2.2.1, g3.2.2.2.2.2.2.2⟩
      · have hk0 : ¬ nI k < (0 : Int32) := nI_pos (by omega)
        have n23 : ¬ (2 : Int32) = 3 := by decide
        simp (disch := omega) only [f_X12_term, b_X12_term_29, mI17 hS, some_bind, h17, m1lt, if_true, mI15 hS, t3, h2.1, n23, if_false, mI16 hS, t4 (Or.inl h2.1), r_factOf hl, ek, hk0, mR8 hS, mA8 hS, hF k hk, rck hS, g1]
      · rw [ek, nI_clamp (by omega)]; rfl
    · rw [if_neg h2]
      obtain ⟨μ', g1, g2, g3, g4, g5⟩ := h'.wrong (n := n)
      refine ⟨0, μ', ?_, g2, g3, g4, g5⟩
      by_cases h22 : tK T N p = 2
      · have hf : facS (nI l) (tV T N p) < 0 := by
          rcases Decidable.em (facS (nI l) (tV T N p) < 0) with q | q
          · exact q
          · exact absurd ⟨h22, q⟩ h2
        have n23 : ¬ (2 : Int32) = 3 := by decide
        simp only [f_X12_term, b_X12_term_29, b_X12_term_76, mI17 hS, some_bind, h17, m1lt, if_true, mI15 hS, t3, h22, n23, if_false, mI16 hS, t4 (Or.inl h22), r_factOf hl, hf, rck hS, g1]
      · simp only [f_X12_term, b_X12_term_29, b_X12_term_76, mI17 hS, some_bind, h17, m1lt, if_true, mI15 hS, t3, h3, h22, if_false, rck hS, g1]
theorem nlt0 {e : Nat} (h : e < 2 ^ 31) : ¬ nI e < (0 : Int32) := nI_pos h
theorem r_sumL {l : Nat} (hl : l < 4) {o : Nat} : ∀ k f fu v p (μ : MU), RdS st S x b m T N F o p μ → N - p ≤ k → k < f → k < fu → ∃ v' μ', b_X12_sum_6 fu (some m) (nI l) v (mkH n st S μ) = some (v', mkH n st S μ') ∧ Ou m T N id μ μ' v' (sumL T N F (nI l) f v p) := by
  intro k
  induction k with
  | zero =>
    intro f fu v p μ h hk hf hfu
    obtain ⟨fu, rfl⟩ : ∃ q, fu = q + 1 := ⟨fu - 1, by omega⟩
    obtain ⟨f, rfl⟩ : ∃ q, f = q + 1 := ⟨f - 1, by omega⟩
    obtain ⟨⟨hS, hm⟩, hB, hT, h17, h18, hF, ht, hp⟩ := h
    have hpp := tok_pos (T := T) hp
    have h0 : ¬ (tK T N p = 43 ∨ tK T N p = 45) := by
      intro h
      have : ¬ tK T N p = 0 := by rcases h with h | h <;> rw [h] <;> decide
      have := hpp.2.2.2 this
      omega
    rw [sumL, if_neg h0]
    refine ⟨v, μ, ?_, fun _ _ _ => rfl, rfl, rfl, h17, ht, hp⟩
    have h43 : ¬ tK T N p = 43 := fun q => h0 (Or.inl q)
    have h45 : ¬ tK T N p = 45 := fun q => h0 (Or.inr q)
    simp only [b_X12_sum_6, mI17 hS, some_bind, h17, m1lt, if_true, mI15 hS, ht.2.2.1, h43, h45, if_false]
  | succ k ih =>
    intro f fu v p μ h hk hf hfu
    obtain ⟨fu, rfl⟩ : ∃ q, fu = q + 1 := ⟨fu - 1, by omega⟩
    obtain ⟨f, rfl⟩ : ∃ q, f = q + 1 := ⟨f - 1, by omega⟩
    have h' := h
    obtain ⟨⟨hS, hm⟩, hB, hT, h17, h18, hF, ht, hp⟩ := h
    have hpp := tok_pos (T := T) hp
    have hN := hT.2.1
    rw [sumL]
    by_cases h0 : tK T N p = 43 ∨ tK T N p = 45
    · rw [if_pos h0]
      have hn0 : ¬ tK T N p = 0 := by rcases h0 with h | h <;> rw [h] <;> decide
      have hlt := hpp.2.2.2 hn0
      obtain ⟨μ1, g1, g2, g3⟩ := h'.next (n := n)
      obtain ⟨w, μ2, r1, r2, r3, r4⟩ := r_term (n := n) hl g3
      have hfr := g2.frP.trans r2
      have h31 : b_X12_sum_31 (b_X12_sum_6 fu) (some m) (nI l) v (mkH n st S μ) = b_X12_sum_6 fu (some m) (nI l) (if tK T N p = 43 then v + w else v - w) (mkH n st S μ2) := by
        by_cases h43 : tK T N p = 43
        · simp only [b_X12_sum_31, b_X12_sum_45, mI15 hS, some_bind, ht.2.2.1, h43, if_true, rck hS, g1, r1]
          rfl
        · simp only [b_X12_sum_31, b_X12_sum_45, mI15 hS, some_bind, ht.2.2.1, h43, if_false, rck hS, g1, r1]
          rfl
      have hx : b_X12_sum_6 (fu + 1) (some m) (nI l) v (mkH n st S μ) = b_X12_sum_31 (b_X12_sum_6 fu) (some m) (nI l) v (mkH n st S μ) := by
        rcases h0 with h0 | h0
        · simp only [b_X12_sum_6, mI17 hS, some_bind, h17, m1lt, if_true, mI15 hS, ht.2.2.1, h0]
        · have n1 : ¬ (45 : Int32) = 43 := by decide
          simp only [b_X12_sum_6, mI17 hS, some_bind, h17, m1lt, if_true, mI15 hS, ht.2.2.1, h0, n1, if_false]
      rw [hx, h31]
      cases hte : termS T N F (nI l) (tA T N p) with
      | inl e =>
        rw [hte] at r4
        obtain ⟨r4, r5⟩ := r4
        obtain ⟨fu, rfl⟩ : ∃ q, fu = q + 1 := ⟨fu - 1, by omega⟩
        refine ⟨(if tK T N p = 43 then v + w else v - w), μ2, ?_, hfr, by rw [r3, g2 _ _ (by omega)], r4, r5⟩
        have : ¬ nI e < (0 : Int32) := nlt0 (by omega)
        simp only [b_X12_sum_6, mI17 hS, some_bind, r4, this, if_false]
      | inr z =>
        rw [hte] at r4
        obtain ⟨r4, r5, r6, r7⟩ := r4
        have g4 := g3.go r2 r5 (r3.trans g3.2.2.2.2.1) r6 r7
        have hz : tA T N p < z.2 ∨ z.2 = tA T N p ∨ True := Or.inr (Or.inr trivial)
        have hzp : tA T N p ≤ z.2 := by
          have hpp2 := tok_pos (T := T) hpp.2.2.1
          unfold termS at hte
          split at hte
          · have := Sum.inr.inj hte; rw [← this]; exact Nat.le_trans hpp2.1 hpp2.2.1
          · split at hte
            · have := Sum.inr.inj hte; rw [← this]; exact Nat.le_trans hpp2.1 hpp2.2.1
            · cases hte
        obtain ⟨v', μ', s1, s2, s3, s4⟩ := ih f fu (if tK T N p = 43 then v + w else v - w) z.2 μ2 g4 (by omega) (by omega) (by omega)
        have r4' : w = z.1 := r4
        rw [r4'] at s1 s4
        simp only []
        rw [r4']
        exact ⟨v', μ', s1, hfr.trans s2, by rw [s3, r3, g2 _ _ (by omega)], s4⟩
    · rw [if_neg h0]
      refine ⟨v, μ, ?_, fun _ _ _ => rfl, rfl, rfl, h17, ht, hp⟩
      have h43 : ¬ tK T N p = 43 := fun q => h0 (Or.inl q)
      have h45 : ¬ tK T N p = 45 := fun q => h0 (Or.inr q)
      simp only [b_X12_sum_6, mI17 hS, some_bind, h17, m1lt, if_true, mI15 hS, ht.2.2.1, h43, h45, if_false]
theorem r_sum {l : Nat} (hl : l < 4) {o p : Nat} (h : RdS st S x b m T N F o p μ) : ∃ v μ', f_X12_sum (some m) (nI l) (mkH n st S μ) = some (v, mkH n st S μ') ∧ Ou m T N id μ μ' v (sumS T N F (nI l) p) := by
  have h' := h
  obtain ⟨⟨hS, hm⟩, hB, hT, h17, h18, hF, ht, hp⟩ := h
  have hN := hT.2.1
  obtain ⟨w, μ2, r1, r2, r3, r4⟩ := r_term (n := n) hl h'
  have hx : f_X12_sum (some m) (nI l) (mkH n st S μ) = b_X12_sum_6 FU (some m) (nI l) w (mkH n st S μ2) := by
    simp only [f_X12_sum, rck hS, r1, some_bind]
  unfold sumS
  rw [hx]
  cases hte : termS T N F (nI l) p with
  | inl e =>
    rw [hte] at r4
    obtain ⟨r4, r5⟩ := r4
    refine ⟨w, μ2, ?_, r2, r3, r4, r5⟩
    have : ¬ nI e < (0 : Int32) := nlt0 (by omega)
    obtain ⟨fu, hfu⟩ : ∃ q, FU = q + 1 := ⟨3999, rfl⟩
    rw [hfu]
    simp only [b_X12_sum_6, mI17 hS, some_bind, r4, this, if_false]
  | inr z =>
    rw [hte] at r4
    obtain ⟨r4, r5, r6, r7⟩ := r4
    have g4 := h'.go r2 r5 (r3.trans h18) r6 r7
    obtain ⟨v', μ', s1, s2, s3, s4⟩ := r_sumL (n := n) hl 300 400 FU w z.2 μ2 g4 (by omega) (by omega) (by decide)
    have r4' : w = z.1 := r4
    rw [r4'] at s1 s4
    rw [r4']
    exact ⟨v', μ', s1, r2.trans s2, by rw [s3, r3], s4⟩
end RCOND
