-- ===== the reference reads a text =====
section RREADS
variable {n : Nat} {st : Nat → Nat} {S : SH} {μ : MU} {x b m : Nat} {T : Nat → Int32} {N : Nat} {F : Nat → Int32}
def FrQ (m : Nat) (μ μ' : MU) : Prop := ∀ a j, ¬ (a = m ∧ 13 ≤ j ∧ j ≤ 18) → ¬ a = m + 8 → ¬ a = m + 9 → μ' a j = μ a j
theorem FrQ.trans {μ' μ'' : MU} (h : FrQ m μ μ') (h' : FrQ m μ' μ'') : FrQ m μ μ'' := fun a j q1 q2 q3 => (h' a j q1 q2 q3).trans (h a j q1 q2 q3)
theorem FrP.frQ {μ' : MU} (h : FrP m μ μ') : FrQ m μ μ' := fun a j q _ _ => h a j q
theorem RdS.goQ {μ' : MU} {o o' p q : Nat} (h : RdS st S x b m T N F o p μ) (hf : FrQ m μ μ') (h17 : μ' m 17 = -1) (h18 : μ' m 18 = nI o') (ht : Tok μ' m T N q) (hq : q ≤ N) : RdS st S x b m T N F o' q μ' := by
  obtain ⟨⟨hS, hm⟩, hB, hT, -, -, hF, -, -⟩ := h
  exact ⟨⟨hS, hm⟩, hB.congr (fun _ _ => rfl) (fun a j q => hf a j (by omega) (by omega) (by omega)), hT.fr hf, h17, h18, fun i hi => by rw [hf _ _ (by omega) (by omega) (by omega)]; exact hF i hi, ht, hq⟩
theorem wiS_lt {bb e : Nat} : ∀ (ws : List (List Nat)) k0 k, wiS T N bb e k0 ws = some k → k0 ≤ k ∧ k < k0 + ws.length := by
  intro ws
  induction ws with
  | nil => intro k0 k h; cases h
  | cons w r ih =>
    intro k0 k h
    rw [wiS] at h
    split at h
    · have := Option.some.inj h
      simp only [List.length_cons]; omega
    · have := ih _ _ h
      simp only [List.length_cons]; omega
theorem tV_word {p : Nat} (h : tK T N p = 2) : ∃ k, k < 21 ∧ tV T N p = nI k := by
  rcases nxS_cases T N p with ⟨-, -, -, h4⟩ | ⟨-, -, -, -, h4, -⟩ | ⟨-, -, -, -, -, ⟨k, w1, w2, w3⟩ | ⟨w1, w2⟩⟩ | ⟨-, -, -, -, -, h4⟩
  · rw [h4] at h; exact absurd h (by decide)
  · rw [h4] at h; split at h <;> exact absurd h (by decide)
  · have := (wiS_lt WL 0 k w1).2
    exact ⟨k, by simpa [WL] using this, w3⟩
  · rw [w2] at h; exact absurd h (by decide)
  · rw [h4] at h
    split at h
    · rename_i ho
      rw [h] at ho; exact absurd ho (by decide)
    · exact absurd h (by decide)
/-- behind a line: a semicolon -/
theorem r_line65 {o p : Nat} (h : RdS st S x b m T N F o p μ) : ∃ μ', b_X12_line_65 (some m) (mkH n st S μ) = some (mkH n st S μ') ∧ FrP m μ μ' ∧ μ' m 18 = μ m 18 ∧ (if tK T N p = 59 then μ' m 17 = -1 ∧ Tok μ' m T N (tA T N p) ∧ tA T N p ≤ N else μ' m 17 = nI (tB T N p) ∧ tB T N p ≤ N) := by
  have h' := h
  obtain ⟨⟨hS, hm⟩, hB, hT, h17, h18, hF, ht, hp⟩ := h
  have hN := hT.2.1
  by_cases h59 : tK T N p = 59
  · obtain ⟨μ', g1, g2, g3⟩ := h'.next (n := n)
    refine ⟨μ', ?_, g2.frP, g2 _ _ (by omega), by rw [if_pos h59]; exact ⟨g3.2.2.2.1, g3.2.2.2.2.2.2.1, g3.2.2.2.2.2.2.2⟩⟩
    simp only [b_X12_line_65, b_X12_line_85, mI17 hS, some_bind, h17, m1lt, if_true, mI15 hS, ht.2.2.1, h59, rck hS, g1]
  · obtain ⟨μ', g1, g2, g3, g4, g5⟩ := h'.wrong (n := n)
    refine ⟨μ', ?_, g2, g3, by rw [if_neg h59]; exact ⟨g4, g5⟩⟩
    have : ¬ nI (tB T N p) < (0 : Int32) := nlt0 (by omega)
    simp only [b_X12_line_65, b_X12_line_85, mI17 hS, some_bind, h17, m1lt, if_true, mI15 hS, ht.2.2.1, h59, if_false, rck hS, g1, g4, this]
theorem r_line65f (hS : ShM S m) {e : Nat} (he : e < 2 ^ 31) (h17 : μ m 17 = nI e) : b_X12_line_65 (some m) (mkH n st S μ) = some (mkH n st S μ) := by
  have : ¬ nI e < (0 : Int32) := nlt0 he
  simp only [b_X12_line_65, b_X12_line_85, mI17 hS, some_bind, h17, this, if_false]
theorem r_line {l : Nat} (hl : l < 5) {p : Nat} (h : RdS st S x b m T N F 0 p μ) : ∃ μ', f_X12_line (some m) (nI l) (mkH n st S μ) = some (mkH n st S μ') ∧ FrQ m μ μ' ∧ μ' m 18 = μ m 18 ∧ (∀ j, ¬ j = l → μ' (m + 9) j = μ (m + 9) j) ∧ (∀ j, μ' (m + 8) j = μ (m + 8) j) ∧ (match linS T N F l p with
    | .inl e => μ' m 17 = nI e ∧ e ≤ N
    | .inr q => μ' (m + 9) l = q.1 ∧ μ' m 17 = -1 ∧ Tok μ' m T N q.2 ∧ q.2 ≤ N) := by
  have h' := h
  obtain ⟨⟨hS, hm⟩, hB, hT, h17, h18, hF, ht, hp⟩ := h
  have hN := hT.2.1
  unfold linS
  by_cases hl4 : l < 4
  · rw [if_pos hl4]
    obtain ⟨v, μ1, r1, ⟨r2, r3, r4⟩, a, ra⟩ := r_cond (n := n) hl4 hN 5 0 10 (by omega) (by omega) μ p h'
    subst ra
    have hx : f_X12_line (some m) (nI l) (mkH n st S μ) = b_X12_line_65 (some m) (mkH n st S (up2 μ1 (m + 9) l (bI a))) := by
      cases a
      · simp (disch := omega) only [f_X12_line, lit_lt, natT, if_true, mR10 hS, some_bind, rck hS, r1, b_X12_line_23, mS10 hS, bI, Bool.false_eq_true, if_false]
      · have : ¬ bI true = 0 := by decide
        simp (disch := omega) only [f_X12_line, lit_lt, natT, if_true, mR10 hS, some_bind, rck hS, r1, b_X12_line_23, mS10 hS, this, if_false]
        rfl
    have hFu : FrQ m μ1 (up2 μ1 (m + 9) l (bI a)) := fun i j _ _ q => up2_ne (by omega)
    have hfr := r2.frQ.trans hFu
    have e9 : ∀ j, ¬ j = l → up2 μ1 (m + 9) l (bI a) (m + 9) j = μ (m + 9) j := fun j hj => by rw [up2_ne (by omega), r2 _ _ (by omega)]
    have e8 : ∀ j, up2 μ1 (m + 9) l (bI a) (m + 8) j = μ (m + 8) j := fun j => by rw [up2_ne (by omega), r2 _ _ (by omega)]
    rw [hx]
    cases hce : conS T N F (nI l) 5 p with
    | inl e =>
      rw [hce] at r4
      simp only []
      exact ⟨up2 μ1 (m + 9) l (bI a), r_line65f hS (show e < 2 ^ 31 by have := r4.2; omega) (by rw [up2_ne (by omega)]; exact r4.1), hfr, by rw [up2_ne (by omega)]; exact r3, e9, e8, by rw [up2_ne (by omega)]; exact r4.1, r4.2⟩
    | inr q =>
      rw [hce] at r4
      obtain ⟨r4, r5, r6, r7⟩ := r4
      have g1 : RdS st S x b m T N F 0 q.2 (up2 μ1 (m + 9) l (bI a)) := h'.goQ hfr (by rw [up2_ne (by omega)]; exact r5) (by rw [up2_ne (by omega), r3]; exact h18) ⟨by rw [up2_ne (by omega)]; exact r6.1, by rw [up2_ne (by omega)]; exact r6.2.1, by rw [up2_ne (by omega)]; exact r6.2.2.1, fun z => by rw [up2_ne (by omega)]; exact r6.2.2.2 z⟩ r7
      obtain ⟨μ2, s1, s2, s3, s4⟩ := r_line65 (n := n) g1
      have e18 : μ2 m 18 = μ m 18 := by rw [s3, up2_ne (by omega), r3]
      have e9' : ∀ j, ¬ j = l → μ2 (m + 9) j = μ (m + 9) j := fun j hj => by rw [s2 _ _ (by omega)]; exact e9 j hj
      have e8' : ∀ j, μ2 (m + 8) j = μ (m + 8) j := fun j => by rw [s2 _ _ (by omega)]; exact e8 j
      refine ⟨μ2, s1, hfr.trans s2.frQ, e18, e9', e8', ?_⟩
      simp only []
      by_cases h59 : tK T N q.2 = 59
      · rw [if_pos h59] at s4 ⊢
        refine ⟨?_, s4⟩
        rw [s2 _ _ (by omega), up2_same]; exact r4
      · rw [if_neg h59] at s4 ⊢
        exact s4
  · have hl5 : l = 4 := by omega
    subst hl5
    rw [if_neg (by omega)]
    by_cases h3 : tK T N p ≠ 3 ∨ 50 < tV T N p
    · rw [if_pos h3]
      simp only []
      obtain ⟨μ', g1, g2, g3, g4, g5⟩ := h'.wrong (n := n)
      refine ⟨μ', ?_, g2.frQ, g3, fun j _ => g2 _ _ (by omega), fun j => g2 _ _ (by omega), g4, g5⟩
      have r65 := r_line65f (n := n) (st := st) hS (show tB T N p < 2 ^ 31 by omega) g4
      have n44 : ¬ nI 4 < (4 : Int32) := by decide
      by_cases h33 : tK T N p = 3
      · have h50 : 50 < tV T N p := by
          rcases h3 with h | h
          · exact absurd h33 h
          · exact h
        simp only [f_X12_line, n44, if_false, mI15 hS, some_bind, ht.2.2.1, h33, if_true, mI16 hS, ht.2.2.2 (Or.inr h33), h50, b_X12_line_44, rck hS, g1, r65]
      · simp only [f_X12_line, n44, if_false, mI15 hS, some_bind, ht.2.2.1, h33, b_X12_line_44, rck hS, g1, r65]
    · rw [if_neg h3]
      simp only []
      have h33 : tK T N p = 3 := by
        rcases Decidable.em (tK T N p = 3) with q | q
        · exact q
        · exact absurd (Or.inl q) h3
      have h50 : ¬ 50 < tV T N p := fun q => h3 (Or.inr q)
      have hFu : FrQ m μ (up2 μ (m + 9) 4 (tV T N p)) := fun i j _ _ q => up2_ne (by omega)
      have g1 : RdS st S x b m T N F 0 p (up2 μ (m + 9) 4 (tV T N p)) := h'.goQ hFu (by rw [up2_ne (by omega)]; exact h17) (by rw [up2_ne (by omega)]; exact h18) ⟨by rw [up2_ne (by omega)]; exact ht.1, by rw [up2_ne (by omega)]; exact ht.2.1, by rw [up2_ne (by omega)]; exact ht.2.2.1, fun z => by rw [up2_ne (by omega)]; exact ht.2.2.2 z⟩ hp
      obtain ⟨μ1, u1, u2, u3⟩ := g1.next (n := n)
      obtain ⟨μ2, s1, s2, s3, s4⟩ := r_line65 (n := n) u3
      have e18 : μ2 m 18 = μ m 18 := by rw [s3, u2 _ _ (by omega), up2_ne (by omega)]
      refine ⟨μ2, ?_, (hFu.trans u2.frP.frQ).trans s2.frQ, e18, fun j hj => by rw [s2 _ _ (by omega), u2 _ _ (by omega), up2_ne (by omega)], fun j => by rw [s2 _ _ (by omega), u2 _ _ (by omega), up2_ne (by omega)], ?_⟩
      · have n44 : ¬ nI 4 < (4 : Int32) := by decide
        have a4 := mS10 (n := n) (st := st) (μ := μ) (v := tV T N p) hS (q := 4) (by omega)
        simp only [f_X12_line, n44, if_false, mI15 hS, some_bind, ht.2.2.1, h33, if_true, mI16 hS, ht.2.2.2 (Or.inr h33), h50, mR10 hS, a4, rck hS, u1, s1]
      · by_cases h59 : tK T N (tA T N p) = 59
        · rw [if_pos h59] at s4 ⊢
          refine ⟨?_, s4⟩
          rw [s2 _ _ (by omega), u2 _ _ (by omega), up2_same]
        · rw [if_neg h59] at s4 ⊢
          exact s4
/-- what the lines told so far -/
def RelZ (μ : MU) (m : Nat) (z : Nat → Option Int32) : Prop := (∀ i, i < 5 → μ (m + 8) i = bI (z i).isSome) ∧ ∀ i v, i < 5 → z i = some v → μ (m + 9) i = v
theorem linS_fwd {l p : Nat} (hN : N ≤ 300) (hp : p ≤ N) {q : Int32 × Nat} (h : linS T N F l p = .inr q) : p < q.2 := by
  by_cases hl : l < 4
  · have := linM (T := T) (N := N) (F := F) hl hN [] hp
    rw [h] at this
    obtain ⟨c, bb, t1, t2, t3, t4, t5⟩ := this
    exact t5
  · unfold linS at h
    rw [if_neg hl] at h
    by_cases h3 : tK T N p ≠ 3 ∨ 50 < tV T N p
    · rw [if_pos h3] at h; cases h
    · rw [if_neg h3] at h
      simp only [] at h
      have h33 : tK T N p = 3 := by
        rcases Decidable.em (tK T N p = 3) with q | q
        · exact q
        · exact absurd (Or.inl q) h3
      have hp1 := tok_pos (T := T) hp
      have := hp1.2.2.2 (by rw [h33]; decide)
      have hp2 := tok_pos (T := T) hp1.2.2.1
      split at h
      · have e := Sum.inr.inj h
        rw [← e]
        show p < tA T N (tA T N p)
        omega
      · cases h
theorem r_readsL : ∀ k f fu ls (z : Nat → Option Int32) p (μ : MU), RdS st S x b m T N F 0 p μ → RelZ μ m z → N - p ≤ k → k < f → k < fu → ∃ v μ', b_X12_reads_54 fu (some m) (nI ls) (mkH n st S μ) = some (v, mkH n st S μ') ∧ FrQ m μ μ' ∧ (match reaL T N F f ls z p with
    | .inl e => μ' m 17 = nI e ∧ e ≤ N
    | .inr q => v = nI q.1 ∧ μ' m 17 = -1 ∧ RelZ μ' m q.2) := by
  intro k
  induction k with
  | zero =>
    intro f fu ls z p μ h hz hk hf hfu
    obtain ⟨fu, rfl⟩ : ∃ q, fu = q + 1 := ⟨fu - 1, by omega⟩
    obtain ⟨f, rfl⟩ : ∃ q, f = q + 1 := ⟨f - 1, by omega⟩
    obtain ⟨⟨hS, hm⟩, hB, hT, h17, h18, hF, ht, hp⟩ := h
    have h0 : tK T N p = 0 := by
      rcases Decidable.em (tK T N p = 0) with q | q
      · exact q
      · have hlt := (tok_pos (T := T) hp).2.2.2 q
        have hle := (tok_pos (T := T) hp).2.2.1
        omega
    rw [reaL, if_pos h0]
    refine ⟨nI ls, μ, ?_, fun _ _ _ _ _ => rfl, rfl, h17, hz⟩
    simp only [b_X12_reads_54, mI17 hS, some_bind, h17, m1lt, if_true, mI15 hS, ht.2.2.1, h0]
  | succ k ih =>
    intro f fu ls z p μ h hz hk hf hfu
    obtain ⟨fu, rfl⟩ : ∃ q, fu = q + 1 := ⟨fu - 1, by omega⟩
    obtain ⟨f, rfl⟩ : ∃ q, f = q + 1 := ⟨f - 1, by omega⟩
    have h' := h
    obtain ⟨⟨hS, hm⟩, hB, hT, h17, h18, hF, ht, hp⟩ := h
    have hN := hT.2.1
    have hpp := tok_pos (T := T) hp
    rw [reaL]
    by_cases h0 : tK T N p = 0
    · rw [if_pos h0]
      refine ⟨nI ls, μ, ?_, fun _ _ _ _ _ => rfl, rfl, h17, hz⟩
      simp only [b_X12_reads_54, mI17 hS, some_bind, h17, m1lt, if_true, mI15 hS, ht.2.2.1, h0]
    · rw [if_neg h0]
      have hlt := hpp.2.2.2 h0
      have hwr : ∃ v μ', (b_X12_reads_96 (b_X12_reads_54 fu) (some m) (nI ls) (mkH n st S μ) = some (v, mkH n st S μ')) ∧ FrQ m μ μ' ∧ μ' m 17 = nI (tB T N p) ∧ tB T N p ≤ N := by
        obtain ⟨μ', g1, g2, g3, g4, g5⟩ := h'.wrong (n := n)
        refine ⟨nI ls, μ', ?_, g2.frQ, g4, g5⟩
        obtain ⟨fu, rfl⟩ : ∃ q, fu = q + 1 := ⟨fu - 1, by omega⟩
        have : ¬ nI (tB T N p) < (0 : Int32) := nlt0 (by omega)
        simp only [b_X12_reads_96, rck hS, g1, some_bind, b_X12_reads_54, mI17 hS, g4, this, if_false]
      by_cases h2 : tK T N p = 2
      · obtain ⟨w, hw, ew⟩ := tV_word h2
        have cl : (tV T N p).toNatClampNeg = w := by rw [ew, nI_clamp (by omega)]
        have t16 : μ m 16 = nI w := by rw [ht.2.2.2 (Or.inl h2), ew]
        by_cases h4 : 4 < w
        · have : tK T N p ≠ 2 ∨ 4 < tV T N p ∨ (z (tV T N p).toNatClampNeg).isSome = true := Or.inr (Or.inl (by rw [ew, lit_gt (by omega) (by decide)]; exact h4))
          rw [if_pos this]
          obtain ⟨v, μ', r1, r2⟩ := hwr
          refine ⟨v, μ', ?_, r2⟩
          rw [← r1]
          simp (disch := omega) only [b_X12_reads_54, mI17 hS, some_bind, h17, m1lt, if_true, mI15 hS, ht.2.2.1, h2, mI16 hS, t16, lit_gt, natT]
          rw [if_neg (by decide)]
        · have z8 := hz.1 w (by omega)
          have n20 : ¬ (2 : Int32) = 0 := by decide
          cases hzs : (z w).isSome with
          | true =>
            have : tK T N p ≠ 2 ∨ 4 < tV T N p ∨ (z (tV T N p).toNatClampNeg).isSome = true := Or.inr (Or.inr (by rw [cl]; exact hzs))
            rw [if_pos this]
            obtain ⟨v, μ', r1, r2⟩ := hwr
            refine ⟨v, μ', ?_, r2⟩
            rw [← r1]
            rw [hzs] at z8
            simp (disch := omega) only [b_X12_reads_54, mI17 hS, some_bind, h17, m1lt, if_true, mI15 hS, ht.2.2.1, h2, n20, if_false, mI16 hS, t16, lit_gt, natF, mR9 hS, mA9 hS, z8, ite_bI0]
          | false =>
            have : ¬ (tK T N p ≠ 2 ∨ 4 < tV T N p ∨ (z (tV T N p).toNatClampNeg).isSome = true) := by
              intro q
              rcases q with q | q | q
              · exact q h2
              · rw [ew, lit_gt (by omega) (by decide)] at q; exact h4 q
              · rw [cl, hzs] at q; cases q
            rw [if_neg this, cl]
            obtain ⟨μ1, g1, g2, g3⟩ := h'.next (n := n)
            obtain ⟨μ2, r1, r2, r3, r4, r5, r6⟩ := r_line (n := n) (show w < 5 by omega) g3
            rw [hzs] at z8
            have hFu : FrQ m μ2 (up2 μ2 (m + 8) w 1) := fun i j _ q _ => up2_ne (by omega)
            have hfr := (g2.frP.frQ.trans r2).trans hFu
            have hx : b_X12_reads_54 (fu + 1) (some m) (nI ls) (mkH n st S μ) = b_X12_reads_54 fu (some m) (nI (ls + 1)) (mkH n st S (up2 μ2 (m + 8) w 1)) := by
              have s9 := mS9 (n := n) (st := st) (μ := μ2) (v := 1) hS (q := w) (by omega)
              rw [show (1 : Int32) &&& 1 = 1 from by decide] at s9
              simp (disch := omega) only [b_X12_reads_54, mI17 hS, some_bind, h17, m1lt, if_true, mI15 hS, ht.2.2.1, h2, n20, if_false, mI16 hS, t16, lit_gt, natF, mR9 hS, mA9 hS, z8, ite_bI0, Bool.false_eq_true, rck hS, g1, r1, s9, nI_1]
            rw [hx]
            cases hle : linS T N F w (tA T N p) with
            | inl e =>
              rw [hle] at r6
              obtain ⟨fu, rfl⟩ : ∃ q, fu = q + 1 := ⟨fu - 1, by omega⟩
              refine ⟨nI (ls + 1), up2 μ2 (m + 8) w 1, ?_, hfr, by rw [up2_ne (by omega)]; exact r6.1, r6.2⟩
              have : ¬ nI e < (0 : Int32) := nlt0 (by have := r6.2; omega)
              have e17 : up2 μ2 (m + 8) w 1 m 17 = nI e := by rw [up2_ne (by omega)]; exact r6.1
              simp only [b_X12_reads_54, mI17 hS, some_bind, e17, this, if_false]
            | inr q =>
              rw [hle] at r6
              obtain ⟨r6, r7, r8, r9⟩ := r6
              have hq := linS_fwd hN hpp.2.2.1 hle
              have g4 : RdS st S x b m T N F 0 q.2 (up2 μ2 (m + 8) w 1) := h'.goQ hfr (by rw [up2_ne (by omega)]; exact r7) (by rw [up2_ne (by omega), r3, g2 _ _ (by omega)]; exact h18) ⟨by rw [up2_ne (by omega)]; exact r8.1, by rw [up2_ne (by omega)]; exact r8.2.1, by rw [up2_ne (by omega)]; exact r8.2.2.1, fun y => by rw [up2_ne (by omega)]; exact r8.2.2.2 y⟩ r9
              have hz' : RelZ (up2 μ2 (m + 8) w 1) m (fun i => if i = w then some q.1 else z i) := by
                refine ⟨?_, ?_⟩
                · intro i hi
                  by_cases hiw : i = w
                  · subst hiw; rw [up2_same]; simp only [if_true]; rfl
                  · rw [up2_ne (by omega), r5, g2 _ _ (by omega), hz.1 i hi]
                    simp only [hiw, if_false]
                · intro i v hi hv
                  rw [up2_ne (by omega)]
                  by_cases hiw : i = w
                  · subst hiw
                    simp only [if_true] at hv
                    rw [r6]; exact Option.some.inj hv
                  · simp only [hiw, if_false] at hv
                    rw [r4 i hiw, g2 _ _ (by omega)]
                    exact hz.2 i v hi hv
              obtain ⟨v, μ', s1, s2, s3⟩ := ih f fu (ls + 1) _ q.2 _ g4 hz' (by omega) (by omega) (by omega)
              exact ⟨v, μ', s1, hfr.trans s2, s3⟩
      · have : tK T N p ≠ 2 ∨ 4 < tV T N p ∨ (z (tV T N p).toNatClampNeg).isSome = true := Or.inl h2
        rw [if_pos this]
        obtain ⟨v, μ', r1, r2⟩ := hwr
        refine ⟨v, μ', ?_, r2⟩
        rw [← r1]
        simp only [b_X12_reads_54, mI17 hS, some_bind, h17, m1lt, if_true, mI15 hS, ht.2.2.1, h0, h2, if_false]
end RREADS
