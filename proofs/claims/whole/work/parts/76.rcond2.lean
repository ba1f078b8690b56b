section RCOND2
variable {n : Nat} {st : Nat → Nat} {S : SH} {μ : MU} {x b m : Nat} {T : Nat → Int32} {N : Nat} {F : Nat → Int32}
theorem r_261 (kr : Option Nat → Int32 → AH → Option (Int32 × AH)) (a t : Bool) (h : AH) : b_X12_single_261 kr (bI t) (bI a) h = some (bI (a != t), h) := by
  cases a <;> cases t <;> rfl
/-- a comparison, and what turns it -/
theorem r_cmp (kr : Option Nat → Int32 → AH → Option (Int32 × AH)) {l : Nat} (hl : l < 4) {o p : Nat} (t : Bool) (h : RdS st S x b m T N F o p μ) : ∃ v μ', b_X12_single_132 kr (some m) (nI l) (bI t) (mkH n st S μ) = some (v, mkH n st S μ') ∧ (∃ q, v = bI q) ∧ Ou m T N bI μ μ' v (match cmpS T N F (nI l) p with
    | .inl e => .inl e
    | .inr q => .inr (q.1 != t, q.2)) := by
  have h' := h
  obtain ⟨⟨hS, hm⟩, hB, hT, h17, h18, hF, ht, hp⟩ := h
  have hN := hT.2.1
  obtain ⟨w, μ1, r1, r2, r3, r4⟩ := r_sum (n := n) hl h'
  unfold cmpS
  have r250 : ∀ (w : Int32) (h : AH), b_X12_single_250 kr (bI t) w h = some (bI (decide (w ≠ 0) != t), h) := by
    intro w h
    unfold b_X12_single_250
    by_cases hw : w = 0
    · rw [if_pos hw]
      have := r_261 kr false t h
      rw [show bI false = (0 : Int32) from rfl] at this
      rw [this]; simp [hw]
    · rw [if_neg hw]
      have := r_261 kr true t h
      rw [show bI true = (1 : Int32) from rfl] at this
      rw [this]; simp [hw]
  cases hs1 : sumS T N F (nI l) p with
  | inl e =>
    rw [hs1] at r4
    obtain ⟨r4, r5⟩ := r4
    have : ¬ nI e < (0 : Int32) := nlt0 (by omega)
    refine ⟨bI (decide (w ≠ 0) != t), μ1, ?_, ⟨_, rfl⟩, r2, r3, r4, r5⟩
    · simp only [b_X12_single_132, rck hS, r1, some_bind, mI17 hS, r4, this, if_false, r250]
  | inr q =>
    rw [hs1] at r4
    obtain ⟨r4, r5, r6, r7⟩ := r4
    have r4' : w = q.1 := r4
    subst r4'
    have g1 := h'.go r2 r5 (r3.trans h18) r6 r7
    simp only []
    by_cases h60 : tK T N q.2 = 60 ∨ tK T N q.2 = 61 ∨ tK T N q.2 = 62
    · rw [if_pos h60]
      have hx : b_X12_single_132 kr (some m) (nI l) (bI t) (mkH n st S μ) = b_X12_single_173 kr (some m) (nI l) (bI t) q.1 (mkH n st S μ1) := by
        rcases h60 with h | h | h
        · simp only [b_X12_single_132, rck hS, r1, some_bind, mI17 hS, r5, m1lt, if_true, mI15 hS, r6.2.2.1, h]
        · have n1 : ¬ (61 : Int32) = 60 := by decide
          simp only [b_X12_single_132, rck hS, r1, some_bind, mI17 hS, r5, m1lt, if_true, mI15 hS, r6.2.2.1, h, n1, if_false]
        · have n1 : ¬ (62 : Int32) = 60 := by decide
          have n2 : ¬ (62 : Int32) = 61 := by decide
          simp only [b_X12_single_132, rck hS, r1, some_bind, mI17 hS, r5, m1lt, if_true, mI15 hS, r6.2.2.1, h, n1, n2, if_false]
      obtain ⟨μ2, s1, s2, s3⟩ := g1.next (n := n)
      obtain ⟨z, μ3, u1, u2, u3, u4⟩ := r_sum (n := n) hl s3
      have hfr := (r2.trans s2.frP).trans u2
      have h18' : μ3 m 18 = μ m 18 := by rw [u3, s2 _ _ (by omega), r3]
      have e1 := fun h => r_261 kr true t h
      have e0 := fun h => r_261 kr false t h
      rw [show bI true = (1 : Int32) from rfl] at e1
      rw [show bI false = (0 : Int32) from rfl] at e0
      have hy : b_X12_single_173 kr (some m) (nI l) (bI t) q.1 (mkH n st S μ1) = some (bI ((if tK T N q.2 = 60 then decide (q.1 < z) else if tK T N q.2 = 61 then decide (q.1 = z) else decide (z < q.1)) != t), mkH n st S μ3) := by
        simp only [b_X12_single_173, mI15 hS, some_bind, r6.2.2.1, rck hS, s1, u1]
        by_cases h1 : tK T N q.2 = 60
        · rw [if_pos h1, if_pos h1]
          by_cases hh : q.1 < z
          · rw [if_pos hh, e1]; simp [hh]
          · rw [if_neg hh, e0]; simp [hh]
        · rw [if_neg h1, if_neg h1]
          by_cases h2 : tK T N q.2 = 61
          · rw [if_pos h2, if_pos h2]
            by_cases hh : q.1 = z
            · rw [if_pos hh, e1]; simp [hh]
            · rw [if_neg hh, e0]; simp [hh]
          · rw [if_neg h2, if_neg h2]
            by_cases hh : z < q.1
            · rw [if_pos hh, e1]; simp [hh]
            · rw [if_neg hh, e0]; simp [hh]
      rw [hx, hy]
      cases hs2 : sumS T N F (nI l) (tA T N q.2) with
      | inl e =>
        rw [hs2] at u4
        exact ⟨_, μ3, rfl, ⟨_, rfl⟩, hfr, h18', u4⟩
      | inr y =>
        rw [hs2] at u4
        obtain ⟨u4, u5, u6, u7⟩ := u4
        have u4' : z = y.1 := u4
        rw [u4']
        exact ⟨_, μ3, rfl, ⟨_, rfl⟩, hfr, h18', rfl, u5, u6, u7⟩
    · rw [if_neg h60]
      have n60 : ¬ tK T N q.2 = 60 := fun h => h60 (Or.inl h)
      have n61 : ¬ tK T N q.2 = 61 := fun h => h60 (Or.inr (Or.inl h))
      have n62 : ¬ tK T N q.2 = 62 := fun h => h60 (Or.inr (Or.inr h))
      refine ⟨_, μ1, ?_, ⟨_, rfl⟩, r2, r3, rfl, r5, r6, r7⟩
      simp only [b_X12_single_132, rck hS, r1, some_bind, mI17 hS, r5, m1lt, if_true, mI15 hS, r6.2.2.1, n60, n61, n62, if_false, r250]
/-- what a word is -/
theorem RdS.isWord {o p : Nat} (h : RdS st S x b m T N F o p μ) (w : Int32) : f_X12_isWord (some m) w (mkH n st S μ) = some (bI (isW T N p w)) := by
  obtain ⟨⟨hS, hm⟩, hB, hT, h17, h18, hF, ht, hp⟩ := h
  unfold isW
  by_cases h2 : tK T N p = 2
  · by_cases hv : tV T N p = w
    · simp only [f_X12_isWord, mI17 hS, some_bind, h17, m1lt, if_true, mI15 hS, ht.2.2.1, h2, mI16 hS, ht.2.2.2 (Or.inl h2), hv, and_self, decide_true]; rfl
    · simp only [f_X12_isWord, mI17 hS, some_bind, h17, m1lt, if_true, mI15 hS, ht.2.2.1, h2, mI16 hS, ht.2.2.2 (Or.inl h2), hv, if_false, and_false, decide_false]; rfl
  · simp only [f_X12_isWord, mI17 hS, some_bind, h17, m1lt, if_true, mI15 hS, ht.2.2.1, h2, if_false, false_and, decide_false]; rfl
theorem r_noWord (hS : ShM S m) {e : Nat} (he : e < 2 ^ 31) (h17 : μ m 17 = nI e) (w : Int32) : f_X12_isWord (some m) w (mkH n st S μ) = some 0 := by
  have : ¬ nI e < (0 : Int32) := nlt0 he
  simp only [f_X12_isWord, mI17 hS, some_bind, h17, this, if_false]
/-- what stands inside brackets, at the reference -/
def InK (n : Nat) (st : Nat → Nat) (S : SH) (x b m : Nat) (T : Nat → Int32) (N : Nat) (F : Nat → Int32) (kr : Option Nat → Int32 → AH → Option (Int32 × AH)) (line : Int32) (o : Nat) (inner : Option (Nat → Nat ⊕ (Bool × Nat))) : Prop := match inner with
  | none => o = 5
  | some g => o < 5 ∧ ∀ (μ : MU) (p : Nat), RdS st S x b m T N F (o + 1) p μ → ∃ v μ', kr (some m) line (mkH n st S μ) = some (v, mkH n st S μ') ∧ Ou m T N bI μ μ' v (g p) ∧ ∃ q, v = bI q
theorem r_111 (kr : Option Nat → Int32 → AH → Option (Int32 × AH)) (hS : ShM S m) (a t : Bool) {o : Nat} (h18 : μ m 18 = nI (o + 1)) : b_X12_single_111 kr (some m) (bI t) (bI a) (mkH n st S μ) = some (bI (a != t), mkH n st S (up2 μ m 18 (nI o))) := by
  simp only [b_X12_single_111, mI18 hS, some_bind, h18, nI_m1, mP18 hS]
  cases a <;> cases t <;> rfl
def sngT (T : Nat → Int32) (N : Nat) (F : Nat → Int32) (line : Int32) (inner : Option (Nat → Nat ⊕ (Bool × Nat))) (t : Bool) (p : Nat) : Nat ⊕ (Bool × Nat) :=
  if tK T N p = 40 then match inner with
    | none => .inl (tB T N p)
    | some g => match g (tA T N p) with
      | .inl e => .inl e
      | .inr q => if tK T N q.2 = 41 then .inr (q.1 != t, tA T N q.2) else .inl (tB T N q.2)
  else match cmpS T N F line p with
    | .inl e => .inl e
    | .inr q => .inr (q.1 != t, q.2)
theorem r_sng {kr : Option Nat → Int32 → AH → Option (Int32 × AH)} {l : Nat} (hl : l < 4) {o : Nat} {inner : Option (Nat → Nat ⊕ (Bool × Nat))} (hin : InK n st S x b m T N F kr (nI l) o inner) : ∀ k f fu (t : Bool) (p : Nat) (μ : MU), RdS st S x b m T N F o p μ → N - p ≤ k → k < f → k < fu → ∃ v μ', b_X12_single_2 kr fu (some m) (nI l) (bI t) (mkH n st S μ) = some (v, mkH n st S μ') ∧ (∃ q, v = bI q) ∧ Ou m T N bI μ μ' v (sngT T N F (nI l) inner (notL T N f t p).1 (notL T N f t p).2) := by
  intro k
  have hbase : ∀ fu (t : Bool) (p : Nat) (μ : MU), RdS st S x b m T N F o p μ → isW T N p 7 = false → ∃ v μ', b_X12_single_2 kr (fu + 1) (some m) (nI l) (bI t) (mkH n st S μ) = some (v, mkH n st S μ') ∧ (∃ q, v = bI q) ∧ Ou m T N bI μ μ' v (sngT T N F (nI l) inner t p) := by
    intro fu t p μ h h7
    have h' := h
    have hw := h.isWord (n := n) 7
    rw [h7] at hw
    obtain ⟨⟨hS, hm⟩, hB, hT, h17, h18, hF, ht, hp⟩ := h
    have hN := hT.2.1
    unfold sngT
    by_cases h40 : tK T N p = 40
    · rw [if_pos h40]
      cases inner with
      | none =>
        have ho : o = 5 := hin
        subst ho
        obtain ⟨μ', g1, g2, g3, g4, g5⟩ := h'.wrong (n := n)
        refine ⟨0, μ', ?_, ⟨false, rfl⟩, g2, g3, g4, g5⟩
        have e5 : nI 5 = (5 : Int32) := rfl
        simp only [b_X12_single_2, rck hS, hw, some_bind, ite_bI0, Bool.false_eq_true, if_false, mI17 hS, h17, m1lt, if_true, mI15 hS, ht.2.2.1, h40, mI18 hS, h18, e5, g1]
      | some g =>
        obtain ⟨ho, hg⟩ := hin
        show ∃ v μ', _ ∧ _ ∧ Ou m T N bI μ μ' v (match g (tA T N p) with
          | .inl e => .inl e
          | .inr q => if tK T N q.2 = 41 then .inr (q.1 != t, tA T N q.2) else .inl (tB T N q.2))
        have hF1 : FrP m μ (up2 μ m 18 (nI (o + 1))) := fun a j q => up2_ne (by omega)
        have hR1 : RdS st S x b m T N F (o + 1) p (up2 μ m 18 (nI (o + 1))) := h'.go hF1 (by rw [up2_ne (by omega)]; exact h17) up2_same ⟨by rw [up2_ne (by omega)]; exact ht.1, by rw [up2_ne (by omega)]; exact ht.2.1, by rw [up2_ne (by omega)]; exact ht.2.2.1, fun q => by rw [up2_ne (by omega)]; exact ht.2.2.2 q⟩ hp
        obtain ⟨μ2, s1, s2, s3⟩ := hR1.next (n := n)
        obtain ⟨v, μ3, u1, ⟨u2, u3, u4⟩, a, u5⟩ := hg μ2 (tA T N p) s3
        subst u5
        have hfr := (hF1.trans s2.frP).trans u2
        have h183 : μ3 m 18 = nI (o + 1) := u3.trans s3.2.2.2.2.1
        have no5 : ¬ nI o = (5 : Int32) := fun h => by have := (nI_eq (a := o) (b := 5) (by omega) (by omega)).mp h; omega
        have hx : b_X12_single_2 kr (fu + 1) (some m) (nI l) (bI t) (mkH n st S μ) = (gI 12 17 (mkH n st S μ3) (some m)).bind fun v10 => if v10 < 0 then (gI 12 15 (mkH n st S μ3) (some m)).bind fun v11 => if v11 = 41 then b_X12_single_100 kr (some m) (bI t) (bI a) (mkH n st S μ3) else (ck 12 (mkH n st S μ3) (some m) (f_X12_wrong (some m) (mkH n st S μ3))).bind fun h12 => b_X12_single_100 kr (some m) (bI t) (bI a) h12 else b_X12_single_100 kr (some m) (bI t) (bI a) (mkH n st S μ3) := by
          simp only [b_X12_single_2, rck hS, hw, some_bind, ite_bI0, Bool.false_eq_true, if_false, mI17 hS, h17, m1lt, if_true, mI15 hS, ht.2.2.1, h40, mI18 hS, h18, no5, nI_1, mP18 hS, s1, u1]
        rw [hx]
        have hflt : ∀ (e : Nat) (μ4 : MU), e < 2 ^ 31 → μ4 m 17 = nI e → μ4 m 18 = nI (o + 1) → b_X12_single_100 kr (some m) (bI t) (bI a) (mkH n st S μ4) = some (bI (a != t), mkH n st S (up2 μ4 m 18 (nI o))) := by
          intro e μ4 he h17' h18'
          have : ¬ nI e < (0 : Int32) := nlt0 he
          simp only [b_X12_single_100, mI17 hS, some_bind, h17', this, if_false]
          exact r_111 kr hS a t h18'
        cases hge : g (tA T N p) with
        | inl e =>
          rw [hge] at u4
          obtain ⟨u4, u6⟩ := u4
          have ne : ¬ nI e < (0 : Int32) := nlt0 (by omega)
          refine ⟨bI (a != t), up2 μ3 m 18 (nI o), ?_, ⟨_, rfl⟩, fun i j q => by rw [up2_ne (by omega)]; exact hfr i j q, by rw [up2_same, h18], by rw [up2_ne (by omega)]; exact u4, u6⟩
          simp only [mI17 hS, some_bind, u4, ne, if_false]
          exact hflt e μ3 (by omega) u4 h183
        | inr q =>
          rw [hge] at u4
          obtain ⟨u4, u6, u7, u8⟩ := u4
          have u4' : a = q.1 := by
            have : bI a = bI q.1 := u4
            revert this
            cases a <;> cases q.1 <;> decide
          have hR3 := s3.go u2 u6 h183 u7 u8
          simp only []
          by_cases h41 : tK T N q.2 = 41
          · rw [if_pos h41]
            obtain ⟨μ5, w1, w2, w3⟩ := hR3.next (n := n)
            refine ⟨bI (a != t), up2 μ5 m 18 (nI o), ?_, ⟨_, rfl⟩, fun i j z => by rw [up2_ne (by omega), w2 _ _ (by omega)]; exact hfr i j z, by rw [up2_same, h18], by rw [u4'], ?_, ?_, w3.2.2.2.2.2.2.2⟩
            · have w17 : μ5 m 17 = -1 := w3.2.2.2.1
              simp only [mI17 hS, some_bind, u6, m1lt, if_true, mI15 hS, u7.2.2.1, h41, b_X12_single_100, rck hS, w1]
              exact r_111 kr hS a t w3.2.2.2.2.1
            · rw [up2_ne (by omega)]; exact w3.2.2.2.1
            · have t5 := w3.2.2.2.2.2.2.1
              exact ⟨by rw [up2_ne (by omega)]; exact t5.1, by rw [up2_ne (by omega)]; exact t5.2.1, by rw [up2_ne (by omega)]; exact t5.2.2.1, fun z => by rw [up2_ne (by omega)]; exact t5.2.2.2 z⟩
          · rw [if_neg h41]
            obtain ⟨μ5, w1, w2, w3, w4, w5⟩ := hR3.wrong (n := n)
            refine ⟨bI (a != t), up2 μ5 m 18 (nI o), ?_, ⟨_, rfl⟩, fun i j z => by rw [up2_ne (by omega), w2 _ _ z]; exact hfr i j z, by rw [up2_same, h18], by rw [up2_ne (by omega)]; exact w4, w5⟩
            simp only [mI17 hS, some_bind, u6, m1lt, if_true, mI15 hS, u7.2.2.1, h41, if_false, rck hS, w1]
            exact hflt (tB T N q.2) μ5 (by omega) w4 (w3.trans h183)
    · rw [if_neg h40]
      obtain ⟨v, μ', c1, c3, c2⟩ := r_cmp (n := n) kr hl t h'
      have hx : b_X12_single_2 kr (fu + 1) (some m) (nI l) (bI t) (mkH n st S μ) = b_X12_single_132 kr (some m) (nI l) (bI t) (mkH n st S μ) := by
        simp only [b_X12_single_2, rck hS, hw, some_bind, ite_bI0, Bool.false_eq_true, if_false, mI17 hS, h17, m1lt, if_true, mI15 hS, ht.2.2.1, h40]
      exact ⟨v, μ', hx.trans c1, c3, c2⟩
  induction k with
  | zero =>
    intro f fu t p μ h hk hf hfu
    obtain ⟨fu, rfl⟩ : ∃ q, fu = q + 1 := ⟨fu - 1, by omega⟩
    obtain ⟨f, rfl⟩ : ∃ q, f = q + 1 := ⟨f - 1, by omega⟩
    have h7 : isW T N p 7 = false := by
      cases hh : isW T N p 7 with
      | false => rfl
      | true =>
        have hlt := (tok_pos (T := T) h.2.2.2.2.2.2.2).2.2.2 (isW_n0 hh)
        have hle := (tok_pos (T := T) h.2.2.2.2.2.2.2).2.2.1
        omega
    rw [notL]
    simp only [h7, Bool.false_eq_true, if_false]
    exact hbase fu t p μ h h7
  | succ k ih =>
    intro f fu t p μ h hk hf hfu
    obtain ⟨fu, rfl⟩ : ∃ q, fu = q + 1 := ⟨fu - 1, by omega⟩
    obtain ⟨f, rfl⟩ : ∃ q, f = q + 1 := ⟨f - 1, by omega⟩
    rw [notL]
    cases h7 : isW T N p 7 with
    | false =>
      simp only [Bool.false_eq_true, if_false]
      exact hbase fu t p μ h h7
    | true =>
      simp only [if_true]
      have hw := h.isWord (n := n) 7
      rw [h7] at hw
      have hS := h.1.1
      have hn0 := isW_n0 h7
      have hlt := (tok_pos (T := T) h.2.2.2.2.2.2.2).2.2.2 hn0
      have hle := (tok_pos (T := T) h.2.2.2.2.2.2.2).2.2.1
      obtain ⟨μ1, g1, g2, g3⟩ := h.next (n := n)
      obtain ⟨v, μ', r1, r2, r3, r4, r5⟩ := ih f fu (!t) (tA T N p) μ1 g3 (by omega) (by omega) (by omega)
      refine ⟨v, μ', ?_, r2, g2.frP.trans r3, by rw [r4, g2 _ _ (by omega)], r5⟩
      rw [← r1]
      simp only [b_X12_single_2, rck hS, hw, some_bind, ite_bI0, if_true]
      cases t <;> simp only [b_X12_single_20, rck hS, g1, some_bind] <;> rfl
theorem r_single {kr : Option Nat → Int32 → AH → Option (Int32 × AH)} {l : Nat} (hl : l < 4) {o : Nat} {inner : Option (Nat → Nat ⊕ (Bool × Nat))} (hin : InK n st S x b m T N F kr (nI l) o inner) {p : Nat} (h : RdS st S x b m T N F o p μ) : ∃ v μ', f_X12_single kr (some m) (nI l) (mkH n st S μ) = some (v, mkH n st S μ') ∧ (∃ q, v = bI q) ∧ Ou m T N bI μ μ' v (sngS T N F (nI l) inner p) := by
  have hN := h.2.2.1.2.1
  exact r_sng (n := n) hl hin 300 400 FU false p μ h (by omega) (by omega) (by decide)
end RCOND2
