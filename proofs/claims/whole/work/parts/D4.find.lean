-- ===== the class's reader: tokens =====
def soS (T : Nat → Int32) (N p : Nat) : Int32 := if byS T N (skS T N 400 p) < 0 then -1 else if letB (byS T N (skS T N 400 p)) then 97 else if digB (byS T N (skS T N 400 p)) then 48 else byS T N (skS T N 400 p)
def TpR (μ : MU) (x : Nat) (T : Nat → Int32) (N : Nat) : Prop := μ (x + 149) 1 = nI N ∧ N ≤ 300 ∧ (∀ k, k < N → μ (x + 150) k = T k) ∧ ∀ k, k < N → isN (T k) 256
def FrR (x : Nat) (μ μ' : MU) : Prop := ∀ a j, ¬ (a = x + 149 ∧ 8 ≤ j ∧ j ≤ 10) → μ' a j = μ a j
/-- the token at p stands in the reader -/
def TkA (μ : MU) (x : Nat) (T : Nat → Int32) (N p : Nat) : Prop := μ (x + 149) 9 = nI (tB T N p) ∧ μ (x + 149) 10 = nI (tA T N p) ∧ μ (x + 149) 8 = soS T N p
section FIND
variable {n : Nat} {st : Nat → Nat} {S : SH} {μ μ' : MU} {x b m c l : Nat} {T : Nat → Int32} {N : Nat}
theorem TpR.fr (h : TpR μ x T N) (hf : ∀ a j, (a = x + 149 ∧ j = 1) ∨ a = x + 150 → μ' a j = μ a j) : TpR μ' x T N :=
  ⟨by rw [hf _ _ (by omega)]; exact h.1, h.2.1, fun k hk => by rw [hf _ _ (by omega)]; exact h.2.2.1 k hk, h.2.2.2⟩
theorem FrR.trans {μ'' : MU} (h : FrR x μ μ') (h' : FrR x μ' μ'') : FrR x μ μ'' := fun a j q => (h' a j q).trans (h a j q)
theorem byS_in {k : Nat} (h : k < N) : byS T N k = T k := by rw [byS, if_neg (by omega)]
theorem k_isLet (v : Int32) (h : AH) : f_X4_isLetter v h = some (bI (letB v)) := by
  unfold f_X4_isLetter letB inS
  by_cases h1 : v < 97
  · rw [if_pos h1, decide_eq_false (fun q => q.1 h1)]; rfl
  · rw [if_neg h1]
    by_cases h2 : 122 < v
    · rw [if_pos h2, decide_eq_false (fun q => q.2 h2)]; rfl
    · rw [if_neg h2, decide_eq_true ⟨h1, h2⟩]; rfl
theorem k_isDig (v : Int32) (h : AH) : f_X4_isDigit v h = some (bI (digB v)) := by
  unfold f_X4_isDigit digB inS
  by_cases h1 : v < 48
  · rw [if_pos h1, decide_eq_false (fun q => q.1 h1)]; rfl
  · rw [if_neg h1]
    by_cases h2 : 57 < v
    · rw [if_pos h2, decide_eq_false (fun q => q.2 h2)]; rfl
    · rw [if_neg h2, decide_eq_true ⟨h1, h2⟩]; rfl
theorem k_skip (hX : ShX S x) : ∀ k f fu p (μ : MU), TpR μ x T N → N - p ≤ k → k < f → k < fu → p ≤ N → μ (x + 149) 9 = nI p → ∃ μ' : MU, b_X4_find_8 fu (some (x + 149)) (mkH n st S μ) = b_X4_find_46 (some (x + 149)) (mkH n st S μ') ∧ μ' (x + 149) 9 = nI (skS T N f p) ∧ (∀ a j, ¬ (a = x + 149 ∧ j = 9) → μ' a j = μ a j) := by
  intro k
  induction k with
  | zero =>
    intro f fu p μ hT hk hf hfu hp h9
    obtain ⟨fu, rfl⟩ : ∃ q, fu = q + 1 := ⟨fu - 1, by omega⟩
    obtain ⟨f, rfl⟩ : ∃ q, f = q + 1 := ⟨f - 1, by omega⟩
    obtain ⟨t1, t2, t3, t4⟩ := hT
    have h32 : ¬ byS T N p = 32 := by rw [byS_end (by omega)]; decide
    have g : ¬ nI p < nI N := fun q => by simp (disch := omega) only [nn_lt] at q; omega
    refine ⟨μ, ?_, by rw [skS, if_neg h32]; exact h9, fun _ _ _ => rfl⟩
    simp only [b_X4_find_8, rdI9 hX, rdI1 hX, some_bind, h9, t1, g, if_false]
  | succ k ih =>
    intro f fu p μ hT hk hf hfu hp h9
    obtain ⟨fu, rfl⟩ : ∃ q, fu = q + 1 := ⟨fu - 1, by omega⟩
    obtain ⟨f, rfl⟩ : ∃ q, f = q + 1 := ⟨f - 1, by omega⟩
    have hT' := hT
    obtain ⟨t1, t2, t3, t4⟩ := hT
    by_cases hpN : p < N
    · have g : nI p < nI N := nI_lt hpN (by omega)
      have ap : aI (mkH n st S μ) (some (x + 150)) (nI p) = some (byS T N p) := by rw [xATap hX (by omega), t3 p hpN, byS_in hpN]
      by_cases h32 : byS T N p = 32
      · have e1 : nI p + 1 = nI (p + 1) := nI_add p 1
        obtain ⟨μ', w1, w2, w3⟩ := ih f fu (p + 1) (up2 μ (x + 149) 9 (nI (p + 1))) (hT'.fr (fun a j h => up2_ne (by omega))) (by omega) (by omega) (by omega) (by omega) up2_same
        refine ⟨μ', ?_, by rw [skS, if_pos h32]; exact w2, fun a j h => by rw [w3 a j h, up2_ne h]⟩
        rw [← w1]
        simp only [b_X4_find_8, rdI9 hX, rdI1 hX, some_bind, h9, t1, g, if_true, rdR0 hX, ap, h32, e1, rdP9 hX]
      · refine ⟨μ, ?_, by rw [skS, if_neg h32]; exact h9, fun _ _ _ => rfl⟩
        simp only [b_X4_find_8, rdI9 hX, rdI1 hX, some_bind, h9, t1, g, if_true, rdR0 hX, ap, h32, if_false]
    · have h32 : ¬ byS T N p = 32 := by rw [byS_end (by omega)]; decide
      have g : ¬ nI p < nI N := fun q => by simp (disch := omega) only [nn_lt] at q; omega
      refine ⟨μ, ?_, by rw [skS, if_neg h32]; exact h9, fun _ _ _ => rfl⟩
      simp only [b_X4_find_8, rdI9 hX, rdI1 hX, some_bind, h9, t1, g, if_false]
theorem k_lets (hX : ShX S x) : ∀ k f fu p (μ : MU), TpR μ x T N → N - p ≤ k → k < f → k < fu → p ≤ N → μ (x + 149) 10 = nI p → ∃ μ' : MU, b_X4_find_94 fu (some (x + 149)) (mkH n st S μ) = some (mkH n st S μ') ∧ μ' (x + 149) 10 = nI (leS T N f p) ∧ (∀ a j, ¬ (a = x + 149 ∧ j = 10) → μ' a j = μ a j) := by
  intro k
  induction k with
  | zero =>
    intro f fu p μ hT hk hf hfu hp h9
    obtain ⟨fu, rfl⟩ : ∃ q, fu = q + 1 := ⟨fu - 1, by omega⟩
    obtain ⟨f, rfl⟩ : ∃ q, f = q + 1 := ⟨f - 1, by omega⟩
    obtain ⟨t1, t2, t3, t4⟩ := hT
    have h32 : ¬ letB (byS T N p) = true := by rw [byS_end (by omega), let_m1]; decide
    have g : ¬ nI p < nI N := fun q => by simp (disch := omega) only [nn_lt] at q; omega
    refine ⟨μ, ?_, by rw [leS, if_neg h32]; exact h9, fun _ _ _ => rfl⟩
    simp only [b_X4_find_94, rdI10 hX, rdI1 hX, some_bind, h9, t1, g, if_false]
  | succ k ih =>
    intro f fu p μ hT hk hf hfu hp h9
    obtain ⟨fu, rfl⟩ : ∃ q, fu = q + 1 := ⟨fu - 1, by omega⟩
    obtain ⟨f, rfl⟩ : ∃ q, f = q + 1 := ⟨f - 1, by omega⟩
    have hT' := hT
    obtain ⟨t1, t2, t3, t4⟩ := hT
    by_cases hpN : p < N
    · have g : nI p < nI N := nI_lt hpN (by omega)
      have ap : aI (mkH n st S μ) (some (x + 150)) (nI p) = some (byS T N p) := by rw [xATap hX (by omega), t3 p hpN, byS_in hpN]
      by_cases h32 : letB (byS T N p) = true
      · have e1 : nI p + 1 = nI (p + 1) := nI_add p 1
        obtain ⟨μ', w1, w2, w3⟩ := ih f fu (p + 1) (up2 μ (x + 149) 10 (nI (p + 1))) (hT'.fr (fun a j h => up2_ne (by omega))) (by omega) (by omega) (by omega) (by omega) up2_same
        refine ⟨μ', ?_, by rw [leS, if_pos h32]; exact w2, fun a j h => by rw [w3 a j h, up2_ne h]⟩
        rw [← w1]
        simp only [b_X4_find_94, rdI10 hX, rdI1 hX, some_bind, h9, t1, g, if_true, rdR0 hX, ap, k_isLet, h32, ite_bI0, e1, rdP10 hX]
      · refine ⟨μ, ?_, by rw [leS, if_neg h32]; exact h9, fun _ _ _ => rfl⟩
        simp only [b_X4_find_94, rdI10 hX, rdI1 hX, some_bind, h9, t1, g, if_true, rdR0 hX, ap, k_isLet, h32, ite_bI0, if_false, Bool.false_eq_true]
    · have h32 : ¬ letB (byS T N p) = true := by rw [byS_end (by omega), let_m1]; decide
      have g : ¬ nI p < nI N := fun q => by simp (disch := omega) only [nn_lt] at q; omega
      refine ⟨μ, ?_, by rw [leS, if_neg h32]; exact h9, fun _ _ _ => rfl⟩
      simp only [b_X4_find_94, rdI10 hX, rdI1 hX, some_bind, h9, t1, g, if_false]
theorem k_digs (hX : ShX S x) : ∀ k f fu p (μ : MU), TpR μ x T N → N - p ≤ k → k < f → k < fu → p ≤ N → μ (x + 149) 10 = nI p → ∃ μ' : MU, b_X4_find_154 fu (some (x + 149)) (mkH n st S μ) = some (mkH n st S μ') ∧ μ' (x + 149) 10 = nI (diS T N f p) ∧ (∀ a j, ¬ (a = x + 149 ∧ j = 10) → μ' a j = μ a j) := by
  intro k
  induction k with
  | zero =>
    intro f fu p μ hT hk hf hfu hp h9
    obtain ⟨fu, rfl⟩ : ∃ q, fu = q + 1 := ⟨fu - 1, by omega⟩
    obtain ⟨f, rfl⟩ : ∃ q, f = q + 1 := ⟨f - 1, by omega⟩
    obtain ⟨t1, t2, t3, t4⟩ := hT
    have h32 : ¬ digB (byS T N p) = true := by rw [byS_end (by omega), dig_m1]; decide
    have g : ¬ nI p < nI N := fun q => by simp (disch := omega) only [nn_lt] at q; omega
    refine ⟨μ, ?_, by rw [diS, if_neg h32]; exact h9, fun _ _ _ => rfl⟩
    simp only [b_X4_find_154, rdI10 hX, rdI1 hX, some_bind, h9, t1, g, if_false]
  | succ k ih =>
    intro f fu p μ hT hk hf hfu hp h9
    obtain ⟨fu, rfl⟩ : ∃ q, fu = q + 1 := ⟨fu - 1, by omega⟩
    obtain ⟨f, rfl⟩ : ∃ q, f = q + 1 := ⟨f - 1, by omega⟩
    have hT' := hT
    obtain ⟨t1, t2, t3, t4⟩ := hT
    by_cases hpN : p < N
    · have g : nI p < nI N := nI_lt hpN (by omega)
      have ap : aI (mkH n st S μ) (some (x + 150)) (nI p) = some (byS T N p) := by rw [xATap hX (by omega), t3 p hpN, byS_in hpN]
      by_cases h32 : digB (byS T N p) = true
      · have e1 : nI p + 1 = nI (p + 1) := nI_add p 1
        obtain ⟨μ', w1, w2, w3⟩ := ih f fu (p + 1) (up2 μ (x + 149) 10 (nI (p + 1))) (hT'.fr (fun a j h => up2_ne (by omega))) (by omega) (by omega) (by omega) (by omega) up2_same
        refine ⟨μ', ?_, by rw [diS, if_pos h32]; exact w2, fun a j h => by rw [w3 a j h, up2_ne h]⟩
        rw [← w1]
        simp only [b_X4_find_154, rdI10 hX, rdI1 hX, some_bind, h9, t1, g, if_true, rdR0 hX, ap, k_isDig, h32, ite_bI0, e1, rdP10 hX]
      · refine ⟨μ, ?_, by rw [diS, if_neg h32]; exact h9, fun _ _ _ => rfl⟩
        simp only [b_X4_find_154, rdI10 hX, rdI1 hX, some_bind, h9, t1, g, if_true, rdR0 hX, ap, k_isDig, h32, ite_bI0, if_false, Bool.false_eq_true]
    · have h32 : ¬ digB (byS T N p) = true := by rw [byS_end (by omega), dig_m1]; decide
      have g : ¬ nI p < nI N := fun q => by simp (disch := omega) only [nn_lt] at q; omega
      refine ⟨μ, ?_, by rw [diS, if_neg h32]; exact h9, fun _ _ _ => rfl⟩
      simp only [b_X4_find_154, rdI10 hX, rdI1 hX, some_bind, h9, t1, g, if_false]
theorem byS_neg (h : ∀ k, k < N → isN (T k) 256) {k : Nat} : byS T N k < 0 ↔ N ≤ k := by
  by_cases hk : N ≤ k
  · rw [byS_end hk]
    exact ⟨fun _ => hk, fun _ => by decide⟩
  · obtain ⟨v, hv, e⟩ := h k (by omega)
    rw [byS_in (by omega), e]
    exact ⟨fun q => absurd q (nI_pos (by omega)), fun q => absurd q hk⟩
theorem let_dig {v : Int32} (h : letB v = true) : digB v = false := by
  obtain ⟨k, k1, k2, rfl⟩ := inS_lo (a := 97) (c := 122) (by omega) (by omega) h
  have : ∀ k, k < 123 → 97 ≤ k → digB (nI k) = false := by decide +kernel
  exact this k (by omega) k1
theorem k_find (hX : ShX S x) (hT : TpR μ x T N) {p : Nat} (hp : p ≤ N) (h10 : μ (x + 149) 10 = nI p) : ∃ μ' : MU, f_X4_find (some (x + 149)) (mkH n st S μ) = some (mkH n st S μ') ∧ TkA μ' x T N p ∧ FrR x μ μ' := by
  have hN := hT.2.1
  have fuL : FU = 4000 := rfl
  obtain ⟨μ1, a1, a2, a3⟩ := k_skip (n := n) (st := st) hX (N - p) 400 FU p (up2 μ (x + 149) 9 (nI p)) (hT.fr (fun a j h => up2_ne (by omega))) (by omega) (by omega) (by omega) hp up2_same
  have start : f_X4_find (some (x + 149)) (mkH n st S μ) = b_X4_find_46 (some (x + 149)) (mkH n st S μ1) := by
    rw [← a1]
    simp only [f_X4_find, rdI10 hX, some_bind, h10, rdP9 hX]
  have hsk := skS_pos (T := T) (N := N) 400 p hp
  obtain ⟨s, hs⟩ : ∃ s, s = skS T N 400 p := ⟨_, rfl⟩
  rw [← hs] at a2 hsk
  obtain ⟨μ2, h2⟩ : ∃ z, z = up2 μ1 (x + 149) 10 (nI s) := ⟨_, rfl⟩
  have hT2 : TpR μ2 x T N := (hT.fr (μ' := up2 μ (x + 149) 9 (nI p)) (fun a j h => up2_ne (by omega))).fr (fun a j h => by rw [h2, up2_ne (by omega), a3 a j (by omega)])
  have F2 : FrR x μ μ2 := fun a j h => by rw [h2, up2_ne (by omega), a3 a j (by omega), up2_ne (by omega)]
  have n9 : μ2 (x + 149) 9 = nI s := by rw [h2, up2_ne (by omega), a2]
  have n10 : μ2 (x + 149) 10 = nI s := by rw [h2, up2_same]
  have hng := byS_neg hT.2.2.2 (k := s)
  have so := hs
  have hso : soS T N p = if byS T N s < 0 then -1 else if letB (byS T N s) then 97 else if digB (byS T N s) then 48 else byS T N s := by rw [soS, ← hs]
  have cs := nxS_cases T N p
  rw [← hs] at cs
  obtain ⟨t1, -, t3, -⟩ := hT2
  rw [start]
  have z1 : gI 4 9 (mkH n st S μ1) (some (x + 149)) = some (nI s) := by rw [rdI9 hX, a2]
  have step : b_X4_find_46 (some (x + 149)) (mkH n st S μ1) = if nI s < nI N then (aI (mkH n st S μ2) (some (x + 150)) (nI s)).bind fun v7 => (f_X4_isLetter v7 (mkH n st S μ2)).bind fun v8 => if v8 = 0 then (aI (mkH n st S μ2) (some (x + 150)) (nI s)).bind fun v11 => (f_X4_isDigit v11 (mkH n st S μ2)).bind fun v12 => if v12 = 0 then (aI (mkH n st S μ2) (some (x + 150)) (nI s)).bind fun v15 => (pI 4 8 (mkH n st S μ2) (some (x + 149)) v15).bind fun h16 => (gI 4 10 h16 (some (x + 149))).bind fun v17 => (pI 4 10 h16 (some (x + 149)) (v17 + 1)).bind fun h18 => some h18 else (pI 4 8 (mkH n st S μ2) (some (x + 149)) 48).bind fun h19 => b_X4_find_154 FU (some (x + 149)) h19 else (pI 4 8 (mkH n st S μ2) (some (x + 149)) 97).bind fun h20 => b_X4_find_94 FU (some (x + 149)) h20 else (pI 4 8 (mkH n st S μ2) (some (x + 149)) (-1)).bind fun h21 => some h21 := by
    simp only [b_X4_find_46, z1, some_bind, rdP10 hX, ← h2, rdI9 hX, rdI1 hX, rdR0 hX, n9, t1]
  rw [step]
  rcases cs with ⟨c1, c2, c3, c4⟩ | ⟨c1, c2, c3, c4, -⟩ | ⟨c1, c2, c3, c4, c5, -⟩ | ⟨c1, c2, c3, c4, c5, -⟩
  · have hsN := hng.mp c1
    have g : ¬ nI s < nI N := fun q => by simp (disch := omega) only [nn_lt] at q; omega
    refine ⟨up2 μ2 (x + 149) 8 (-1), by simp only [g, if_false, rdP8 hX, some_bind], ⟨by rw [up2_ne (by omega), c2, n9], by rw [up2_ne (by omega), c3, n10], by rw [up2_same, hso, if_pos c1]⟩, fun a j h => by rw [up2_ne (by omega), F2 a j h]⟩
  · have hsN : s < N := by
      rcases Nat.lt_or_ge s N with h | h
      · exact h
      · exact absurd (hng.mpr h) c1
    have g : nI s < nI N := nI_lt hsN (by omega)
    have ap : aI (mkH n st S μ2) (some (x + 150)) (nI s) = some (byS T N s) := by rw [xATap hX (by omega), t3 s hsN, byS_in hsN]
    have hl : ¬ letB (byS T N s) = true := fun h => by rw [let_dig h] at c2; cases c2
    obtain ⟨μ3, d1, d2, d3⟩ := k_digs (n := n) (st := st) hX (N - s) 400 FU s (up2 μ2 (x + 149) 8 48) (TpR.fr ⟨t1, hN, t3, hT.2.2.2⟩ (fun a j h => up2_ne (by omega))) (by omega) (by omega) (by omega) (by omega) (by rw [up2_ne (by omega), n10])
    refine ⟨μ3, by simp only [g, if_true, ap, some_bind, k_isLet, hl, ite_bI0, if_false, Bool.false_eq_true, k_isDig, c2, rdP8 hX, d1], ⟨by rw [d3 _ _ (by omega), up2_ne (by omega), c3, n9], by rw [d2, c4], by rw [d3 _ _ (by omega), up2_same, hso, if_neg c1, if_neg hl, if_pos c2]⟩, fun a j h => by rw [d3 a j (by omega), up2_ne (by omega), F2 a j h]⟩
  · have hsN : s < N := by
      rcases Nat.lt_or_ge s N with h | h
      · exact h
      · exact absurd (hng.mpr h) c1
    have g : nI s < nI N := nI_lt hsN (by omega)
    have ap : aI (mkH n st S μ2) (some (x + 150)) (nI s) = some (byS T N s) := by rw [xATap hX (by omega), t3 s hsN, byS_in hsN]
    obtain ⟨μ3, d1, d2, d3⟩ := k_lets (n := n) (st := st) hX (N - s) 400 FU s (up2 μ2 (x + 149) 8 97) (TpR.fr ⟨t1, hN, t3, hT.2.2.2⟩ (fun a j h => up2_ne (by omega))) (by omega) (by omega) (by omega) (by omega) (by rw [up2_ne (by omega), n10])
    refine ⟨μ3, by simp only [g, if_true, ap, some_bind, k_isLet, c3, ite_bI0, rdP8 hX, d1], ⟨by rw [d3 _ _ (by omega), up2_ne (by omega), c4, n9], by rw [d2, c5], by rw [d3 _ _ (by omega), up2_same, hso, if_neg c1, if_pos c3]⟩, fun a j h => by rw [d3 a j (by omega), up2_ne (by omega), F2 a j h]⟩
  · have hsN : s < N := by
      rcases Nat.lt_or_ge s N with h | h
      · exact h
      · exact absurd (hng.mpr h) c1
    have g : nI s < nI N := nI_lt hsN (by omega)
    have ap : aI (mkH n st S μ2) (some (x + 150)) (nI s) = some (byS T N s) := by rw [xATap hX (by omega), t3 s hsN, byS_in hsN]
    have e1 : nI s + 1 = nI (s + 1) := nI_add s 1
    have hl : ¬ letB (byS T N s) = true := fun h => by rw [h] at c3; cases c3
    have hd : ¬ digB (byS T N s) = true := fun h => by rw [h] at c2; cases c2
    have i10 : gI 4 10 (mkH n st S (up2 μ2 (x + 149) 8 (byS T N s))) (some (x + 149)) = some (nI s) := by rw [rdI10 hX, up2_ne (by omega), n10]
    refine ⟨up2 (up2 μ2 (x + 149) 8 (byS T N s)) (x + 149) 10 (nI (s + 1)), by simp only [g, if_true, ap, some_bind, k_isLet, hl, ite_bI0, if_false, Bool.false_eq_true, k_isDig, hd, rdP8 hX, i10, rdP10 hX, e1], ⟨by rw [up2_ne (by omega), up2_ne (by omega), c4, n9], by rw [up2_same, c5], by rw [up2_ne (by omega), up2_same, hso, if_neg c1, if_neg hl, if_neg hd]⟩, fun a j h => by rw [up2_ne (by omega), up2_ne (by omega), F2 a j h]⟩
/-- a number -/
theorem k_num31 (hX : ShX S x) (hT : TpR μ x T N) {bb e : Nat} (h10 : μ (x + 149) 10 = nI e) (he : e ≤ N) (h4 : e - bb ≤ 4) : ∀ k f fu p (v : Int32), N - p ≤ k → k < f → k < fu → bb ≤ p → p ≤ N → diS T N f p = e → b_X4_number_31 (mkH n st S μ) fu (some (x + 149)) v (nI p) = some (nuS T N bb f p v) := by
  obtain ⟨t1, hN, t3, t4⟩ := hT
  intro k
  induction k with
  | zero =>
    intro f fu p v hk hf hfu hb hp hd
    obtain ⟨fu, rfl⟩ : ∃ q, fu = q + 1 := ⟨fu - 1, by omega⟩
    obtain ⟨f, rfl⟩ : ∃ q, f = q + 1 := ⟨f - 1, by omega⟩
    have h32 : ¬ digB (byS T N p) = true := by rw [byS_end (by omega), dig_m1]; decide
    rw [diS, if_neg h32] at hd
    have g : ¬ nI p < nI e := fun q => by simp (disch := omega) only [nn_lt] at q; omega
    rw [nuS, if_neg h32]
    simp only [b_X4_number_31, rdI10 hX, some_bind, h10, g, if_false]
  | succ k ih =>
    intro f fu p v hk hf hfu hb hp hd
    obtain ⟨fu, rfl⟩ : ∃ q, fu = q + 1 := ⟨fu - 1, by omega⟩
    obtain ⟨f, rfl⟩ : ∃ q, f = q + 1 := ⟨f - 1, by omega⟩
    by_cases h32 : digB (byS T N p) = true
    · have hpN : p < N := byS_lt (T := T) (N := N) (k := p) (fun q => by rw [q, dig_m1] at h32; cases h32)
      rw [diS, if_pos h32] at hd
      have hle := diS_pos (T := T) (N := N) f (p + 1) (by omega)
      have g : nI p < nI e := nI_lt (by omega) (by omega)
      have e1 : nI p + 1 = nI (p + 1) := nI_add p 1
      have ap : aI (mkH n st S μ) (some (x + 150)) (nI p) = some (byS T N p) := by rw [xATap hX (by omega), t3 p hpN, byS_in hpN]
      rw [nuS, if_pos h32, if_pos (by omega), ← ih f fu (p + 1) _ (by omega) (by omega) (by omega) (by omega) (by omega) hd]
      simp only [b_X4_number_31, rdI10 hX, some_bind, h10, g, if_true, rdR0 hX, ap, e1]
      rw [Int32.mul_comm v 10]
    · rw [diS, if_neg h32] at hd
      have g : ¬ nI p < nI e := fun q => by simp (disch := omega) only [nn_lt] at q; omega
      rw [nuS, if_neg h32]
      simp only [b_X4_number_31, rdI10 hX, some_bind, h10, g, if_false]
theorem k_number (hX : ShX S x) (hT : TpR μ x T N) {p : Nat} (hp : p ≤ N) (hk : TkA μ x T N p) (h0 : ¬ tK T N p = 0) : f_X4_number (some (x + 149)) (mkH n st S μ) = some (if tK T N p = 3 then tV T N p else -1) := by
  obtain ⟨k1, k2, k3⟩ := hk
  have hN := hT.2.1
  have tp := tok_pos (T := T) hp
  obtain ⟨s, hs⟩ : ∃ s, s = skS T N 400 p := ⟨_, rfl⟩
  have hso : soS T N p = if byS T N s < 0 then -1 else if letB (byS T N s) then 97 else if digB (byS T N s) then 48 else byS T N s := by rw [soS, ← hs]
  have cs := nxS_cases T N p
  rw [← hs] at cs
  have fuL : FU = 4000 := rfl
  rcases cs with ⟨c1, c2, c3, c4⟩ | ⟨c1, c2, c3, c4, c5, c6⟩ | ⟨c1, c2, c3, c4, c5, c6⟩ | ⟨c1, c2, c3, c4, c5, c6⟩
  · exact absurd c4 h0
  · have hl : ¬ letB (byS T N s) = true := fun h => by rw [let_dig h] at c2; cases c2
    rw [if_neg c1, if_neg hl, if_pos c2] at hso
    rw [hso] at k3
    have e48 : (48 : Int32) = 48 := rfl
    rw [c4] at k2 tp
    rw [c3] at k1 tp
    have hsub : nI (diS T N 400 s) - nI s = nI (diS T N 400 s - s) := pk_sub (by omega)
    by_cases h4 : diS T N 400 s - s > 4
    · rw [if_pos h4] at c5
      have g : (4 : Int32) < nI (diS T N 400 s - s) := nI_lt (a := 4) h4 (by omega)
      rw [c5, if_neg (by decide)]
      simp only [f_X4_number, rdI8 hX, some_bind, k3, if_true, rdI10 hX, rdI9 hX, k1, k2, hsub, g]
    · rw [if_neg h4] at c5
      have g : ¬ (4 : Int32) < nI (diS T N 400 s - s) := fun q => by
        have : nI 4 < nI (diS T N 400 s - s) := q
        simp (disch := omega) only [nn_lt] at this
        omega
      have n31 := k_num31 (n := n) (st := st) hX hT k2 (by omega) (by omega) (N - s) 400 FU s 0 (by omega) (by omega) (by omega) (Nat.le_refl _) (by omega) rfl
      rw [c5, if_pos rfl, c6]
      simp only [f_X4_number, rdI8 hX, some_bind, k3, if_true, rdI10 hX, rdI9 hX, k1, k2, hsub, g, if_false, n31]
  · have hne : ¬ μ (x + 149) 8 = 48 := by rw [k3, hso, if_neg c1, if_pos c3]; decide
    have h3 : ¬ tK T N p = 3 := by
      rcases c6 with ⟨_, _, h, _⟩ | ⟨_, h⟩ <;> rw [h] <;> decide
    rw [if_neg h3]
    simp only [f_X4_number, rdI8 hX, some_bind, hne, if_false]
  · have hd : ¬ digB (byS T N s) = true := fun h => by rw [h] at c2; cases c2
    have hl : ¬ letB (byS T N s) = true := fun h => by rw [h] at c3; cases c3
    have hne : ¬ μ (x + 149) 8 = 48 := by
      rw [k3, hso, if_neg c1, if_neg hl, if_neg hd]
      intro q
      rw [q] at hd
      exact hd (by decide)
    have h3 : ¬ tK T N p = 3 := by
      rw [c6]
      split
      · rename_i h
        intro q
        rw [q] at h
        exact absurd h (by decide)
      · decide
    rw [if_neg h3]
    simp only [f_X4_number, rdI8 hX, some_bind, hne, if_false]
end FIND
