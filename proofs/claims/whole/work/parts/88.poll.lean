-- ===== a poll: how many for each =====
theorem cntB_snoc (p : Nat → Bool) : ∀ k j, cntB p (k + 1) j = cntB p k j + if p (j + k) then 1 else 0 := by
  intro k
  induction k with
  | zero => intro j; simp [cntB]
  | succ k ih =>
    intro j
    rw [cntB, ih (j + 1), cntB, show j + 1 + k = j + (k + 1) from by omega]
    omega
theorem cntB_le (p : Nat → Bool) : ∀ k j, cntB p k j ≤ k := by
  intro k
  induction k with
  | zero => intro j; exact Nat.le_refl 0
  | succ k ih =>
    intro j
    rw [cntB]
    have := ih (j + 1)
    split <;> omega
def orK (g : Nat → Nat) : Nat → Nat
  | 0 => 0
  | k + 1 => orK g k ||| g k
theorem orK_lt {g : Nat → Nat} {w : Nat} : ∀ k, (∀ i, i < k → g i < 2 ^ w) → orK g k < 2 ^ w := by
  intro k
  induction k with
  | zero => intro _; exact Nat.two_pow_pos w
  | succ k ih => intro h; exact Nat.or_lt_two_pow (ih fun i hi => h i (by omega)) (h k (by omega))
def fiF (L : Nat → Nat) (i : Nat) (f : Int32) : Int32 := if f < 0 then nI i else if L f.toNatClampNeg < L i then nI i else f
def fiS (L : Nat → Nat) (N : Nat) : Int32 := itS (fiF L) N 0 (-1)
def seF (L : Nat → Nat) (f : Int32) (i s : Nat) : Nat := if nI i = f then s else if s < L i then L i else s
def seS (L : Nat → Nat) (N : Nat) (f : Int32) : Nat := itS (seF L f) N 0 0
def leN (L : Nat → Nat) (f : Int32) : Nat := if f < 0 then 0 else L f.toNatClampNeg
def trN (G : Nat → Nat) (f : Int32) : Nat := if f < 0 then 0 else popN 16 (G f.toNatClampNeg)
theorem fiF_rng (L : Nat → Nat) : ∀ k j f, isO f j → isO (itS (fiF L) k j f) (j + k) := by
  intro k
  induction k with
  | zero => intro j f h; exact h
  | succ k ih =>
    intro j f h
    have := ih (j + 1) (fiF L j f) (by
      unfold fiF
      split
      · exact Or.inr ⟨j, by omega, rfl⟩
      · split
        · exact Or.inr ⟨j, by omega, rfl⟩
        · rcases h with h | ⟨q, q1, q2⟩
          · exact Or.inl h
          · exact Or.inr ⟨q, by omega, q2⟩)
    rw [show j + (k + 1) = j + 1 + k from by omega]
    exact this
theorem fiS_rng (L : Nat → Nat) (N : Nat) : isO (fiS L N) N := by
  have := fiF_rng L N 0 (-1) (Or.inl rfl)
  rw [Nat.zero_add] at this
  exact this
theorem seS_le {L : Nat → Nat} {B : Nat} (f : Int32) : ∀ k j s, s ≤ B → (∀ i, j ≤ i → i < j + k → L i ≤ B) → itS (seF L f) k j s ≤ B := by
  intro k
  induction k with
  | zero => intro j s h _; exact h
  | succ k ih =>
    intro j s h hL
    refine ih (j + 1) _ ?_ (fun i h1 h2 => hL i (by omega) (by omega))
    unfold seF
    split
    · exact h
    · split
      · exact hL j (by omega) (by omega)
      · exact h
/-- who goes by a poll -/
def goS (T : Nat → Int32) (Nt : Nat) (tot : Nat) (L G : Nat → Nat) (N : Nat) : Int32 := if (decide (0 < leN L (fiS L N)) && enoS T Nt (nI tot) (nI (leN L (fiS L N))) (nI (seS L N (fiS L N))) (nI (trN G (fiS L N)))) then fiS L N else -1
def PoOK (μ : MU) (x N tot : Nat) (L M G : Nat → Nat) : Prop := μ (x + 158) 0 = nI N ∧ μ (x + 158) 1 = nI tot ∧ (∀ i, i < N → μ (x + 159) i = nI (L i) ∧ μ (x + 160) i = nI (M i) ∧ μ (x + 161) i = nI (G i))
section POLL
variable {n : Nat} {st : Nat → Nat} {S : SH} {μ : MU} {x b m c l : Nat} {D : DR} {N tot : Nat} {L M G : Nat → Nat} {T : Nat → Int32} {Nt : Nat}
theorem PoOK.congr {μ' : MU} (h : PoOK μ x N tot L M G) (hm : ∀ a j, x + 158 ≤ a ∧ a ≤ x + 161 → μ' a j = μ a j) : PoOK μ' x N tot L M G := by
  obtain ⟨h1, h2, h3⟩ := h
  refine ⟨by rw [hm _ _ (by omega)]; exact h1, by rw [hm _ _ (by omega)]; exact h2, fun i hi => ?_⟩
  rw [hm _ _ (by omega), hm _ _ (by omega), hm _ _ (by omega)]
  exact h3 i hi
theorem k_firstL (hX : ShX S x) (hP : PoOK μ x N tot L M G) (hN : N ≤ 16) (hL : ∀ i, i < N → L i < 2 ^ 30) : ∀ k j fu f, isO f j → j + k = N → k < fu → b_X6_firstMan_4 (mkH n st S μ) fu (some (x + 158)) f (nI j) = some (itS (fiF L) k j f) := by
  obtain ⟨p1, p2, p3⟩ := hP
  intro k
  induction k with
  | zero =>
    intro j fu f hfr hj hf
    obtain ⟨fu, rfl⟩ : ∃ q, fu = q + 1 := ⟨fu - 1, by omega⟩
    obtain rfl : j = N := by omega
    simp (disch := omega) only [b_X6_firstMan_4, poI0 hX, some_bind, p1, nn_lt, natF, if_false]
    rfl
  | succ k ih =>
    intro j fu f hfr hj hf
    obtain ⟨fu, rfl⟩ : ∃ q, fu = q + 1 := ⟨fu - 1, by omega⟩
    show _ = some (itS (fiF L) k (j + 1) (fiF L j f))
    have hr : isO (fiF L j f) (j + 1) := fiF_rng L 1 j f hfr
    rw [← ih (j + 1) fu _ hr (by omega) (by omega)]
    unfold fiF
    by_cases h0 : f < 0
    · simp (disch := omega) only [b_X6_firstMan_4, b_X6_firstMan_31, poI0 hX, some_bind, p1, nn_lt, natT, if_true, h0, nI_1]
    · rcases hfr with h | ⟨q, q1, rfl⟩
      · rw [h] at h0; exact absurd (by decide) h0
      · have l1 := hL j (by omega)
        have l2 := hL q (by omega)
        have e1 := (p3 j (by omega)).1
        have e2 := (p3 q (by omega)).1
        simp (disch := omega) only [b_X6_firstMan_4, b_X6_firstMan_31, poI0 hX, some_bind, p1, nn_lt, natT, if_true, h0, if_false, poR2 hX, xALea hX, e1, e2, nI_1, nI_clamp]
        by_cases h2 : L q < L j
        · simp only [h2, if_true]
        · simp only [h2, if_false]
theorem k_firstMan (hX : ShX S x) (hP : PoOK μ x N tot L M G) (hN : N ≤ 16) (hL : ∀ i, i < N → L i < 2 ^ 30) : f_X6_firstMan (some (x + 158)) (mkH n st S μ) = some (fiS L N) :=
  k_firstL hX hP hN hL N 0 FU (-1) (Or.inl rfl) (by omega) (by have : FU = 4000 := rfl; omega)
theorem k_leastOf (hX : ShX S x) (hP : PoOK μ x N tot L M G) (hN : N ≤ 16) {f : Int32} (hf : isO f N) : f_X6_leastOf (some (x + 158)) f (mkH n st S μ) = some (nI (leN L f)) := by
  unfold leN
  rcases hf with rfl | ⟨q, q1, rfl⟩
  · rfl
  · have h0 : ¬ nI q < (0 : Int32) := nI_pos (by omega)
    have e1 := (hP.2.2 q q1).1
    simp (disch := omega) only [f_X6_leastOf, h0, if_false, poR2 hX, some_bind, xALea hX, e1, nI_clamp]
theorem k_secondL (hX : ShX S x) (hP : PoOK μ x N tot L M G) (hN : N ≤ 16) (hL : ∀ i, i < N → L i < 2 ^ 30) (f : Int32) : ∀ k j fu s, s < 2 ^ 30 → j + k = N → k < fu → b_X6_secondTo_4 (mkH n st S μ) fu (some (x + 158)) f (nI s) (nI j) = some (nI (itS (seF L f) k j s)) := by
  obtain ⟨p1, p2, p3⟩ := hP
  intro k
  induction k with
  | zero =>
    intro j fu s hs hj hf
    obtain ⟨fu, rfl⟩ : ∃ q, fu = q + 1 := ⟨fu - 1, by omega⟩
    obtain rfl : j = N := by omega
    simp (disch := omega) only [b_X6_secondTo_4, poI0 hX, some_bind, p1, nn_lt, natF, if_false]
    rfl
  | succ k ih =>
    intro j fu s hs hj hf
    obtain ⟨fu, rfl⟩ : ∃ q, fu = q + 1 := ⟨fu - 1, by omega⟩
    show _ = some (nI (itS (seF L f) k (j + 1) (seF L f j s)))
    have l1 := hL j (by omega)
    have e1 := (p3 j (by omega)).1
    have hb : seF L f j s < 2 ^ 30 := by
      unfold seF
      split
      · exact hs
      · split
        · exact l1
        · exact hs
    rw [← ih (j + 1) fu _ hb (by omega) (by omega)]
    unfold seF
    by_cases h0 : nI j = f
    · rw [if_pos h0]
      simp (disch := omega) only [b_X6_secondTo_4, poI0 hX, some_bind, p1, nn_lt, natT, if_true, nI_1]
      rw [if_pos h0]
    · rw [if_neg h0]
      simp (disch := omega) only [b_X6_secondTo_4, poI0 hX, some_bind, p1, nn_lt, natT, if_true, h0, if_false, poR2 hX, xALea hX, e1, nI_1]
      by_cases h2 : s < L j
      · simp only [h2, if_true]
      · simp only [h2, if_false]
theorem k_secondTo (hX : ShX S x) (hP : PoOK μ x N tot L M G) (hN : N ≤ 16) (hL : ∀ i, i < N → L i < 2 ^ 30) (f : Int32) : f_X6_secondTo (some (x + 158)) f (mkH n st S μ) = some (nI (seS L N f)) :=
  k_secondL hX hP hN hL f N 0 FU 0 (by omega) (by omega) (by have : FU = 4000 := rfl; omega)
theorem k_tribesFor (hX : ShX S x) (hP : PoOK μ x N tot L M G) (hN : N ≤ 16) (hG : ∀ i, i < N → G i < 2 ^ 16) {f : Int32} (hf : isO f N) : f_X6_tribesFor (some (x + 158)) f (mkH n st S μ) = some (nI (trN G f)) := by
  unfold trN
  rcases hf with rfl | ⟨q, q1, rfl⟩
  · rfl
  · have h0 : ¬ nI q < (0 : Int32) := nI_pos (by omega)
    have e1 := (hP.2.2 q q1).2.2
    have kB := k_bitCount (hG q q1) (mkH n st S μ)
    obtain ⟨g, hg⟩ : ∃ g, g = G q := ⟨_, rfl⟩
    rw [← hg] at kB e1
    simp (disch := omega) only [f_X6_tribesFor, h0, if_false, poR4 hX, some_bind, xAGat hX, e1, kB, nI_clamp, ← hg]
theorem k_whoGoes (hX : ShX S x) (hP : PoOK μ x N tot L M G) (hN : N ≤ 16) (hL : ∀ i, i < N → L i < 2 ^ 30) (hG : ∀ i, i < N → G i < 2 ^ 16) (hl : l < 5) (hU : LawU μ (x + 1 + 118 + 6 * l) T Nt) (hNt : Nt ≤ 300) : ∃ μ', f_X6_whoGoes (some (x + 158)) (some (x + 1 + 118 + 6 * l)) (mkH n st S μ) = some ((if goS T Nt tot L G N < 0 then -3 else goS T Nt tot L G N), mkH n st S μ') ∧ ∀ a j, ¬ a = x + 1 + 118 + 6 * l + 4 → ¬ a = x + 1 + 118 + 6 * l + 5 → μ' a j = μ a j := by
  have hr := fiS_rng L N
  have kF := k_firstMan (n := n) (st := st) hX hP hN hL
  have kL := k_leastOf (n := n) (st := st) hX hP hN hr
  have kS := k_secondTo (n := n) (st := st) hX hP hN hL (fiS L N)
  have kT := k_tribesFor (n := n) (st := st) hX hP hN hG hr
  have hLw := hX.city.law l hl
  obtain ⟨f, hf⟩ : ∃ f, f = fiS L N := ⟨_, rfl⟩
  have hlb : leN L f < 2 ^ 30 := by
    unfold leN
    split
    · omega
    · rw [← hf] at hr
      rcases hr with h | ⟨q, q1, q2⟩
      · rename_i h0
        rw [h] at h0; exact absurd (by decide) h0
      · rw [q2, nI_clamp (by omega)]; exact hL q q1
  unfold goS
  rw [← hf] at hr kF kL kS kT ⊢
  by_cases h0 : 0 < leN L f
  · have hge : ∃ q, q < N ∧ f = nI q := by
      rcases hr with h | h
      · exfalso
        rw [h] at h0
        exact absurd h0 (by unfold leN; rw [if_pos (by decide)]; omega)
      · exact h
    obtain ⟨q, q1, rfl⟩ := hge
    have hq0 : ¬ nI q < (0 : Int32) := nI_pos (by omega)
    have hlq : leN L (nI q) = L q := by rw [leN, if_neg hq0, nI_clamp (by omega)]
    obtain ⟨μ', g1, g2⟩ := k_isEnough (n := n) (st := st) hLw hU hNt (nI tot) (nI (leN L (nI q))) (nI (seS L N (nI q))) (nI (trN G (nI q)))
    refine ⟨μ', ?_, g2⟩
    have e1 := (hP.2.2 q q1).1
    rw [← hlq] at e1
    have n0 : (0 : Int32) < nI (leN L (nI q)) := nI_lt (a := 0) h0 (by omega)
    simp (disch := omega) only [f_X6_whoGoes, pock hX, kF, some_bind, kL, n0, if_true, poI1 hX, hP.2.1, poR2 hX, xALea hX, e1, kS, kT, lck hLw, g1, h0, decide_true, Bool.true_and]
    cases enoS T Nt (nI tot) (nI (leN L (nI q))) (nI (seS L N (nI q))) (nI (trN G (nI q)))
    · rfl
    · simp only [if_true, hq0, if_false]
      rfl
  · refine ⟨μ, ?_, fun _ _ _ _ => rfl⟩
    have n0 : ¬ (0 : Int32) < nI (leN L f) := by
      have : leN L f = 0 := by omega
      rw [this]; decide
    simp only [f_X6_whoGoes, pock hX, kF, some_bind, kL, n0, if_false, h0, decide_false, Bool.false_and, Bool.false_eq_true]
    rfl
/-- a poll begins -/
theorem k_begin12 (hX : ShX S x) (hN : N ≤ 16) : ∀ k j fu (μ : MU), μ (x + 158) 0 = nI N → j + k = N → k < fu → ∃ μ', b_X6_begin_12 fu (some (x + 158)) (nI j) (mkH n st S μ) = b_X6_begin_49 FU (some (x + 158)) 0 (mkH n st S μ') ∧ (∀ i, j ≤ i → i < N → μ' (x + 159) i = 0 ∧ μ' (x + 160) i = 0 ∧ μ' (x + 161) i = 0) ∧ ∀ a i, ¬ (x + 159 ≤ a ∧ a ≤ x + 161 ∧ j ≤ i) → μ' a i = μ a i := by
  intro k
  induction k with
  | zero =>
    intro j fu μ h0 hj hf
    obtain ⟨fu, rfl⟩ : ∃ q, fu = q + 1 := ⟨fu - 1, by omega⟩
    obtain rfl : j = N := by omega
    refine ⟨μ, ?_, fun i q1 q2 => absurd q1 (by omega), fun _ _ _ => rfl⟩
    simp (disch := omega) only [b_X6_begin_12, poI0 hX, some_bind, h0, nn_lt, natF, if_false]
  | succ k ih =>
    intro j fu μ h0 hj hf
    obtain ⟨fu, rfl⟩ : ∃ q, fu = q + 1 := ⟨fu - 1, by omega⟩
    obtain ⟨μ1, hμ1⟩ : ∃ q, q = (up2 (up2 (up2 μ (x + 159) (j) (0)) (x + 160) (j) (0)) (x + 161) (j) (0)) := ⟨_, rfl⟩
    obtain ⟨μ', r1, r2, r3⟩ := ih (j + 1) fu μ1 (by rw [hμ1]; simp (disch := omega) only [up2_ne, h0]) (by omega) (by omega)
    refine ⟨μ', ?_, ?_, ?_⟩
    · rw [← r1, hμ1]
      simp (disch := omega) only [b_X6_begin_12, poI0 hX, some_bind, h0, nn_lt, natT, if_true, poR2 hX, xSLea hX, poR3 hX, xSMos hX, poR4 hX, xSGat hX, nI_1]
    · intro i q1 q2
      by_cases hi : i = j
      · subst hi
        rw [r3 _ _ (by omega), r3 _ _ (by omega), r3 _ _ (by omega), hμ1]
        simp (disch := omega) only [up2_ne, up2_same, and_self]
      · exact r2 i (by omega) q2
    · intro a i q
      rw [r3 a i (by omega), hμ1]
      simp (disch := omega) only [up2_ne]
theorem k_begin49 (hX : ShX S x) : ∀ k j fu (μ : MU), j + k = 5 → k < fu → b_X6_begin_49 fu (some (x + 158)) (nI j) (mkH n st S μ) = some (mkH n st S (filR μ (x + 162) j 5 0)) := by
  intro k
  induction k with
  | zero =>
    intro j fu μ hj hf
    obtain ⟨fu, rfl⟩ : ∃ q, fu = q + 1 := ⟨fu - 1, by omega⟩
    obtain rfl : j = 5 := by omega
    rw [filR_nil]
    rfl
  | succ k ih =>
    intro j fu μ hj hf
    obtain ⟨fu, rfl⟩ : ∃ q, fu = q + 1 := ⟨fu - 1, by omega⟩
    simp (disch := omega) only [b_X6_begin_49, lit_lt, natT, if_true, poR5 hX, some_bind, xSThr hX, nI_1]
    rw [ih (j + 1) fu _ (by omega) (by omega), filR_up (by omega)]
theorem k_pbegin (hX : ShX S x) (hN : N ≤ 16) : ∃ μ', f_X6_begin (some (x + 158)) (nI N) (mkH n st S μ) = some (mkH n st S μ') ∧ PoOK μ' x N 0 (fun _ => 0) (fun _ => 0) (fun _ => 0) ∧ (∀ g, g < 5 → μ' (x + 162) g = 0) ∧ ∀ a i, ¬ (x + 158 ≤ a ∧ a ≤ x + 162) → μ' a i = μ a i := by
  obtain ⟨μ1, hμ1⟩ : ∃ q, q = (up2 (up2 μ (x + 158) (0) (nI N)) (x + 158) (1) (0)) := ⟨_, rfl⟩
  obtain ⟨fu, hfu, hfl⟩ : ∃ q, FU = q ∧ 301 < q := ⟨FU, rfl, by decide⟩
  obtain ⟨μ2, r1, r2, r3⟩ := k_begin12 (n := n) (st := st) hX hN N 0 fu μ1 (by rw [hμ1, up2_ne (by omega), up2_same]) (by omega) (by omega)
  have r4 := k_begin49 (n := n) (st := st) hX 5 0 fu μ2 (by omega) (by omega)
  refine ⟨filR μ2 (x + 162) 0 5 0, ?_, ⟨?_, ?_, ?_⟩, ?_, ?_⟩
  · rw [← r4]
    rw [hfu] at r1
    refine Eq.trans ?_ r1
    rw [hμ1, ← hfu]
    simp only [f_X6_begin, poP0 hX, poP1 hX, some_bind]
    rfl
  · rw [filR_ne (by omega), r3 _ _ (by omega), hμ1, up2_ne (by omega), up2_same]
  · rw [filR_ne (by omega), r3 _ _ (by omega), hμ1, up2_same]; rfl
  · intro i hi
    obtain ⟨q1, q2, q3⟩ := r2 i (by omega) hi
    rw [filR_ne (by omega), filR_ne (by omega), filR_ne (by omega)]
    exact ⟨q1, q2, q3⟩
  · intro g hg
    rw [filR_in (by omega) hg]
  · intro a i q
    rw [filR_ne (by omega), r3 _ _ (by omega), hμ1, up2_ne (by omega), up2_ne (by omega)]
end POLL
