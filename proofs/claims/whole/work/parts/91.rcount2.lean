section RCOUNT2
variable {n : Nat} {st : Nat → Nat} {S : SH} {μ : MU} {x b m c l : Nat} {D : DR} {N tot : Nat} {L M G : Nat → Nat}
/-- what the reference has counted of the first j sherds -/
def CtOK (μ : MU) (m : Nat) (D : DR) (g : Nat → Bool) (j : Nat) : Prop := μ m 22 = nI (cntB g j 0) ∧ (∀ i, i < nD D 2 → μ (m + 10) i = nI (cLs D g j i) ∧ μ (m + 11) i = nI (cMs D g j i)) ∧ ∀ s, s < j → μ (m + 12) s = bI (g s)
def FrC (m : Nat) (μ μ' : MU) : Prop := ∀ a j, ¬ (a = m ∧ ((11 ≤ j ∧ j ≤ 18) ∨ (22 ≤ j ∧ j ≤ 26))) → ¬ (m + 4 ≤ a ∧ a ≤ m + 12) → μ' a j = μ a j
theorem FrC.trans {μ' μ'' : MU} (h : FrC m μ μ') (h' : FrC m μ' μ'') : FrC m μ μ'' := fun a j q1 q2 => (h' a j q1 q2).trans (h a j q1 q2)
theorem surB_me (hI : Inv D) {s : Nat} : (hmS D s = 1) = (surB D s = true) := hm_one hI s
/-- the sherd j, its goodness known -/
theorem r_ct104 (hS : ShM S m) (hI : Inv D) (k35 : Option Nat → Int32 → Int32 → AH → Option AH) (x1 : Int32) {g : Nat → Bool} {j : Nat} (hj : j < nD D 5) (hD : μ (m + 1) = D) (hC : CtOK μ m D g j) : ∃ μ', b_X12_countAt_104 k35 (some m) x1 (nI j) (some (m + 12)) (nI j) (bI (g j)) (mkH n st S μ) = k35 (some m) x1 (nI (j + 1)) (mkH n st S μ') ∧ CtOK μ' m D g (j + 1) ∧ FrC m μ μ' := by
  obtain ⟨c1, c2, c3⟩ := hC
  have b5 := hI.shes.2
  have b2 := hI.men.2
  obtain ⟨μ1, hμ1⟩ : ∃ q, q = up2 μ (m + 12) j (bI (g j)) := ⟨_, rfl⟩
  have hf1 : ∀ a i, ¬ a = m + 12 → μ1 a i = μ a i := fun a i h => by rw [hμ1, up2_ne (by omega)]
  have sz := mS21 (n := n) (st := st) (μ := μ) (v := bI (g j)) hS (q := j) (by omega)
  have ba : bI (g j) &&& 1 = bI (g j) := bI_and1 _
  rw [ba, ← hμ1] at sz
  have rz := mA21 (n := n) (st := st) (μ := μ1) hS (q := j) (by omega)
  have e12 : μ1 (m + 12) j = bI (g j) := by rw [hμ1, up2_same]
  rw [e12] at rz
  cases hg : g j with
  | false =>
    refine ⟨μ1, ?_, ⟨?_, ?_, ?_⟩, fun a i q1 q2 => hf1 a i (by omega)⟩
    · rw [hg] at sz rz
      simp only [b_X12_countAt_104, sz, some_bind, mR21 hS, rz, bI_if0, Bool.false_eq_true, if_false, nI_1]
    · rw [hf1 _ _ (by omega), c1, cntB_snoc, Nat.zero_add, hg]; rfl
    · intro i hi
      rw [hf1 _ _ (by omega), hf1 _ _ (by omega)]
      obtain ⟨a1, a2⟩ := c2 i hi
      rw [a1, a2, cLs, cLs, cMs, cMs, cntB_snoc, cntB_snoc, Nat.zero_add, hg]
      exact ⟨rfl, rfl⟩
    · intro s hs
      by_cases e : s = j
      · subst e; exact e12
      · rw [hμ1, up2_ne (by omega)]; exact c3 s (by omega)
  | true =>
    obtain ⟨μ2, hμ2⟩ : ∃ q, q = up2 μ1 m 22 (nI (cntB g j 0 + 1)) := ⟨_, rfl⟩
    have hf2 : ∀ a i, ¬ a = m + 12 → ¬ (a = m ∧ i = 22) → μ2 a i = μ a i := fun a i h h' => by rw [hμ2, up2_ne h', hf1 a i h]
    have hD2 : μ2 (m + 1) = D := by funext q; rw [hf2 _ _ (by omega) (by omega), hD]
    obtain ⟨μ3, w1, w2⟩ := r_meant (n := n) (st := st) hS hD2 hI hj
    have hD3 : μ3 (m + 1) = D := by funext q; rw [w2 _ _ (by omega), hD2]
    obtain ⟨μ4, v1, v2⟩ := r_meaning (n := n) (st := st) hS hD3 hI hj
    have hD4 : μ4 (m + 1) = D := by funext q; rw [v2 _ _ (by omega), hD3]
    have hf4 : ∀ a i, ¬ (m + 4 ≤ a ∧ a ≤ m + 6) → ¬ a = m + 12 → ¬ (a = m ∧ i = 22) → μ4 a i = μ a i := fun a i h h1 h2 => by rw [v2 a i (by omega), w2 a i (by omega), hf2 a i h1 h2]
    obtain ⟨fu, hfu, hfl⟩ : ∃ q, FU = q ∧ 301 < q := ⟨FU, rfl, by decide⟩
    obtain ⟨μ5, u1, u2, u3⟩ := r_ct149 (n := n) (st := st) hS hI k35 (meS_lt hI j) (surB D j) x1 (nI j) (nD D 2) 0 fu μ4 (cLs D g j) (cMs D g j) hD4 (fun i hi => by rw [hf4 _ _ (by omega) (by omega) (by omega), hf4 _ _ (by omega) (by omega) (by omega)]; exact c2 i hi) (by omega) (by omega)
    refine ⟨μ5, ?_, ⟨?_, ?_, ?_⟩, fun a i q1 q2 => by rw [u3 a i (by omega) (by omega), hf4 a i (by omega) (by omega) (by omega)]⟩
    · rw [hg] at sz rz
      rw [nI_1] at u1
      rw [← u1, ← hfu]
      have b1 : ¬ bI true = 0 := by decide
      have e22 : μ1 m 22 = nI (cntB g j 0) := by rw [hf1 _ _ (by omega)]; exact c1
      simp only [b_X12_countAt_104, sz, some_bind, mR21 hS, rz, b1, if_false, mI22 hS, e22, nI_1, mP22 hS, ← hμ2, rck hS, w1, v1, surB_me hI]
      cases surB D j <;> rfl
    · rw [u3 _ _ (by omega) (by omega), v2 _ _ (by omega), w2 _ _ (by omega), hμ2, up2_same, cntB_snoc, Nat.zero_add, hg]; rfl
    · intro i hi
      obtain ⟨a1, a2⟩ := u2 i hi
      rw [a1, a2, cLs, cLs, cMs, cMs, cntB_snoc, cntB_snoc, Nat.zero_add, hg, Bool.true_and, Bool.true_and]
      refine ⟨?_, ?_⟩
      · simp only [Nat.zero_le, true_and]
        split <;> rfl
      · simp only [Nat.zero_le, true_and]
        split <;> rfl
    · intro s hs
      rw [u3 _ _ (by omega) (by omega), v2 _ _ (by omega), w2 _ _ (by omega), hμ2, up2_ne (by omega)]
      by_cases e : s = j
      · subst e; exact e12
      · rw [hμ1, up2_ne (by omega)]; exact c3 s (by omega)
theorem r_ct35 (hS : ShM S m) (hm : x ≤ m) (hI : Inv D) {μc : MU} {Lw : Nat} (hU : LawU μc Lw (lawT D) (lawN D)) (k : Int32) : ∀ q j fu (μ : MU), BaseOK st S μ x b → μ (m + 1) = D → CtOK μ m D (kgS D (lawT D) (lawN D) k) j → j + q = nD D 5 → q < fu → ∃ μ', b_X12_countAt_35 fu (some m) k (nI j) (mkH n st S μ) = (f_X12_rank (some m) (mkH n st S μ')).bind (fun h10 => b_X12_countAt_221 FU (some m) 0 0 h10) ∧ CtOK μ' m D (kgS D (lawT D) (lawN D) k) (nD D 5) ∧ FrC m μ μ' := by
  obtain ⟨e5, b5⟩ := hI.shes
  intro q
  induction q with
  | zero =>
    intro j fu μ hB hD hC hj hf
    obtain ⟨fu, rfl⟩ : ∃ q, fu = q + 1 := ⟨fu - 1, by omega⟩
    obtain rfl : j = nD D 5 := by omega
    refine ⟨μ, ?_, hC, fun _ _ _ _ => rfl⟩
    simp (disch := omega) only [b_X12_countAt_35, mR0 hS, some_bind, lit_aI, mA0 hS, hD, e5, nn_lt, natF, if_false, rck hS]
  | succ q ih =>
    intro j fu μ hB hD hC hj hf
    obtain ⟨fu, rfl⟩ : ∃ q, fu = q + 1 := ⟨fu - 1, by omega⟩
    have h5 : D 5 = nI (nD D 5) := e5
    obtain ⟨g, hg⟩ : ∃ g, g = kgS D (lawT D) (lawN D) k := ⟨_, rfl⟩
    rw [← hg] at hC ih ⊢
    have fin : ∀ μ1 : MU, FrC m μ μ1 → CtOK μ1 m D g j → b_X12_countAt_35 (fu + 1) (some m) k (nI j) (mkH n st S μ) = b_X12_countAt_104 (b_X12_countAt_35 fu) (some m) k (nI j) (some (m + 12)) (nI j) (bI (g j)) (mkH n st S μ1) → ∃ μ', b_X12_countAt_35 (fu + 1) (some m) k (nI j) (mkH n st S μ) = (f_X12_rank (some m) (mkH n st S μ')).bind (fun h10 => b_X12_countAt_221 FU (some m) 0 0 h10) ∧ CtOK μ' m D g (nD D 5) ∧ FrC m μ μ' := by
      intro μ1 hF1 hC1 he
      have hD1 : μ1 (m + 1) = D := by funext z; rw [hF1 _ _ (by omega) (by omega), hD]
      obtain ⟨μ2, r1, r2, r3⟩ := r_ct104 (n := n) (st := st) hS hI (b_X12_countAt_35 fu) k (show j < nD D 5 by omega) hD1 hC1
      have hF2 := hF1.trans r3
      obtain ⟨μ', w1, w2, w3⟩ := ih (j + 1) fu μ2 (hB.congr (fun _ _ => rfl) (fun a i h => hF2 a i (by omega) (by omega))) (by funext z; rw [hF2 _ _ (by omega) (by omega), hD]) r2 (by omega) (by omega)
      exact ⟨μ', he.trans (r1.trans w1), w2, hF2.trans w3⟩
    have hpre : b_X12_countAt_35 (fu + 1) (some m) k (nI j) (mkH n st S μ) = if knB D k j = true then b_X12_countAt_91 (b_X12_countAt_35 fu) (some m) k (nI j) (some (m + 12)) (nI j) (mkH n st S μ) else b_X12_countAt_104 (b_X12_countAt_35 fu) (some m) k (nI j) (some (m + 12)) (nI j) 0 (mkH n st S μ) := by
      simp (disch := omega) only [b_X12_countAt_35, mR0 hS, some_bind, lit_aI, mA0 hS, hD, mR21 hS, lit_add]
      rw [h5]
      simp (disch := omega) only [nn_lt, natT, if_true]
      unfold knB
      by_cases h1 : k < D (931 + j)
      · simp [h1]
      · by_cases h2 : D (971 + j) < 0
        · simp [h1, h2]
        · by_cases h3 : k < D (971 + j)
          · simp [h1, h2, h3]
          · simp [h1, h2, h3]
    cases hkn : knB D k j with
    | false =>
      have hgj : g j = false := by rw [hg, kgS, hkn]; rfl
      refine fin μ (fun _ _ _ _ => rfl) hC ?_
      rw [hpre, hkn, hgj]
      rfl
    | true =>
      obtain ⟨μ1, w1, w2⟩ := r_isGood (n := n) (st := st) (x := x) (b := b) hS hm hB hD hI hU (s := j) (by omega)
      have hgj : g j = gooS D (lawT D) (lawN D) j := by rw [hg, kgS, hkn]; rfl
      have hF1 : FrC m μ μ1 := fun a i q1 q2 => w2 a i (by omega) (by omega)
      refine fin μ1 hF1 ⟨by rw [w2 _ _ (by omega) (by omega)]; exact hC.1, fun i hi => by rw [w2 _ _ (by omega) (by omega), w2 _ _ (by omega) (by omega)]; exact hC.2.1 i hi, fun s hs => by rw [w2 _ _ (by omega) (by omega)]; exact hC.2.2 s hs⟩ ?_
      rw [hpre, hkn, hgj]
      simp only [if_true, b_X12_countAt_91, rck hS, w1, some_bind]
      cases gooS D (lawT D) (lawN D) j <;> rfl
theorem pop_one : ∀ k a, a < 2 ^ k → popN k a = 1 → ∃ j, j < k ∧ a = 2 ^ j := by
  intro k
  induction k with
  | zero => intro a _ h; simp [popN] at h
  | succ k ih =>
    intro a ha h
    rw [popN] at h
    have h2 : a / 2 < 2 ^ k := by rw [Nat.pow_succ] at ha; omega
    by_cases h0 : a % 2 = 0
    · obtain ⟨j, hj, e⟩ := ih (a / 2) h2 (by omega)
      exact ⟨j + 1, by omega, by rw [Nat.pow_succ, ← e]; omega⟩
    · have : popN k (a / 2) = 0 := by omega
      have := (popN_zero k (a / 2) h2).mp this
      exact ⟨0, by omega, by omega⟩
theorem sure_bit (hI : Inv D) {s f : Nat} (hs : surB D s = true) : ((meS D s).testBit f = true) = (meS D s = 2 ^ f) := by
  have h1 : popN 16 (exN D s) = 1 := of_decide_eq_true hs
  have h2 : ¬ exN D s = 0 := fun h => by have := (popN_zero 16 _ (exN_lt hI s)).mpr h; omega
  have hme : meS D s = exN D s := by rw [meS, if_neg h2]
  rw [hme]
  obtain ⟨j, hj, e⟩ := pop_one 16 _ (exN_lt hI s) h1
  rw [e, Nat.testBit_two_pow]
  apply propext
  constructor
  · intro h
    rw [of_decide_eq_true h]
  · intro h
    exact decide_eq_true ((Nat.pow_right_inj (by omega)).mp h)
/-- the gates of those that are sure of the first -/
theorem r_ct221 (hS : ShM S m) (hm : x ≤ m) (hI : Inv D) {μc : MU} {Lw : Nat} (hU : LawU μc Lw (lawT D) (lawN D)) {g : Nat → Bool} {f : Int32} (hfr : isO f (nD D 2)) {tot se : Nat} (hL : ∀ i, i < nD D 2 → L i < 2 ^ 30) : ∀ k j fu (μ : MU), BaseOK st S μ x b → μ (m + 1) = D → (∀ s, s < nD D 5 → μ (m + 12) s = bI (g s)) → μ m 22 = nI tot → μ m 23 = f → μ m 24 = nI se → (∀ i, i < nD D 2 → μ (m + 10) i = nI (L i)) → j + k = nD D 5 → k < fu → ∃ μ', b_X12_countAt_221 fu (some m) (nI (if f < 0 then 0 else cGs D g j f.toNatClampNeg)) (nI j) (mkH n st S μ) = some (mkH n st S μ') ∧ μ' m 25 = nI (trN (cGs D g (nD D 5)) f) ∧ μ' m 26 = (if (decide (0 < leN L f) && enoS (lawT D) (lawN D) (nI tot) (nI (leN L f)) (nI se) (nI (trN (cGs D g (nD D 5)) f))) then f else -1) ∧ ∀ a i, ¬ (a = m ∧ ((11 ≤ i ∧ i ≤ 18) ∨ i = 25 ∨ i = 26)) → ¬ (m + 4 ≤ a ∧ a ≤ m + 9) → μ' a i = μ a i := by
  obtain ⟨e5, b5⟩ := hI.shes
  have b2 := hI.men.2
  have hGl : ∀ j i, j ≤ nD D 5 → cGs D g j i < 2 ^ 5 := fun j i hj => orK_lt j fun s hs => by
    split
    · exact gbS_lt hI (by omega)
    · exact Nat.two_pow_pos 5
  intro k
  induction k with
  | zero =>
    intro j fu μ hB hD hgo h22 h23 h24 hR hj hf
    obtain ⟨fu, rfl⟩ : ∃ q, fu = q + 1 := ⟨fu - 1, by omega⟩
    obtain rfl : j = nD D 5 := by omega
    obtain ⟨gt, hgt⟩ : ∃ gt, gt = (if f < 0 then 0 else cGs D g (nD D 5) f.toNatClampNeg) := ⟨_, rfl⟩
    have hgl : gt < 2 ^ 16 := by
      rw [hgt]; split
      · omega
      · exact Nat.lt_of_lt_of_le (hGl _ _ (Nat.le_refl _)) (by decide)
    have htr : trN (cGs D g (nD D 5)) f = popN 16 gt := by
      rw [hgt, trN]
      by_cases h0 : f < 0
      · rw [if_pos h0, if_pos h0]; rfl
      · rw [if_neg h0, if_neg h0]
    rw [← hgt, htr]
    have rB := r_bits hgl (mkH n st S μ)
    obtain ⟨pt, hpt⟩ : ∃ pt, pt = popN 16 gt := ⟨_, rfl⟩
    rw [← hpt] at rB ⊢
    obtain ⟨μ1, hμ1⟩ : ∃ q, q = up2 μ m 25 (nI pt) := ⟨_, rfl⟩
    have hf1 : ∀ a i, ¬ (a = m ∧ i = 25) → μ1 a i = μ a i := fun a i h => by rw [hμ1, up2_ne h]
    have rL := r_leastOfFirst (n := n) (st := st) (μ := μ1) hS b2 (L := L) (fun i hi => by rw [hf1 _ _ (by omega)]; exact hR i hi) (f := f) (by rw [hf1 _ _ (by omega)]; exact h23) hfr
    have g22 : μ1 m 22 = nI tot := by rw [hf1 _ _ (by omega)]; exact h22
    have g24 : μ1 m 24 = nI se := by rw [hf1 _ _ (by omega)]; exact h24
    have g25 : μ1 m 25 = nI pt := by rw [hμ1, up2_same]
    have hx : b_X12_countAt_221 (fu + 1) (some m) (nI gt) (nI (nD D 5)) (mkH n st S μ) = if 0 < nI (leN L f) then (f_X12_isEnough (some m) (nI tot) (nI (leN L f)) (nI se) (nI pt) (mkH n st S μ1)).bind (fun p16 => if p16.1 = 0 then b_X12_countAt_367 (some m) (-1) p16.2 else (gI 12 23 p16.2 (some m)).bind fun v17 => b_X12_countAt_367 (some m) v17 p16.2) else b_X12_countAt_367 (some m) (-1) (mkH n st S μ1) := by
      simp (disch := omega) only [b_X12_countAt_221, mR0 hS, some_bind, lit_aI, mA0 hS, hD, e5, nn_lt, natF, if_false, rB, mP25 hS, ← hμ1, rck hS, rL, mI22 hS, g22, mI24 hS, g24, mI25 hS, g25]
    rw [hx]
    have hlb : leN L f < 2 ^ 30 := by
      unfold leN
      split
      · omega
      · rename_i h0
        rcases hfr with h | ⟨q, q1, q2⟩
        · rw [h] at h0; exact absurd (by decide) h0
        · rw [q2, nI_clamp (by omega)]; exact hL q q1
    by_cases h0 : 0 < leN L f
    · have n0 : (0 : Int32) < nI (leN L f) := nI_lt (a := 0) h0 (by omega)
      obtain ⟨μ2, w1, w2⟩ := r_isEnough (n := n) (st := st) (x := x) (b := b) (μ := μ1) hS hm (hB.congr (fun _ _ => rfl) (fun a i h => hf1 a i (by omega))) (by funext q; rw [hf1 _ _ (by omega), hD]) hI hU (nI tot) (nI (leN L f)) (nI se) (nI pt)
      rw [if_pos n0, w1, some_bind]
      have h232 : μ2 m 23 = f := by rw [w2 _ _ (by omega) (by omega), hf1 _ _ (by omega)]; exact h23
      have fin : ∀ v, b_X12_countAt_367 (some m) v (mkH n st S μ2) = some (mkH n st S (up2 μ2 m 26 v)) := fun v => by simp only [b_X12_countAt_367, mP26 hS, some_bind]
      cases hen : enoS (lawT D) (lawN D) (nI tot) (nI (leN L f)) (nI se) (nI pt) with
      | false =>
        refine ⟨up2 μ2 m 26 (-1), fin _, by rw [up2_ne (by omega), w2 _ _ (by omega) (by omega)]; exact g25, by rw [up2_same]; simp, fun a i q1 q2 => by rw [up2_ne (by omega), w2 a i (by omega) (by omega), hf1 a i (by omega)]⟩
      | true =>
        have b1 : ¬ bI true = 0 := by decide
        refine ⟨up2 μ2 m 26 f, ?_, by rw [up2_ne (by omega), w2 _ _ (by omega) (by omega)]; exact g25, by rw [up2_same]; simp [h0], fun a i q1 q2 => by rw [up2_ne (by omega), w2 a i (by omega) (by omega), hf1 a i (by omega)]⟩
        simp only [b1, if_false, mI23 hS, h232, some_bind, fin]
    · have n0 : ¬ (0 : Int32) < nI (leN L f) := by
        have : leN L f = 0 := by omega
        rw [this]; decide
      refine ⟨up2 μ1 m 26 (-1), ?_, by rw [up2_ne (by omega)]; exact g25, by rw [up2_same]; simp [h0], fun a i q1 q2 => by rw [up2_ne (by omega), hf1 a i (by omega)]⟩
      rw [if_neg n0]
      simp only [b_X12_countAt_367, mP26 hS, some_bind]
  | succ k ih =>
    intro j fu μ hB hD hgo h22 h23 h24 hR hj hf
    obtain ⟨fu, rfl⟩ : ∃ q, fu = q + 1 := ⟨fu - 1, by omega⟩
    have h5 : D 5 = nI (nD D 5) := e5
    have fin : ∀ (μ1 : MU) (q : Bool), FrA m μ μ1 → (if f < 0 then false else g j && (surB D j && (meS D j).testBit f.toNatClampNeg)) = q → ∃ μ', b_X12_countAt_275 (b_X12_countAt_221 fu) (some m) (nI (if f < 0 then 0 else cGs D g j f.toNatClampNeg)) (nI j) (bI q) (mkH n st S μ1) = some (mkH n st S μ') ∧ μ' m 25 = nI (trN (cGs D g (nD D 5)) f) ∧ μ' m 26 = (if (decide (0 < leN L f) && enoS (lawT D) (lawN D) (nI tot) (nI (leN L f)) (nI se) (nI (trN (cGs D g (nD D 5)) f))) then f else -1) ∧ ∀ a i, ¬ (a = m ∧ ((11 ≤ i ∧ i ≤ 18) ∨ i = 25 ∨ i = 26)) → ¬ (m + 4 ≤ a ∧ a ≤ m + 9) → μ' a i = μ a i := by
      intro μ1 q hF1 hq
      have hD1 : μ1 (m + 1) = D := by funext z; rw [hF1 _ _ (by omega), hD]
      obtain ⟨μ', r1, r2, r3, r4⟩ := ih (j + 1) fu μ1 (hB.congr (fun _ _ => rfl) (fun a i h => hF1 a i (by omega))) hD1 (fun s hs => by rw [hF1 _ _ (by omega)]; exact hgo s hs) (by rw [hF1 _ _ (by omega)]; exact h22) (by rw [hF1 _ _ (by omega)]; exact h23) (by rw [hF1 _ _ (by omega)]; exact h24) (fun i hi => by rw [hF1 _ _ (by omega)]; exact hR i hi) (by omega) (by omega)
      refine ⟨μ', ?_, r2, r3, fun a i q1 q2 => by rw [r4 a i q1 q2, hF1 a i (by omega)]⟩
      rw [← r1]
      have hstep : (if f < 0 then 0 else cGs D g (j + 1) f.toNatClampNeg) = (if f < 0 then 0 else cGs D g j f.toNatClampNeg) ||| (if q then gbS D j else 0) := by
        by_cases h0 : f < 0
        · rw [if_pos h0] at hq ⊢
          rw [if_pos h0, ← hq]; simp
        · rw [if_neg h0] at hq ⊢
          rw [if_neg h0, ← hq]; rfl
      rw [hstep, ← orN]
      have g275 : b_X12_countAt_275 (b_X12_countAt_221 fu) (some m) (nI (if f < 0 then 0 else cGs D g j f.toNatClampNeg)) (nI j) (bI q) (mkH n st S μ1) = b_X12_countAt_312 (b_X12_countAt_221 fu) (some m) (nI j) (nI (if f < 0 then 0 else cGs D g j f.toNatClampNeg)) (nI (if q then gbS D j else 0)) (mkH n st S μ1) := by
        cases q with
        | false => simp only [b_X12_countAt_275, bI_if0, Bool.false_eq_true, if_false]; rfl
        | true =>
          have b1 : ¬ bI true = 0 := by decide
          simp (disch := omega) only [b_X12_countAt_275, b1, if_false, mR0 hS, some_bind, lit_add, mA0 hS, hD1, if_true]
          unfold gbS
          rcases hI.sGate j (by omega) with h | ⟨gg, hgg, h⟩
          · have h0 : D (771 + j) < 0 := by rw [h]; decide
            rw [if_pos h0, if_pos h0]; rfl
          · have h0 : ¬ D (771 + j) < 0 := by rw [h]; exact nI_pos (by omega)
            rw [if_neg h0, if_neg h0, nD_of h (by omega), h, shl1 (by omega)]
      rw [g275]
      simp only [b_X12_countAt_312, nI_1]
    have hgj := hgo j (by omega)
    have rz := mA21 (n := n) (st := st) (μ := μ) hS (q := j) (by omega)
    rw [hgj] at rz
    cases hg : g j with
    | false =>
      rw [hg] at rz
      obtain ⟨μ', r1, r2⟩ := fin μ false (fun _ _ _ => rfl) (by rw [hg]; simp)
      refine ⟨μ', ?_, r2⟩
      rw [← r1]
      simp (disch := omega) only [b_X12_countAt_221, mR0 hS, some_bind, lit_aI, mA0 hS, hD, mR21 hS, rz, bI_if0, Bool.false_eq_true, if_false]
      rw [h5]
      simp (disch := omega) only [nn_lt, natT, if_true]
      rfl
    | true =>
      rw [hg] at rz
      have b1 : ¬ bI true = 0 := by decide
      by_cases h0 : f < 0
      · obtain ⟨μ', r1, r2⟩ := fin μ false (fun _ _ _ => rfl) (by rw [if_pos h0])
        refine ⟨μ', ?_, r2⟩
        rw [← r1]
        simp (disch := omega) only [b_X12_countAt_221, mR0 hS, some_bind, lit_aI, mA0 hS, hD, mR21 hS, rz, b1, if_false, mI23 hS, h23, h0, if_true]
        rw [h5]
        simp (disch := omega) only [nn_lt, natT, if_true]
        rfl
      · obtain ⟨fq, fq1, rfl⟩ : ∃ q, q < nD D 2 ∧ f = nI q := by
          rcases hfr with h | h
          · rw [h] at h0; exact absurd (by decide) h0
          · exact h
        obtain ⟨μ3, w1, w2⟩ := r_meaning (n := n) (st := st) hS hD hI (s := j) (by omega)
        have hD3 : μ3 (m + 1) = D := by funext z; rw [w2 _ _ (by omega), hD]
        have hpre : b_X12_countAt_221 (fu + 1) (some m) (nI (if nI fq < 0 then 0 else cGs D g j (nI fq).toNatClampNeg)) (nI j) (mkH n st S μ) = if hmS D j = 1 then (f_X12_meant (some m) (nI j) (mkH n st S μ3)).bind (fun p7 => (gI 12 23 p7.2 (some m)).bind fun v8 => if p7.1 = (1 <<< (v8 &&& 31)) then b_X12_countAt_275 (b_X12_countAt_221 fu) (some m) (nI (if nI fq < 0 then 0 else cGs D g j (nI fq).toNatClampNeg)) (nI j) 1 p7.2 else b_X12_countAt_275 (b_X12_countAt_221 fu) (some m) (nI (if nI fq < 0 then 0 else cGs D g j (nI fq).toNatClampNeg)) (nI j) 0 p7.2) else b_X12_countAt_275 (b_X12_countAt_221 fu) (some m) (nI (if nI fq < 0 then 0 else cGs D g j (nI fq).toNatClampNeg)) (nI j) 0 (mkH n st S μ3) := by
          obtain ⟨gt, hgt⟩ : ∃ gt, gt = (if nI fq < 0 then 0 else cGs D g j (nI fq).toNatClampNeg) := ⟨_, rfl⟩
          rw [← hgt]
          simp (disch := omega) only [b_X12_countAt_221, mR0 hS, some_bind, lit_aI, mA0 hS, hD, mR21 hS, rz, b1, if_false, mI23 hS, h23, h0, rck hS, w1]
          rw [h5]
          simp (disch := omega) only [nn_lt, natT, if_true]
        rw [hpre]
        by_cases hsu : surB D j = true
        · rw [if_pos (show hmS D j = 1 by rw [surB_me hI]; exact hsu)]
          obtain ⟨μ4, v1, v2⟩ := r_meant (n := n) (st := st) hS hD3 hI (s := j) (by omega)
          have h234 : μ4 m 23 = nI fq := by rw [v2 _ _ (by omega), w2 _ _ (by omega)]; exact h23
          have hsb := sure_bit hI (f := fq) hsu
          have hml := meS_lt hI j
          have hfl2 : 2 ^ fq < 2 ^ 31 := Nat.pow_lt_pow_right (by omega) (by omega)
          rw [v1]
          simp (disch := omega) only [some_bind, mI23 hS, h234, shl1]
          by_cases hb : (meS D j).testBit fq = true
          · have hbe : meS D j = 2 ^ fq := by rw [← hsb]; exact hb
            rw [if_pos (by rw [hbe])]
            exact fin μ4 true (fun a i h => by rw [v2 a i h, w2 a i h]) (by rw [if_neg h0, hg, hsu, nI_clamp (by omega), hb]; rfl)
          · have hbe : ¬ meS D j = 2 ^ fq := by rw [← hsb]; exact hb
            rw [if_neg (fun h => hbe ((nI_eq (by omega) hfl2).mp h))]
            exact fin μ4 false (fun a i h => by rw [v2 a i h, w2 a i h]) (by rw [if_neg h0, nI_clamp (by omega)]; simp [hb])
        · rw [if_neg (show ¬ hmS D j = 1 by rw [surB_me hI]; exact hsu)]
          exact fin μ3 false w2 (by rw [if_neg h0]; simp [hsu])
end RCOUNT2
