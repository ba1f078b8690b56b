-- ===== the class counts the sherds that are known =====
def gbS (D : DR) (s : Nat) : Nat := if D (771 + s) < 0 then 0 else 2 ^ nD D (771 + s)
def knB (D : DR) (k : Int32) (s : Nat) : Bool := decide (¬ k < D (931 + s)) && (decide (D (971 + s) < 0) || decide (k < D (971 + s)))
def kgS (D : DR) (T : Nat → Int32) (Nt : Nat) (k : Int32) (s : Nat) : Bool := knB D k s && gooS D T Nt s
def cLs (D : DR) (g : Nat → Bool) (j i : Nat) : Nat := cntB (fun s => g s && (surB D s && (meS D s).testBit i)) j 0
def cMs (D : DR) (g : Nat → Bool) (j i : Nat) : Nat := cntB (fun s => g s && (meS D s).testBit i) j 0
def cGs (D : DR) (g : Nat → Bool) (j i : Nat) : Nat := orK (fun s => if g s && (surB D s && (meS D s).testBit i) then gbS D s else 0) j
def cTh (D : DR) (g : Nat → Bool) (j h : Nat) : Nat := cntB (fun s => g s && decide (D (771 + s) = nI h)) j 0
def ThOK (μ : MU) (x : Nat) (th : Nat → Nat) : Prop := ∀ h, h < 5 → μ (x + 162) h = nI (th h)
section COUNT
variable {n : Nat} {st : Nat → Nat} {S : SH} {μ : MU} {x b m c l : Nat} {D : DR} {N tot : Nat} {L M G : Nat → Nat} {T : Nat → Int32} {Nt : Nat}
theorem PoOK.ext {L' M' G' : Nat → Nat} (h : PoOK μ x N tot L M G) (hL : ∀ i, i < N → L i = L' i) (hM : ∀ i, i < N → M i = M' i) (hG : ∀ i, i < N → G i = G' i) : PoOK μ x N tot L' M' G' :=
  ⟨h.1, h.2.1, fun i hi => by rw [← hL i hi, ← hM i hi, ← hG i hi]; exact h.2.2 i hi⟩
theorem gbS_lt (hI : Inv D) {s : Nat} (h5 : s < nD D 5) : gbS D s < 2 ^ 5 := by
  unfold gbS
  rcases hI.sGate s h5 with h | ⟨k, hk, h⟩
  · rw [h, if_pos (by decide)]; omega
  · rw [nD_of h (by omega)]
    split
    · exact Nat.two_pow_pos 5
    · exact Nat.pow_lt_pow_right (by omega) hk
theorem k_gateBit (hC : ShC S c) (hs : Sim μ c D) (hI : Inv D) {s : Nat} (h5 : s < nD D 5) : f_X8_gateBit (some (c + 78 + s)) (mkH n st S μ) = some (nI (gbS D s)) := by
  have b5 := hI.shes.2
  have q3 := hs.she s 3 h5 (by omega)
  simp only [Nat.reduceMul, Nat.reduceAdd] at q3
  unfold gbS
  rcases hI.sGate s h5 with h | ⟨k, hk, h⟩
  · have h0 : D (771 + s) < 0 := by rw [h]; decide
    simp (disch := omega) only [f_X8_gateBit, oSheI hC, some_bind, q3, h0, if_true]
    rfl
  · have h0 : ¬ D (771 + s) < 0 := by rw [h]; exact nI_pos (by omega)
    rw [if_neg h0, nD_of h (by omega)]
    rw [h] at q3 h0
    simp (disch := omega) only [f_X8_gateBit, oSheI hC, some_bind, q3, h0, if_false, shl1]
theorem k_isKnown (hC : ShC S c) (hs : Sim μ c D) (hI : Inv D) {s : Nat} (h5 : s < nD D 5) (k : Int32) : f_X8_isKnown (some (c + 78 + s)) k (mkH n st S μ) = some (bI (knB D k s)) := by
  have b5 := hI.shes.2
  have q7 := hs.she s 7 h5 (by omega)
  have q8 := hs.she s 8 h5 (by omega)
  simp only [Nat.reduceMul, Nat.reduceAdd] at q7 q8
  unfold knB
  simp (disch := omega) only [f_X8_isKnown, oSheI hC, some_bind, q7, q8]
  by_cases h1 : k < D (931 + s)
  · simp [h1, bI]
  · by_cases h2 : D (971 + s) < 0
    · simp [h1, h2, bI]
    · by_cases h3 : k < D (971 + s)
      · simp [h1, h2, h3, bI]
      · simp [h1, h2, h3, bI]
theorem bI_if0 {α : Type} (q : Bool) (A B : α) : (if bI q = 0 then A else B) = if q then B else A := ite_bI0 q A B
theorem k_addS43 (hX : ShX S x) (hN : N ≤ 16) {me gb sa : Nat} (hme : me < 2 ^ 16) (sur : Bool) (μ0 : MU) (hg : ∀ μ' : MU, (∀ a j, ¬ (x + 158 ≤ a ∧ a ≤ x + 162) → μ' a j = μ0 a j) → ck 8 (mkH n st S μ') (some sa) (f_X8_gateBit (some sa) (mkH n st S μ')) = some (nI gb)) :
    ∀ k j fu (μ : MU) (L M G : Nat → Nat), (∀ a j, ¬ (x + 158 ≤ a ∧ a ≤ x + 162) → μ a j = μ0 a j) → PoOK μ x N tot L M G → j + k = N → k < fu → ∃ μ', b_X6_addSherd_43 fu (some (x + 158)) (some sa) (nI me) (bI sur) (nI j) (mkH n st S μ) = some (mkH n st S μ') ∧ PoOK μ' x N tot (fun i => if j ≤ i ∧ (sur && me.testBit i) = true then L i + 1 else L i) (fun i => if j ≤ i ∧ me.testBit i = true then M i + 1 else M i) (fun i => if j ≤ i ∧ (sur && me.testBit i) = true then G i ||| gb else G i) ∧ ∀ a i, ¬ (x + 159 ≤ a ∧ a ≤ x + 161) → μ' a i = μ a i := by
  intro k
  induction k with
  | zero =>
    intro j fu μ L M G hF hP hj hf
    obtain ⟨fu, rfl⟩ : ∃ q, fu = q + 1 := ⟨fu - 1, by omega⟩
    obtain rfl : j = N := by omega
    refine ⟨μ, ?_, hP.ext (fun i hi => by rw [if_neg (fun h => by omega)]) (fun i hi => by rw [if_neg (fun h => by omega)]) (fun i hi => by rw [if_neg (fun h => by omega)]), fun _ _ _ => rfl⟩
    simp (disch := omega) only [b_X6_addSherd_43, poI0 hX, some_bind, hP.1, nn_lt, natF, if_false]
  | succ k ih =>
    intro j fu μ L M G hF hP hj hf
    obtain ⟨fu, rfl⟩ : ∃ q, fu = q + 1 := ⟨fu - 1, by omega⟩
    obtain ⟨p1, p2, p3⟩ := hP
    obtain ⟨pl, pm, pg⟩ := p3 j (by omega)
    have ht := tstN (a := me) (k := j) (by omega) (by omega)
    have hP : PoOK μ x N tot L M G := ⟨p1, p2, p3⟩
    cases hb : me.testBit j with
    | false =>
      rw [hb] at ht
      obtain ⟨μ', r1, r2, r3⟩ := ih (j + 1) fu μ L M G hF hP (by omega) (by omega)
      refine ⟨μ', ?_, r2.ext ?_ ?_ ?_, r3⟩
      · rw [← r1]
        simp (disch := omega) only [b_X6_addSherd_43, poI0 hX, some_bind, p1, nn_lt, natT, if_true, ht, bI_if0, Bool.false_eq_true, if_false, nI_1]
      all_goals
        intro i hi
        by_cases hij : i = j
        · subst hij
          simp only [hb, Bool.and_false, Bool.false_eq_true, and_false, if_false]
        · have : (j + 1 ≤ i) = (j ≤ i) := propext ⟨fun h => by omega, fun h => by omega⟩
          simp only [this]
    | true =>
      rw [hb] at ht
      cases sur with
      | false =>
        obtain ⟨μ1, hμ1⟩ : ∃ q, q = up2 μ (x + 160) j (nI (M j + 1)) := ⟨_, rfl⟩
        have hP1 : PoOK μ1 x N tot L (fun i => if i = j then M i + 1 else M i) G := by
          refine ⟨by rw [hμ1, up2_ne (by omega)]; exact p1, by rw [hμ1, up2_ne (by omega)]; exact p2, fun i hi => ?_⟩
          obtain ⟨a1, a2, a3⟩ := p3 i hi
          rw [hμ1]
          by_cases hij : i = j
          · subst hij
            simp (disch := omega) only [up2_ne, up2_same, if_true, a1, a3, and_self]
          · simp (disch := omega) only [up2_ne, hij, if_false, a1, a2, a3, and_self]
        obtain ⟨μ', r1, r2, r3⟩ := ih (j + 1) fu μ1 _ _ _ (fun a i h => by rw [hμ1, up2_ne (by omega)]; exact hF a i h) hP1 (by omega) (by omega)
        refine ⟨μ', ?_, r2.ext ?_ ?_ ?_, fun a i h => by rw [r3 a i h, hμ1, up2_ne (by omega)]⟩
        · rw [← r1, hμ1]
          simp (disch := omega) only [b_X6_addSherd_43, poI0 hX, some_bind, p1, nn_lt, natT, if_true, ht, bI_if0, poR3 hX, xAMos hX, pm, nI_1, xSMos hX, Bool.false_eq_true, if_false]
        · intro i hi; simp only [Bool.false_and, Bool.false_eq_true, and_false, if_false]
        · intro i hi
          by_cases hij : i = j
          · subst hij
            rw [if_neg (fun h => by omega), if_pos rfl, if_pos ⟨Nat.le_refl _, hb⟩]
          · have : (j + 1 ≤ i) = (j ≤ i) := propext ⟨fun h => by omega, fun h => by omega⟩
            simp only [this, hij, if_false]
        · intro i hi; simp only [Bool.false_and, Bool.false_eq_true, and_false, if_false]
      | true =>
        obtain ⟨μ1, hμ1⟩ : ∃ q, q = up2 (up2 (up2 μ (x + 160) j (nI (M j + 1))) (x + 159) j (nI (L j + 1))) (x + 161) j (nI (G j ||| gb)) := ⟨_, rfl⟩
        have hP1 : PoOK μ1 x N tot (fun i => if i = j then L i + 1 else L i) (fun i => if i = j then M i + 1 else M i) (fun i => if i = j then G i ||| gb else G i) := by
          refine ⟨by rw [hμ1]; simp (disch := omega) only [up2_ne, p1], by rw [hμ1]; simp (disch := omega) only [up2_ne, p2], fun i hi => ?_⟩
          obtain ⟨a1, a2, a3⟩ := p3 i hi
          rw [hμ1]
          by_cases hij : i = j
          · subst hij
            simp (disch := omega) only [up2_ne, up2_same, if_true, and_self]
          · simp (disch := omega) only [up2_ne, hij, if_false, a1, a2, a3, and_self]
        obtain ⟨μ', r1, r2, r3⟩ := ih (j + 1) fu μ1 _ _ _ (fun a i h => by rw [hμ1]; simp (disch := omega) only [up2_ne]; exact hF a i h) hP1 (by omega) (by omega)
        refine ⟨μ', ?_, r2.ext ?_ ?_ ?_, fun a i h => by rw [r3 a i h, hμ1]; simp (disch := omega) only [up2_ne]⟩
        · rw [← r1, hμ1]
          have hgb := hg (up2 (up2 μ (x + 160) j (nI (M j + 1))) (x + 159) j (nI (L j + 1))) (fun a i h => by rw [up2_ne (by omega), up2_ne (by omega)]; exact hF a i h)
          have pl' : up2 μ (x + 160) j (nI (M j + 1)) (x + 159) j = nI (L j) := by rw [up2_ne (by omega)]; exact pl
          have pg' : up2 (up2 μ (x + 160) j (nI (M j + 1))) (x + 159) j (nI (L j + 1)) (x + 161) j = nI (G j) := by rw [up2_ne (by omega), up2_ne (by omega)]; exact pg
          have b1 : ¬ bI true = 0 := by decide
          simp (disch := omega) only [b_X6_addSherd_43, poI0 hX, some_bind, p1, nn_lt, natT, if_true, ht, b1, if_false, poR3 hX, xAMos hX, pm, nI_1, xSMos hX, poR2 hX, xALea hX, pl', xSLea hX, poR4 hX, xAGat hX, pg', hgb, orN, xSGat hX]
        all_goals
          intro i hi
          by_cases hij : i = j
          · subst hij
            simp only [hb, Bool.true_and, and_true, if_true, Nat.le_refl]
            rw [if_neg (by omega)]
          · have : (j + 1 ≤ i) = (j ≤ i) := propext ⟨fun h => by omega, fun h => by omega⟩
            simp only [this, hij, if_false]
theorem k_paddSherd (hX : ShX S x) (hs : Sim μ (x + 1) D) (hI : Inv D) {s : Nat} (h5 : s < nD D 5) {th : Nat → Nat} (hP : PoOK μ x (nD D 2) tot L M G) (hT : ThOK μ x th) : ∃ μ', f_X6_addSherd (some (x + 158)) (some (x + 1 + 78 + s)) (mkH n st S μ) = some (mkH n st S μ') ∧ PoOK μ' x (nD D 2) (tot + 1) (fun i => if (surB D s && (meS D s).testBit i) = true then L i + 1 else L i) (fun i => if (meS D s).testBit i = true then M i + 1 else M i) (fun i => if (surB D s && (meS D s).testBit i) = true then G i ||| gbS D s else G i) ∧ ThOK μ' x (fun h => if D (771 + s) = nI h then th h + 1 else th h) ∧ ∀ a i, ¬ (x + 158 ≤ a ∧ a ≤ x + 162) → μ' a i = μ a i := by
  have hC := hX.city
  have b5 := hI.shes.2
  have b2 := hI.men.2
  obtain ⟨p1, p2, p3⟩ := hP
  have q3 := hs.she s 3 h5 (by omega)
  simp only [Nat.reduceMul, Nat.reduceAdd] at q3
  obtain ⟨fu, hfu, hfl⟩ : ∃ q, FU = q ∧ 301 < q := ⟨FU, rfl, by decide⟩
  have main : ∀ μ1 : MU, (∀ a j, ¬ (x + 158 ≤ a ∧ a ≤ x + 162) → μ1 a j = μ a j) → PoOK μ1 x (nD D 2) (tot + 1) L M G → ∃ μ', b_X6_addSherd_30 (some (x + 158)) (some (x + 1 + 78 + s)) (mkH n st S μ1) = some (mkH n st S μ') ∧ PoOK μ' x (nD D 2) (tot + 1) (fun i => if (surB D s && (meS D s).testBit i) = true then L i + 1 else L i) (fun i => if (meS D s).testBit i = true then M i + 1 else M i) (fun i => if (surB D s && (meS D s).testBit i) = true then G i ||| gbS D s else G i) ∧ ∀ a i, ¬ (x + 159 ≤ a ∧ a ≤ x + 161) → μ' a i = μ1 a i := by
    intro μ1 hF hP1
    have hs1 : Sim μ1 (x + 1) D := Sim.frX hI hs (fun a j h _ _ => hF a j (by omega))
    obtain ⟨μ', r1, r2, r3⟩ := k_addS43 (n := n) (st := st) hX b2 (sa := x + 1 + 78 + s) (meS_lt hI s) (surB D s) μ (gb := gbS D s) (fun μ' h => by
      rw [oSheK hC (by omega)]
      exact k_gateBit hC (Sim.frX hI hs (fun a j q _ _ => h a j (by omega))) hI h5) (nD D 2) 0 fu μ1 L M G hF hP1 (by omega) (by omega)
    refine ⟨μ', ?_, r2.ext ?_ ?_ ?_, r3⟩
    · have kM := k_meant (n := n) (st := st) hC hs1 hI h5
      have kS := k_isSure (n := n) (st := st) hC hs1 hI h5
      rw [← r1, ← hfu]
      simp (disch := omega) only [b_X6_addSherd_30, oSheK hC, kM, kS, some_bind]
      rfl
    all_goals intro i hi; simp only [Nat.zero_le, true_and]
  by_cases h0 : D (771 + s) < 0
  · obtain ⟨μ1, hμ1⟩ : ∃ q, q = up2 μ (x + 158) 1 (nI (tot + 1)) := ⟨_, rfl⟩
    have hF : ∀ a j, ¬ (a = x + 158) → μ1 a j = μ a j := fun a j h => by rw [hμ1, up2_ne (by omega)]
    obtain ⟨μ', r1, r2, r3⟩ := main μ1 (fun a j h => hF a j (by omega)) ⟨by rw [hμ1, up2_ne (by omega)]; exact p1, by rw [hμ1, up2_same], fun i hi => by rw [hF _ _ (by omega), hF _ _ (by omega), hF _ _ (by omega)]; exact p3 i hi⟩
    refine ⟨μ', ?_, r2, ?_, fun a i h => by rw [r3 a i (by omega), hF a i (by omega)]⟩
    · have e3 : μ1 (x + 1 + 78 + s) 3 = D (771 + s) := by rw [hF _ _ (by omega), q3]
      rw [← r1]
      simp (disch := omega) only [f_X6_addSherd, poI1 hX, some_bind, p2, nI_1, poP1 hX, ← hμ1, oSheI hC, e3, h0, if_true]
    · intro h hh
      have : ¬ D (771 + s) = nI h := fun e => by rw [e] at h0; exact nI_pos (by omega) h0
      show μ' (x + 162) h = nI (if D (771 + s) = nI h then th h + 1 else th h)
      rw [r3 _ _ (by omega), hF _ _ (by omega), if_neg this]
      exact hT h hh
  · obtain ⟨g, hg, eg⟩ : ∃ g, g < 5 ∧ D (771 + s) = nI g := by
      rcases hI.sGate s h5 with h | h
      · rw [h] at h0; exact absurd (by decide) h0
      · exact h
    obtain ⟨μ0, hμ0⟩ : ∃ q, q = up2 μ (x + 158) 1 (nI (tot + 1)) := ⟨_, rfl⟩
    obtain ⟨μ1, hμ1⟩ : ∃ q, q = up2 μ0 (x + 162) g (nI (th g + 1)) := ⟨_, rfl⟩
    have hF0 : ∀ a j, ¬ (a = x + 158) → μ0 a j = μ a j := fun a j h => by rw [hμ0, up2_ne (by omega)]
    have hF : ∀ a j, ¬ (a = x + 158) → ¬ a = x + 162 → μ1 a j = μ a j := fun a j h h' => by rw [hμ1, up2_ne (by omega), hF0 a j h]
    obtain ⟨μ', r1, r2, r3⟩ := main μ1 (fun a j h => hF a j (by omega) (by omega)) ⟨by rw [hμ1, up2_ne (by omega), hμ0, up2_ne (by omega)]; exact p1, by rw [hμ1, up2_ne (by omega), hμ0, up2_same], fun i hi => by rw [hF _ _ (by omega) (by omega), hF _ _ (by omega) (by omega), hF _ _ (by omega) (by omega)]; exact p3 i hi⟩
    refine ⟨μ', ?_, r2, ?_, fun a i h => by rw [r3 a i (by omega), hF a i (by omega) (by omega)]⟩
    · have e3 : μ0 (x + 1 + 78 + s) 3 = nI g := by rw [hF0 _ _ (by omega), q3, eg]
      have et : μ0 (x + 162) g = nI (th g) := by rw [hF0 _ _ (by omega)]; exact hT g hg
      rw [eg] at h0
      rw [← r1]
      simp (disch := omega) only [f_X6_addSherd, poI1 hX, some_bind, p2, nI_1, poP1 hX, ← hμ0, oSheI hC, e3, h0, if_false, poR5 hX, xAThr hX, et, xSThr hX, ← hμ1]
    · intro h hh
      show μ' (x + 162) h = nI (if D (771 + s) = nI h then th h + 1 else th h)
      rw [r3 _ _ (by omega), eg]
      by_cases e : g = h
      · subst e
        rw [hμ1, up2_same, if_pos rfl]
      · rw [hμ1, up2_ne (by omega), hF0 _ _ (by omega), if_neg (fun q => e ((nI_eq (by omega) (by omega)).mp q))]
        exact hT h hh
theorem k_countL (hX : ShX S x) (hs : Sim μ (x + 1) D) (hI : Inv D) (hl : l < 5) (hU : LawU μ (x + 1 + 118 + 6 * l) T Nt) (hNt : Nt ≤ 300) (k : Int32) : ∀ q j fu (μ1 : MU), j + q = nD D 5 → q < fu → (∀ a i, ¬ (x + 158 ≤ a ∧ a ≤ x + 162) → ¬ a = x + 1 + 118 + 6 * l + 4 → ¬ a = x + 1 + 118 + 6 * l + 5 → μ1 a i = μ a i) → PoOK μ1 x (nD D 2) (cntB (kgS D T Nt k) j 0) (cLs D (kgS D T Nt k) j) (cMs D (kgS D T Nt k) j) (cGs D (kgS D T Nt k) j) → ThOK μ1 x (cTh D (kgS D T Nt k) j) → ∃ μ', b_X2_countKnown_16 fu (some (x + 1)) k (some (x + 158)) (some (x + 1 + 118 + 6 * l)) (nI j) (mkH n st S μ1) = some (mkH n st S μ') ∧ (∀ a i, ¬ (x + 158 ≤ a ∧ a ≤ x + 162) → ¬ a = x + 1 + 118 + 6 * l + 4 → ¬ a = x + 1 + 118 + 6 * l + 5 → μ' a i = μ a i) ∧ PoOK μ' x (nD D 2) (cntB (kgS D T Nt k) (nD D 5) 0) (cLs D (kgS D T Nt k) (nD D 5)) (cMs D (kgS D T Nt k) (nD D 5)) (cGs D (kgS D T Nt k) (nD D 5)) ∧ ThOK μ' x (cTh D (kgS D T Nt k) (nD D 5)) := by
  have hC := hX.city
  have hLw := hC.law l hl
  obtain ⟨e5, b5⟩ := hI.shes
  intro q
  induction q with
  | zero =>
    intro j fu μ1 hj hf hF hP hT
    obtain ⟨fu, rfl⟩ : ∃ q, fu = q + 1 := ⟨fu - 1, by omega⟩
    obtain rfl : j = nD D 5 := by omega
    have z5 : μ1 (x + 1) 12 = nI (nD D 5) := by rw [hF _ _ (by omega) (by omega) (by omega), hs.sheN, e5]
    exact ⟨μ1, by simp (disch := omega) only [b_X2_countKnown_16, cI12 hC, some_bind, z5, nn_lt, natF, if_false], hF, hP, hT⟩
  | succ q ih =>
    intro j fu μ1 hj hf hF hP hT
    obtain ⟨fu, rfl⟩ : ∃ q, fu = q + 1 := ⟨fu - 1, by omega⟩
    have z5 : μ1 (x + 1) 12 = nI (nD D 5) := by rw [hF _ _ (by omega) (by omega) (by omega), hs.sheN, e5]
    have hs1 : Sim μ1 (x + 1) D := Sim.frX hI hs (fun a i h1 h2 h3 => hF a i (by omega) (by omega) (by omega))
    have hU1 : LawU μ1 (x + 1 + 118 + 6 * l) T Nt := hU.congr (fun a i h => hF a i (by omega) (by omega) (by omega))
    have kK := k_isKnown (n := n) (st := st) hC hs1 hI (s := j) (by omega) k
    have hno : kgS D T Nt k j = false → ∀ μ2 : MU, (∀ a i, ¬ a = x + 1 + 118 + 6 * l + 4 → ¬ a = x + 1 + 118 + 6 * l + 5 → μ2 a i = μ1 a i) → ∃ μ', b_X2_countKnown_16 fu (some (x + 1)) k (some (x + 158)) (some (x + 1 + 118 + 6 * l)) (nI (j + 1)) (mkH n st S μ2) = some (mkH n st S μ') ∧ (∀ a i, ¬ (x + 158 ≤ a ∧ a ≤ x + 162) → ¬ a = x + 1 + 118 + 6 * l + 4 → ¬ a = x + 1 + 118 + 6 * l + 5 → μ' a i = μ a i) ∧ PoOK μ' x (nD D 2) (cntB (kgS D T Nt k) (nD D 5) 0) (cLs D (kgS D T Nt k) (nD D 5)) (cMs D (kgS D T Nt k) (nD D 5)) (cGs D (kgS D T Nt k) (nD D 5)) ∧ ThOK μ' x (cTh D (kgS D T Nt k) (nD D 5)) := by
      intro hk μ2 h2
      refine ih (j + 1) fu μ2 (by omega) (by omega) (fun a i q1 q2 q3 => by rw [h2 a i q2 q3, hF a i q1 q2 q3]) ?_ ?_
      · have := hP.congr (μ' := μ2) (fun a i h => h2 a i (by omega) (by omega))
        have e0 : cntB (kgS D T Nt k) (j + 1) 0 = cntB (kgS D T Nt k) j 0 := by rw [cntB_snoc, Nat.zero_add, hk]; rfl
        rw [e0]
        refine this.ext (fun i _ => ?_) (fun i _ => ?_) (fun i _ => ?_)
        · rw [cLs, cLs, cntB_snoc, Nat.zero_add, hk]; simp
        · rw [cMs, cMs, cntB_snoc, Nat.zero_add, hk]; simp
        · rw [cGs, cGs, orK, hk]; simp
      · intro h hh
        rw [h2 _ _ (by omega) (by omega), hT h hh, cTh, cTh, cntB_snoc, Nat.zero_add, hk]; simp
    cases hkn : knB D k j with
    | false =>
      rw [hkn] at kK
      obtain ⟨μ', r1, r2⟩ := hno (by rw [kgS, hkn]; rfl) μ1 (fun _ _ _ _ => rfl)
      refine ⟨μ', ?_, r2⟩
      rw [← r1]
      simp (disch := omega) only [b_X2_countKnown_16, cI12 hC, some_bind, z5, nn_lt, natT, if_true, cR11 hC, cEsherds hC, oSheK hC, kK, bI_if0, Bool.false_eq_true, if_false, nI_1]
    | true =>
      rw [hkn] at kK
      have b1 : ¬ bI true = 0 := by decide
      obtain ⟨μ2, g1, g2⟩ := k_isGood (n := n) (st := st) hX hs1 hI hl hU1 hNt (s := j) (by omega)
      cases hgo : gooS D T Nt j with
      | false =>
        rw [hgo] at g1
        obtain ⟨μ', r1, r2⟩ := hno (by rw [kgS, hkn, hgo]; rfl) μ2 g2
        refine ⟨μ', ?_, r2⟩
        rw [← r1]
        simp (disch := omega) only [b_X2_countKnown_16, cI12 hC, some_bind, z5, nn_lt, natT, if_true, cR11 hC, cEsherds hC, oSheK hC, kK, b1, if_false, lck hLw, g1, bI_if0, Bool.false_eq_true, nI_1]
      | true =>
        rw [hgo] at g1
        have hk : kgS D T Nt k j = true := by rw [kgS, hkn, hgo]; rfl
        have hs2 : Sim μ2 (x + 1) D := Sim.frX hI hs1 (fun a i h1 h2 h3 => g2 a i (by omega) (by omega))
        obtain ⟨μ3, w1, w2, w3, w4⟩ := k_paddSherd (n := n) (st := st) hX hs2 hI (s := j) (by omega) (hP.congr (μ' := μ2) (fun a i h => g2 a i (by omega) (by omega))) (th := cTh D (kgS D T Nt k) j) (fun h hh => by rw [g2 _ _ (by omega) (by omega)]; exact hT h hh)
        obtain ⟨μ', r1, r2⟩ := ih (j + 1) fu μ3 (by omega) (by omega) (fun a i q1 q2 q3 => by rw [w4 a i q1, g2 a i q2 q3, hF a i q1 q2 q3]) (by
          have e0 : cntB (kgS D T Nt k) (j + 1) 0 = cntB (kgS D T Nt k) j 0 + 1 := by rw [cntB_snoc, Nat.zero_add, hk]; rfl
          rw [e0]
          refine w2.ext (fun i _ => ?_) (fun i _ => ?_) (fun i _ => ?_)
          · rw [cLs, cLs, cntB_snoc, Nat.zero_add, hk, Bool.true_and]
            split <;> rfl
          · rw [cMs, cMs, cntB_snoc, Nat.zero_add, hk, Bool.true_and]
            split <;> rfl
          · rw [cGs, cGs, orK, hk, Bool.true_and]
            split
            · rfl
            · rw [Nat.or_zero]) (by
          intro h hh
          refine (w3 h hh).trans ?_
          show nI (if D (771 + j) = nI h then cTh D (kgS D T Nt k) j h + 1 else cTh D (kgS D T Nt k) j h) = nI (cTh D (kgS D T Nt k) (j + 1) h)
          have e0 : cTh D (kgS D T Nt k) (j + 1) h = cTh D (kgS D T Nt k) j h + if decide (D (771 + j) = nI h) = true then 1 else 0 := by
            show cntB _ (j + 1) 0 = _
            rw [cntB_snoc, Nat.zero_add, hk, Bool.true_and]
            rfl
          rw [e0]
          by_cases e : D (771 + j) = nI h
          · rw [if_pos e, if_pos (decide_eq_true e)]
          · rw [if_neg e, if_neg (fun q => e (of_decide_eq_true q))]; rfl)
        refine ⟨μ', ?_, r2⟩
        rw [← r1]
        simp (disch := omega) only [b_X2_countKnown_16, cI12 hC, some_bind, z5, nn_lt, natT, if_true, cR11 hC, cEsherds hC, oSheK hC, kK, b1, if_false, lck hLw, g1, pock hX, w1, nI_1]
theorem k_countKnown (hX : ShX S x) (hs : Sim μ (x + 1) D) (hI : Inv D) (hU : LawU μ (x + 1 + 118 + 6 * lawA D) (lawT D) (lawN D)) (k : Int32) : ∃ μ', f_X2_countKnown (some (x + 1)) k (some (x + 158)) (mkH n st S μ) = some (mkH n st S μ') ∧ (∀ a i, ¬ (x + 158 ≤ a ∧ a ≤ x + 162) → ¬ a = x + 1 + 118 + 6 * lawA D + 4 → ¬ a = x + 1 + 118 + 6 * lawA D + 5 → μ' a i = μ a i) ∧ PoOK μ' x (nD D 2) (cntB (kgS D (lawT D) (lawN D) k) (nD D 5) 0) (cLs D (kgS D (lawT D) (lawN D) k) (nD D 5)) (cMs D (kgS D (lawT D) (lawN D) k) (nD D 5)) (cGs D (kgS D (lawT D) (lawN D) k) (nD D 5)) ∧ ThOK μ' x (cTh D (kgS D (lawT D) (lawN D) k) (nD D 5)) := by
  have hC := hX.city
  obtain ⟨e2, b2⟩ := hI.men
  have b5 := hI.shes.2
  have hlA := lawA_lt hI
  obtain ⟨μ1, r1, r2, r3, r4⟩ := k_pbegin (n := n) (st := st) (μ := μ) hX b2
  have hs1 : Sim μ1 (x + 1) D := Sim.frX hI hs (fun a i h1 h2 h3 => r4 a i (by omega))
  obtain ⟨fu, hfu, hfl⟩ : ∃ q, FU = q ∧ 301 < q := ⟨FU, rfl, by decide⟩
  obtain ⟨μ', w1, w2⟩ := k_countL (n := n) (st := st) hX hs hI hlA hU (law_in hI).2 k (nD D 5) 0 fu μ1 (by omega) (by omega) (fun a i q1 _ _ => r4 a i q1) (r2.ext (fun _ _ => rfl) (fun _ _ => rfl) (fun _ _ => rfl)) (fun h hh => r3 h hh)
  refine ⟨μ', ?_, w2⟩
  have h6 : μ (x + 1) 6 = nI (nD D 2) := by rw [hs.manN, e2]
  have kN := k_lawNow (n := n) (st := st) hC hs1 hI
  rw [← w1, ← hfu]
  simp only [f_X2_countKnown, cI6 hC, some_bind, h6, pock hX, r1, cck hC, kN]
  rfl
end COUNT
