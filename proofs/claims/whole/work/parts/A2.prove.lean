-- ===== turn, prove, judge =====
def fstK (P : Nat → Bool) : List Nat → Int32
  | [] => -1
  | a :: r => if P a then nI a else fstK P r
/-- the least set that turns it, or -1 -/
def tuV (D : DR) (T : Nat → Int32) (Nt : Nat) (day : Int32) (y : Nat) : Int32 := fstK (tuP D T Nt day y) cSets
/-- of how many clubs -/
def clV (D : DR) (T : Nat → Int32) (Nt : Nat) (day : Int32) (y : Nat) : Int32 := if tuV D T Nt day y < 0 then -1 else nI (popN 16 (tuV D T Nt day y).toNatClampNeg)
/-- the casts are drawn -/
def DrOK (μ : MU) (x : Nat) (D : DR) (day : Int32) : Prop := (∀ i, i < nD D 2 → μ (x + 165) i = drS D i day (-1) false) ∧ μ x 6 = nI (biN (fun i => comB D i day) (nD D 2))
section PROVE
variable {n : Nat} {st : Nat → Nat} {S : SH} {μ : MU} {x b m c l j : Nat} {D : DR} {T : Nat → Int32} {Nt : Nat}
theorem fstK_min {P : Nat → Bool} : ∀ (r : List Nat), incK r = true → (∀ s, s ∈ r → s < 64) → (∀ s, s < 64 → ¬ s ∈ r → P s = false) → minK P (fstK P r) := by
  intro r
  induction r with
  | nil => intro _ _ h; exact Or.inl ⟨rfl, fun s hs => h s hs (by simp)⟩
  | cons a r ih =>
    intro h1 h2 h3
    rw [fstK]
    by_cases hP : P a = true
    · rw [if_pos hP]
      refine Or.inr ⟨a, h2 a (by simp), rfl, hP, fun s hs hPs => ?_⟩
      rcases Decidable.em (s ∈ a :: r) with h | h
      · rcases List.mem_cons.mp h with h | h
        · rw [h]; exact Nat.le_refl _
        · exact Nat.le_of_lt (incK_le r a h1 s h)
      · rw [h3 s hs h] at hPs; cases hPs
    · rw [if_neg hP]
      refine ih ?_ (fun s hs => h2 s (by simp [hs])) (fun s hs hn => ?_)
      · cases r with
        | nil => rfl
        | cons c r => rw [incK, Bool.and_eq_true] at h1; exact h1.2
      · by_cases e : s = a
        · rw [e]; simpa using hP
        · exact h3 s hs (by simp [e, hn])
theorem tuV_min (D : DR) (T : Nat → Int32) (Nt : Nat) (day : Int32) (y : Nat) : minK (tuP D T Nt day y) (tuV D T Nt day y) := fstK_min cSets cSets_inc cSets_lt (fun s h1 h2 => absurd (cSets_in s h1) h2)
theorem tuV_val (D : DR) (T : Nat → Int32) (Nt : Nat) (day : Int32) (y : Nat) : tuV D T Nt day y = -1 ∨ ∃ t, t < 64 ∧ tuV D T Nt day y = nI t := minK_val (tuV_min D T Nt day y)
theorem k_tu (hX : ShX S x) (hs : Sim μ (x + 1) D) (hI : Inv D) (hBs : BaseOK st S μ x b) {day : Int32} {y : Nat} (hy : y < nD D 2) (hl : l < 5) (hU : LawU μ (x + 1 + 118 + 6 * l) T Nt) (hNt : Nt ≤ 300) (hd : DrOK μ x D day) : ∃ μ', f_X11_turnFor (some x) (nI y) day (some (x + 1 + 118 + 6 * l)) (mkH n st S μ) = some (tuV D T Nt day y, mkH n st S μ') ∧ ∀ a i, ¬ (x + 158 ≤ a ∧ a ≤ x + 162) → ¬ a = x + 1 + 118 + 6 * l + 4 → ¬ a = x + 1 + 118 + 6 * l + 5 → μ' a i = μ a i := by
  obtain ⟨v, μ', r1, r2, r3⟩ := k_turnFor (n := n) (st := st) (b := b) hX hs hI hBs hy hl hU hNt hd.1 hd.2
  rw [minK_same hI hy r2 (tuV_min D T Nt day y)] at r1
  exact ⟨μ', r1, r3⟩
theorem r_tu (hS : ShM S m) (hm : x ≤ m) (hI : Inv D) {μc : MU} {Lw : Nat} (hU : LawU μc Lw (lawT D) (lawN D)) (hB : BaseOK st S μ x b) (hD : μ (m + 1) = D) (day : Int32) {y : Nat} (hy : y < nD D 2) : ∃ μ', f_X12_turnFor (some m) (nI y) day (mkH n st S μ) = some (tuV D (lawT D) (lawN D) day y, mkH n st S μ') ∧ FrTu m μ μ' := by
  obtain ⟨w, μ', r1, r2, r3⟩ := r_turnFor (n := n) (st := st) hS hm hI hU hB hD day hy
  rw [minK_uni r2 (tuV_min D (lawT D) (lawN D) day y)] at r1
  exact ⟨μ', r1, r3⟩
theorem k_clubs (hX : ShX S x) (hs : Sim μ (x + 1) D) (hI : Inv D) (hBs : BaseOK st S μ x b) {day : Int32} {y : Nat} (hy : y < nD D 2) (hl : l < 5) (hU : LawU μ (x + 1 + 118 + 6 * l) T Nt) (hNt : Nt ≤ 300) (hd : DrOK μ x D day) : ∃ μ', f_X11_clubsToTurn (some x) (nI y) day (some (x + 1 + 118 + 6 * l)) (mkH n st S μ) = some (clV D T Nt day y, mkH n st S μ') ∧ ∀ a i, ¬ (x + 158 ≤ a ∧ a ≤ x + 162) → ¬ a = x + 1 + 118 + 6 * l + 4 → ¬ a = x + 1 + 118 + 6 * l + 5 → μ' a i = μ a i := by
  obtain ⟨μ', r1, r2⟩ := k_tu (n := n) (st := st) (b := b) hX hs hI hBs hy hl hU hNt hd
  refine ⟨μ', ?_, r2⟩
  unfold clV
  obtain ⟨v, hv⟩ : ∃ v, v = tuV D T Nt day y := ⟨_, rfl⟩
  have hval := tuV_val D T Nt day y
  rw [← hv] at r1 hval ⊢
  simp only [f_X11_clubsToTurn, xck hX, r1, some_bind]
  rcases hval with h | ⟨t, ht, h⟩
  · rw [h, if_pos (by decide), if_pos (by decide)]
  · rw [h, if_neg (nI_pos (by omega)), if_neg (nI_pos (by omega)), k_bitCount (by omega), some_bind, nI_clamp (by omega)]
theorem r_clubs (hS : ShM S m) (hm : x ≤ m) (hI : Inv D) {μc : MU} {Lw : Nat} (hU : LawU μc Lw (lawT D) (lawN D)) (hB : BaseOK st S μ x b) (hD : μ (m + 1) = D) (day : Int32) {y : Nat} (hy : y < nD D 2) : ∃ μ', f_X12_clubsFor (some m) (nI y) day (mkH n st S μ) = some (clV D (lawT D) (lawN D) day y, mkH n st S μ') ∧ FrTu m μ μ' := by
  obtain ⟨μ', r1, r2⟩ := r_tu (n := n) (st := st) hS hm hI hU hB hD day hy
  refine ⟨μ', ?_, r2⟩
  unfold clV
  obtain ⟨v, hv⟩ : ∃ v, v = tuV D (lawT D) (lawN D) day y := ⟨_, rfl⟩
  have hval := tuV_val D (lawT D) (lawN D) day y
  rw [← hv] at r1 hval ⊢
  simp only [f_X12_clubsFor, rck hS, r1, some_bind]
  rcases hval with h | ⟨t, ht, h⟩
  · rw [h, if_pos (by decide), if_pos (by decide)]
  · rw [h, if_neg (nI_pos (by omega)), if_neg (nI_pos (by omega)), r_bits (by omega), some_bind, nI_clamp (by omega)]
theorem k_drawn (hX : ShX S x) (hs : Sim μ (x + 1) D) (hI : Inv D) {day : Int32} (hd : ¬ day < 0) : ∃ μ', f_X11_drawCasts (some x) day (-1) 0 (mkH n st S μ) = some (mkH n st S μ') ∧ (∀ a q, ¬ a = x + 165 → ¬ (a = x ∧ q = 6) → μ' a q = μ a q) ∧ DrOK μ' x D day := by
  have b2 := hI.men.2
  obtain ⟨μ1, g1, gF, gC, g6⟩ := k_drawCasts (n := n) (st := st) hX hs hI hd (-1) false
  refine ⟨μ1, g1, gF, gC, ?_⟩
  rw [g6, biN_congr (nD D 2) (fun i hi => thr_com (by omega) day)]
theorem DrOK.congr {μ' : MU} {day : Int32} (h : DrOK μ x D day) (h1 : ∀ i, μ' (x + 165) i = μ (x + 165) i) (h2 : μ' x 6 = μ x 6) : DrOK μ' x D day := ⟨fun i hi => by rw [h1]; exact h.1 i hi, by rw [h2]; exact h.2⟩
theorem op_turn (hR : R n st S μ x b) (a1 a2 : Int32) : Res (f_X11_turn (some x) a1 a2) (f_X12_turn (some (x + 175)) a1 a2) n st S μ x b := by
  have hR' := hR
  obtain ⟨⟨hX, hS, hs, hI, hL0⟩, hRest⟩ := hR
  have hC := hX.city
  have hBase := hRest.2.2.2.1
  obtain ⟨D, hD⟩ : ∃ D, μ (x + 175 + 1) = D := ⟨_, rfl⟩
  replace hs : Sim μ (x + 1) (μ (x + 175 + 1)) := hs
  replace hI : Inv (μ (x + 175 + 1)) := hI
  rw [hD] at hs hI
  obtain ⟨e0, b0⟩ := hI.today
  obtain ⟨e1, b1⟩ := hI.wards
  obtain ⟨e2, b2⟩ := hI.men
  obtain ⟨e3, b3⟩ := hI.words
  obtain ⟨e4, b4⟩ := hI.bars
  obtain ⟨e5, b5⟩ := hI.shes
  obtain ⟨e6, b6⟩ := hI.wets
  obtain ⟨e8, b8⟩ := hI.heaped
  have z0 := hs.today
  have z1 := hs.wardN
  have z2 := hs.manN
  have z3 := hs.wordN
  have z4 := hs.barN
  have z5 := hs.sheN
  have z6 := hs.wetN
  have z8 := hs.heapN
  have hU := lawU_now hs hI hL0
  have hlA := lawA_lt hI
  by_cases c1 : ixB a1 (nD D 2) = true
  case neg => exact Res.same hR' (-1) (by simp only [f_X11_turn, xR0 hX, some_bind, cck hC, k_hasMan hC hs hI, ite_bI0, c1, if_false, Bool.false_eq_true]) (by simp only [f_X12_turn, rck hS, some_bind, r_isMan hS hD hI, ite_bI0, c1, if_false, Bool.false_eq_true])
  by_cases c2 : inS a2 0 9999 = true
  case neg => exact Res.same hR' (-1) (by simp only [f_X11_turn, xR0 hX, some_bind, cck hC, k_hasMan hC hs hI, ite_bI0, c1, if_true, k_isDay, c2, if_false, Bool.false_eq_true]) (by simp only [f_X12_turn, rck hS, some_bind, r_isMan hS hD hI, ite_bI0, c1, if_true, s_isDay, c2, if_false, Bool.false_eq_true])
  have hd : ¬ a2 < 0 := inS_nn c2
  obtain ⟨y, hy, rfl⟩ := ixB_ex (by omega) c1
  obtain ⟨μ1, g1, gF, gD⟩ := k_drawn (n := n) (st := st) hX hs hI hd
  have hs1 : Sim μ1 (x + 1) D := Sim.frX hI hs (fun a q h _ _ => gF a q (by omega) (by omega))
  have hU1 : LawU μ1 (x + 1 + 118 + 6 * lawA D) (lawT D) (lawN D) := hU.congr (fun a q h => gF a q (by omega) (by omega))
  obtain ⟨μ2, t1, t2⟩ := k_tu (n := n) (st := st) (b := b) hX hs1 hI (hBase.congr (fun _ _ => rfl) (fun a q h => gF a q (by omega) (by omega))) hy hlA hU1 (law_in hI).2 gD
  have h2F : ∀ a i, ¬ a = x + 165 → ¬ (a = x ∧ i = 6) → ¬ (x + 158 ≤ a ∧ a ≤ x + 162) → ¬ a = x + 1 + 118 + 6 * lawA D + 4 → ¬ a = x + 1 + 118 + 6 * lawA D + 5 → μ2 a i = μ a i := fun a i q1 q2 q3 q4 q5 => by rw [t2 a i q3 q4 q5, gF a i q1 q2]
  have hD2 : μ2 (x + 175 + 1) = D := by funext q; rw [h2F _ _ (by omega) (by omega) (by omega) (by omega) (by omega), hD]
  obtain ⟨μ3, r1, r2⟩ := r_tu (n := n) (st := st) (x := x) (b := b) (μ := μ2) hS (by omega) hI hU (hBase.congr (fun _ _ => rfl) (fun a q h => h2F a q (by omega) (by omega) (by omega) (by omega) (by omega))) hD2 a2 hy
  obtain ⟨v, hv⟩ : ∃ v, v = tuV D (lawT D) (lawN D) a2 y := ⟨_, rfl⟩
  rw [← hv] at t1 r1
  have kL := k_lawNow (n := n) (st := st) hC hs1 hI
  refine ⟨if v < 0 then -3 else v, mkH n st S μ2, n, S, μ3, ?_, ?_, hR'.bes hlA h2F r2⟩
  · simp only [f_X11_turn, xR0 hX, some_bind, cck hC, k_hasMan hC hs hI, ite_bI0, c1, if_true, k_isDay, c2, xck hX, g1, kL, t1]
    by_cases h : v < 0
    · rw [if_pos h, if_pos h]
    · rw [if_neg h, if_neg h]
  · simp only [f_X12_turn, rck hS, some_bind, r_isMan hS hD2 hI, ite_bI0, c1, if_true, s_isDay, c2, r1]
    by_cases h : v < 0
    · rw [if_pos h, if_pos h]
    · rw [if_neg h, if_neg h]
theorem k_proveL (hX : ShX S x) (hI : Inv D) (day : Int32) : ∀ k j fu (μ : MU), j + k = nD D 2 → k < fu → Sim μ (x + 1) D → BaseOK st S μ x b → LawU μ (x + 1 + 118 + 6 * lawA D) (lawT D) (lawN D) → DrOK μ x D day → μ x 9 = nI (nD D 2) → ∃ μ', b_X11_prove_29 fu (some x) day (nI j) (mkH n st S μ) = some (nI (nD D 2), mkH n st S μ') ∧ (∀ i, j ≤ i → i < nD D 2 → μ' (x + 166) i = nI i ∧ μ' (x + 167) i = clV D (lawT D) (lawN D) day i) ∧ (∀ i, i < j → μ' (x + 166) i = μ (x + 166) i ∧ μ' (x + 167) i = μ (x + 167) i) ∧ ∀ a i, ¬ (x + 158 ≤ a ∧ a ≤ x + 162) → ¬ a = x + 1 + 118 + 6 * lawA D + 4 → ¬ a = x + 1 + 118 + 6 * lawA D + 5 → ¬ (a = x + 166 ∨ a = x + 167) → μ' a i = μ a i := by
  have hC := hX.city
  have b2 := hI.men.2
  have hlA := lawA_lt hI
  intro k
  induction k with
  | zero =>
    intro j fu μ hj hf hs hBs hU hd h9
    obtain ⟨fu, rfl⟩ : ∃ q, fu = q + 1 := ⟨fu - 1, by omega⟩
    obtain rfl : j = nD D 2 := by omega
    exact ⟨μ, by simp (disch := omega) only [b_X11_prove_29, xI9 hX, some_bind, h9, nn_lt, natF, if_false], fun i h1 h2 => absurd h2 (by omega), fun _ _ => ⟨rfl, rfl⟩, fun _ _ _ _ _ _ => rfl⟩
  | succ k ih =>
    intro j fu μ hj hf hs hBs hU hd h9
    obtain ⟨fu, rfl⟩ : ∃ q, fu = q + 1 := ⟨fu - 1, by omega⟩
    obtain ⟨μ1, hμ1⟩ : ∃ q, q = up2 μ (x + 166) j (nI j) := ⟨_, rfl⟩
    have h1 : ∀ a i, ¬ a = x + 166 → μ1 a i = μ a i := fun a i q => by rw [hμ1, up2_ne (by omega)]
    have hs1 : Sim μ1 (x + 1) D := Sim.frX hI hs (fun a q h _ _ => h1 a q (by omega))
    obtain ⟨μ2, t1, t2⟩ := k_clubs (n := n) (st := st) (b := b) hX hs1 hI (hBs.congr (fun _ _ => rfl) (fun a q h => h1 a q (by omega))) (show j < nD D 2 by omega) hlA (hU.congr (fun a q h => h1 a q (by omega))) (law_in hI).2 (hd.congr (fun i => h1 _ _ (by omega)) (h1 _ _ (by omega)))
    obtain ⟨μ3, hμ3⟩ : ∃ q, q = up2 μ2 (x + 167) j (clV D (lawT D) (lawN D) day j) := ⟨_, rfl⟩
    have h3 : ∀ a i, ¬ (x + 158 ≤ a ∧ a ≤ x + 162) → ¬ a = x + 1 + 118 + 6 * lawA D + 4 → ¬ a = x + 1 + 118 + 6 * lawA D + 5 → ¬ (a = x + 166 ∨ a = x + 167) → μ3 a i = μ a i := fun a i q1 q2 q3 q4 => by rw [hμ3, up2_ne (by omega), t2 a i q1 q2 q3, h1 a i (by omega)]
    obtain ⟨μ', r1, r2, r3, r4⟩ := ih (j + 1) fu μ3 (by omega) (by omega) (Sim.frX hI hs (fun a q h q1 q2 => h3 a q (by omega) (by omega) (by omega) (by omega))) (hBs.congr (fun _ _ => rfl) (fun a q h => h3 a q (by omega) (by omega) (by omega) (by omega))) (hU.congr (fun a q h => h3 a q (by omega) (by omega) (by omega) (by omega))) (hd.congr (fun i => h3 _ _ (by omega) (by omega) (by omega) (by omega)) (h3 _ _ (by omega) (by omega) (by omega) (by omega))) (by rw [h3 _ _ (by omega) (by omega) (by omega) (by omega)]; exact h9)
    refine ⟨μ', ?_, ?_, ?_, fun a i q1 q2 q3 q4 => by rw [r4 a i q1 q2 q3 q4, h3 a i q1 q2 q3 q4]⟩
    · have kL := k_lawNow (n := n) (st := st) hC hs1 hI
      rw [← r1, hμ3]
      rw [hμ1] at t1 kL
      simp (disch := omega) only [b_X11_prove_29, xI9 hX, some_bind, h9, nn_lt, natT, if_true, xR7 hX, xSRMa hX, xR8 hX, xR0 hX, cck hC, kL, xck hX, t1, xSRCl hX, nI_1]
    · intro i q1 q2
      by_cases e : i = j
      · subst e
        obtain ⟨w1, w2⟩ := r3 i (by omega)
        rw [w1, w2, hμ3, up2_ne (by omega), up2_same, t2 _ _ (by omega) (by omega) (by omega), hμ1, up2_same]
        exact ⟨rfl, rfl⟩
      · exact r2 i (by omega) q2
    · intro i q1
      obtain ⟨w1, w2⟩ := r3 i (by omega)
      rw [w1, w2, hμ3, up2_ne (by omega), up2_ne (by omega), t2 _ _ (by omega) (by omega) (by omega), t2 _ _ (by omega) (by omega) (by omega), h1 (x + 167) i (by omega), hμ1, up2_ne (by omega)]
      exact ⟨rfl, rfl⟩
theorem r_proveL (hS : ShM S m) (hm : x ≤ m) (hI : Inv D) {μc : MU} {Lw : Nat} (hU : LawU μc Lw (lawT D) (lawN D)) (day : Int32) : ∀ k j fu (μ : MU), j + k = nD D 2 → k < fu → BaseOK st S μ x b → μ (m + 1) = D → μ m 29 = nI (nD D 2) → ∃ μ', b_X12_prove_21 fu (some m) day (nI j) (mkH n st S μ) = some (nI (nD D 2), mkH n st S μ') ∧ (∀ i, j ≤ i → i < nD D 2 → μ' (m + 14) (2 * i) = nI i ∧ μ' (m + 14) (2 * i + 1) = clV D (lawT D) (lawN D) day i) ∧ (∀ i, i < 2 * j → μ' (m + 14) i = μ (m + 14) i) ∧ ∀ a i, ¬ (a = m ∧ ((11 ≤ i ∧ i ≤ 18) ∨ (22 ≤ i ∧ i ≤ 26))) → ¬ (m + 7 ≤ a ∧ a ≤ m + 14) → μ' a i = μ a i := by
  have b2 := hI.men.2
  intro k
  induction k with
  | zero =>
    intro j fu μ hj hf hBs hD h29
    obtain ⟨fu, rfl⟩ : ∃ q, fu = q + 1 := ⟨fu - 1, by omega⟩
    obtain rfl : j = nD D 2 := by omega
    exact ⟨μ, by simp (disch := omega) only [b_X12_prove_21, mI29 hS, some_bind, h29, nn_lt, natF, if_false], fun i h1 h2 => absurd h2 (by omega), fun _ _ => rfl, fun _ _ _ _ => rfl⟩
  | succ k ih =>
    intro j fu μ hj hf hBs hD h29
    obtain ⟨fu, rfl⟩ : ∃ q, fu = q + 1 := ⟨fu - 1, by omega⟩
    obtain ⟨μ1, hμ1⟩ : ∃ q, q = up2 μ (m + 14) (2 * j) (nI j) := ⟨_, rfl⟩
    have h1 : ∀ a i, ¬ (a = m + 14 ∧ i = 2 * j) → μ1 a i = μ a i := fun a i q => by rw [hμ1, up2_ne (by omega)]
    obtain ⟨μ2, t1, t2⟩ := r_clubs (n := n) (st := st) (x := x) (b := b) (μ := μ1) hS hm hI hU (hBs.congr (fun _ _ => rfl) (fun a q h => h1 a q (by omega))) (by funext q; rw [h1 _ _ (by omega), hD]) day (show j < nD D 2 by omega)
    obtain ⟨μ3, hμ3⟩ : ∃ q, q = up2 μ2 (m + 14) (2 * j + 1) (clV D (lawT D) (lawN D) day j) := ⟨_, rfl⟩
    have h3 : ∀ a i, ¬ (a = m ∧ ((11 ≤ i ∧ i ≤ 18) ∨ (22 ≤ i ∧ i ≤ 26))) → ¬ (m + 7 ≤ a ∧ a ≤ m + 13) → ¬ (a = m + 14 ∧ (i = 2 * j ∨ i = 2 * j + 1)) → μ3 a i = μ a i := fun a i q1 q2 q4 => by rw [hμ3, up2_ne (by omega), t2 a i q1 q2, h1 a i (by omega)]
    obtain ⟨μ', r1, r2, r3, r4⟩ := ih (j + 1) fu μ3 (by omega) (by omega) (hBs.congr (fun _ _ => rfl) (fun a q h => h3 a q (by omega) (by omega) (by omega))) (by funext q; rw [h3 _ _ (by omega) (by omega) (by omega), hD]) (by rw [h3 _ _ (by omega) (by omega) (by omega)]; exact h29)
    refine ⟨μ', ?_, ?_, ?_, fun a i q1 q2 => by rw [r4 a i q1 q2, h3 a i q1 (by omega) (by omega)]⟩
    · rw [← r1, hμ3]
      rw [hμ1] at t1
      simp (disch := omega) only [b_X12_prove_21, mI29 hS, some_bind, h29, nn_lt, natT, if_true, mR28 hS, lit_mul, mS28 hS, rck hS, t1, nI_1]
    · intro i q1 q2
      by_cases e : i = j
      · subst e
        rw [r3 _ (by omega), r3 _ (by omega), hμ3, up2_ne (by omega), up2_same, t2 _ _ (by omega) (by omega), hμ1, up2_same]
        exact ⟨rfl, rfl⟩
      · exact r2 i (by omega) q2
    · intro i q1
      rw [r3 _ (by omega), h3 _ _ (by omega) (by omega) (by omega)]
theorem op_prove (hR : R n st S μ x b) (a1 : Int32) : Res (f_X11_prove (some x) a1) (f_X12_prove (some (x + 175)) a1) n st S μ x b := by
  have hR' := hR
  obtain ⟨⟨hX, hS, hs, hI, hL0⟩, hRest⟩ := hR
  have hC := hX.city
  have hBase := hRest.2.2.2.1
  obtain ⟨D, hD⟩ : ∃ D, μ (x + 175 + 1) = D := ⟨_, rfl⟩
  replace hs : Sim μ (x + 1) (μ (x + 175 + 1)) := hs
  replace hI : Inv (μ (x + 175 + 1)) := hI
  rw [hD] at hs hI
  obtain ⟨e0, b0⟩ := hI.today
  obtain ⟨e1, b1⟩ := hI.wards
  obtain ⟨e2, b2⟩ := hI.men
  obtain ⟨e3, b3⟩ := hI.words
  obtain ⟨e4, b4⟩ := hI.bars
  obtain ⟨e5, b5⟩ := hI.shes
  obtain ⟨e6, b6⟩ := hI.wets
  obtain ⟨e8, b8⟩ := hI.heaped
  have z0 := hs.today
  have z1 := hs.wardN
  have z2 := hs.manN
  have z3 := hs.wordN
  have z4 := hs.barN
  have z5 := hs.sheN
  have z6 := hs.wetN
  have z8 := hs.heapN
  have hU := lawU_now hs hI hL0
  have hlA := lawA_lt hI
  by_cases c2 : inS a1 0 9999 = true
  case neg => exact Res.same hR' (-1) (by simp only [f_X11_prove, some_bind, ite_bI0, k_isDay, c2, if_false, Bool.false_eq_true]) (by simp only [f_X12_prove, some_bind, ite_bI0, s_isDay, c2, if_false, Bool.false_eq_true])
  have hd : ¬ a1 < 0 := inS_nn c2
  obtain ⟨hTape, -, hTrace, -, hn, K, ρ, hK, hSh⟩ := hRest
  obtain ⟨fu, hfu, hfl⟩ : ∃ q, FU = q ∧ 301 < q := ⟨FU, rfl, by decide⟩
  obtain ⟨μ1, g1, gF, gD⟩ := k_drawn (n := n) (st := st) hX hs hI hd
  obtain ⟨μ2, hμ2⟩ : ∃ q, q = up2 μ1 x 9 (nI (nD D 2)) := ⟨_, rfl⟩
  have h2 : ∀ a i, ¬ a = x + 165 → ¬ (a = x ∧ i = 6) → ¬ (a = x ∧ i = 9) → μ2 a i = μ a i := fun a i q1 q2 q3 => by rw [hμ2, up2_ne q3, gF a i q1 q2]
  have hs2 : Sim μ2 (x + 1) D := Sim.frX hI hs (fun a q h _ _ => h2 a q (by omega) (by omega) (by omega))
  obtain ⟨μ3, p1, p2, -, p4⟩ := k_proveL (n := n) (st := st) (b := b) hX hI a1 (nD D 2) 0 fu μ2 (by omega) (by omega) hs2 (hBase.congr (fun _ _ => rfl) (fun a q h => h2 a q (by omega) (by omega) (by omega))) (hU.congr (fun a q h => h2 a q (by omega) (by omega) (by omega))) (gD.congr (fun i => by rw [hμ2, up2_ne (by omega)]) (by rw [hμ2, up2_ne (by omega)])) (by rw [hμ2, up2_same])
  have h3 : ∀ a i, ¬ a = x + 165 → ¬ (a = x ∧ (i = 6 ∨ i = 9)) → ¬ (x + 158 ≤ a ∧ a ≤ x + 162) → ¬ a = x + 1 + 118 + 6 * lawA D + 4 → ¬ a = x + 1 + 118 + 6 * lawA D + 5 → ¬ (a = x + 166 ∨ a = x + 167) → μ3 a i = μ a i := fun a i q1 q2 q3 q4 q5 q6 => by rw [p4 a i q3 q4 q5 q6, h2 a i q1 (by omega) (by omega)]
  have hD3 : μ3 (x + 175 + 1) = D := by funext q; rw [h3 _ _ (by omega) (by omega) (by omega) (by omega) (by omega) (by omega), hD]
  obtain ⟨μ4, hμ4⟩ : ∃ q, q = up2 μ3 (x + 175) 29 (nI (nD D 2)) := ⟨_, rfl⟩
  have h4 : ∀ a i, ¬ (a = x + 175 ∧ i = 29) → μ4 a i = μ3 a i := fun a i q => by rw [hμ4, up2_ne q]
  obtain ⟨μ5, r1, r2, -, r4⟩ := r_proveL (n := n) (st := st) (x := x) (b := b) hS (by omega) hI hU a1 (nD D 2) 0 fu μ4 (by omega) (by omega) (hBase.congr (fun _ _ => rfl) (fun a q h => by rw [h4 a q (by omega), h3 a q (by omega) (by omega) (by omega) (by omega) (by omega) (by omega)])) (by funext q; rw [h4 _ _ (by omega), hD3]) (by rw [hμ4, up2_same])
  have h5 : ∀ a i, ¬ a = x + 165 → ¬ (a = x ∧ (i = 6 ∨ i = 9)) → ¬ (x + 158 ≤ a ∧ a ≤ x + 162) → ¬ a = x + 1 + 118 + 6 * lawA D + 4 → ¬ a = x + 1 + 118 + 6 * lawA D + 5 → ¬ (a = x + 166 ∨ a = x + 167) → ¬ (a = x + 175 ∧ ((11 ≤ i ∧ i ≤ 18) ∨ (22 ≤ i ∧ i ≤ 26) ∨ i = 29)) → ¬ (x + 182 ≤ a ∧ a ≤ x + 189) → μ5 a i = μ a i := fun a i q1 q2 q3 q4 q5 q6 q7 q8 => by rw [r4 a i (by omega) (by omega), h4 a i (by omega), h3 a i q1 q2 q3 q4 q5 q6]
  refine ⟨nI (nD D 2), mkH n st S μ3, n, S, μ5, ?_, ?_, ?_, ?_⟩
  · have h6 : μ1 (x + 1) 6 = nI (nD D 2) := by rw [gF _ _ (by omega) (by omega), hs.manN, e2]
    rw [← p1, hμ2, ← hfu]
    simp only [f_X11_prove, k_isDay, some_bind, ite_bI0, c2, if_true, xck hX, g1, xR0 hX, cI6 hC, h6, xP9 hX]
    rfl
  · rw [← r1, hμ4, ← hfu]
    simp (disch := omega) only [f_X12_prove, s_isDay, some_bind, ite_bI0, c2, if_true, mR0 hS, lit_aI, mA0 hS, hD3, e2, mP29 hS]
    rfl
  · obtain ⟨k1, k2, k3, k4, k5⟩ := hR'.1
    have hD5 : μ5 (x + 176) = μ (x + 176) := by funext q; exact h5 _ _ (by omega) (by omega) (by omega) (by omega) (by omega) (by omega) (by omega) (by omega)
    refine ⟨k1, k2, ?_, by rw [hD5]; exact k4, ?_⟩
    · rw [hD5]
      exact Sim.frX k4 k3 (fun a q h q1 q2 => h5 a q (by omega) (by omega) (by omega) (by omega) (by omega) (by omega) (by omega) (by omega))
    · refine ⟨by rw [h5 (x + 143) 1 (by omega) (by omega) (by omega) (by omega) (by omega) (by omega) (by omega) (by omega)]; exact k5.1, fun i hi => ?_⟩
      rw [h5 (x + 143 + 2) i (by omega) (by omega) (by omega) (by omega) (by omega) (by omega) (by omega) (by omega)]; exact k5.2 i hi
  · refine ⟨hTape.congr (fun a q h => h5 a q (by omega) (by omega) (by omega) (by omega) (by omega) (by omega) (by omega) (by omega)), ⟨nD D 2, b2, ?_, ?_, fun i hi => ?_⟩, hTrace.congr (fun a q h => h5 a q (by omega) (by omega) (by omega) (by omega) (by omega) (by omega) (by omega) (by omega)), hBase.congr (fun _ _ => rfl) (fun a q h => h5 a q (by omega) (by omega) (by omega) (by omega) (by omega) (by omega) (by omega) (by omega)), hn, K, ρ, hK.congr (fun a q h => h5 a q (by omega) (by omega) (by omega) (by omega) (by omega) (by omega) (by omega) (by omega)), hSh.congr (fun a q h => h5 a q (by omega) (by omega) (by omega) (by omega) (by omega) (by omega) (by omega) (by omega))⟩
    · rw [r4 _ _ (by omega) (by omega), h4 _ _ (by omega), p4 _ _ (by omega) (by omega) (by omega) (by omega), hμ2, up2_same]
    · rw [r4 _ _ (by omega) (by omega), hμ4, up2_same]
    · obtain ⟨u1, u2⟩ := p2 i (by omega) hi
      obtain ⟨v1, v2⟩ := r2 i (by omega) hi
      rw [show x + 175 + 14 = x + 189 from by omega] at v1 v2
      rw [v1, v2, r4 _ _ (by omega) (by omega), r4 _ _ (by omega) (by omega), h4 _ _ (by omega), h4 _ _ (by omega), u1, u2]
      exact ⟨rfl, rfl⟩
end PROVE
