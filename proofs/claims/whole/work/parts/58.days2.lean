def pasM (μ : MU) (c : Nat) (D : DR) (v : Nat) : MU := fun a i => if c + 55 ≤ a ∧ a < c + 55 + 2 * v ∧ (a - c - 55) % 2 = 0 ∧ i < nD D 2 ∧ nwB D (thB D) ((a - c - 55) / 2) i = true then D 0 + 1 else μ a i
def anyT (D : DR) (th : Bool) : Bool := anyS (fun v => anyS (nwB D th v) (nD D 2) 0) (nD D 3) 0
def itP : Nat → DR → DR
  | 0, D => D
  | k + 1, D => pasD (itP k D)
section DAYS2
variable {n : Nat} {st : Nat → Nat} {S : SH} {μ : MU} {x b m c : Nat} {D : DR}
theorem pasM_row {v : Nat} (hv : v < 8) : pasM μ c D v (c + 54 + 2 * v + 1) = μ (c + 54 + 2 * v + 1) := by
  funext i
  unfold pasM
  rw [if_neg (by omega)]
theorem pasM_out {a i v : Nat} (h : a < c + 55 ∨ c + 55 + 2 * v ≤ a ∨ (a - c - 55) % 2 = 1) : pasM μ c D v a i = μ a i := by
  unfold pasM
  rw [if_neg (by omega)]
theorem pasM_step (v : Nat) : setR (pasM μ c D v) (c + 54 + 2 * v + 1) (fun i => if i < nD D 2 ∧ nwB D (thB D) v i = true then D 0 + 1 else pasM μ c D v (c + 54 + 2 * v + 1) i) = pasM μ c D (v + 1) := by
  funext a i
  by_cases h : a = c + 54 + 2 * v + 1
  · subst h
    rw [setR_same]
    have e1 : (c + 54 + 2 * v + 1 - c - 55) / 2 = v := by omega
    have e2 : (c + 54 + 2 * v + 1 - c - 55) % 2 = 0 := by omega
    have e3 : pasM μ c D v (c + 54 + 2 * v + 1) i = μ (c + 54 + 2 * v + 1) i := by unfold pasM; rw [if_neg (by omega)]
    rw [e3]
    unfold pasM
    rw [e1, e2]
    by_cases hh : i < nD D 2 ∧ nwB D (thB D) v i = true
    · rw [if_pos hh, if_pos ⟨by omega, by omega, rfl, hh.1, hh.2⟩]
    · rw [if_neg hh, if_neg (fun q => hh q.2.2.2)]
  · rw [setR_ne h]
    unfold pasM
    congr 1
    apply propext
    constructor
    · intro ⟨h1, h2, h3, h4, h5⟩; exact ⟨h1, by omega, h3, h4, h5⟩
    · intro ⟨h1, h2, h3, h4, h5⟩; exact ⟨h1, by omega, h3, h4, h5⟩
theorem k_passDay (hC : ShC S c) (hs : Sim μ c D) (hI : Inv D) : f_X2_passDay (some c) (mkH n st S μ) = some (bI (anyT D (thB D)), mkH n st S (up2 (pasM μ c D (nD D 3)) c 0 (D 0 + 1))) := by
  obtain ⟨e0, b0⟩ := hI.today
  obtain ⟨e1, b1⟩ := hI.wards
  obtain ⟨e2, b2⟩ := hI.men
  obtain ⟨e3, b3⟩ := hI.words
  obtain ⟨e4, b4⟩ := hI.bars
  obtain ⟨e5, b5⟩ := hI.shes
  obtain ⟨e6, b6⟩ := hI.wets
  obtain ⟨e8, b8⟩ := hI.heaped
  have z0 := hs.today
  have z1 := hs.wardN
  have z2 := hs.manN
  have z3 := hs.wordN
  have z4 := hs.barN
  have z5 := hs.sheN
  have z6 := hs.wetN
  have z8 := hs.heapN
  have hl : ∀ k v fu (an : Bool), v + k = nD D 3 → k < fu → b_X2_passDay_4 fu (some c) (bI an) (nI v) (mkH n st S (pasM μ c D v)) = some (bI (an || anyS (fun v => anyS (nwB D (thB D) v) (nD D 2) 0) k v), mkH n st S (up2 (pasM μ c D (nD D 3)) c 0 (D 0 + 1))) := by
    intro k
    induction k with
    | zero =>
      intro v fu an hj hf
      obtain ⟨fu, rfl⟩ : ∃ q, fu = q + 1 := ⟨fu - 1, by omega⟩
      obtain rfl : v = nD D 3 := by omega
      have q6 : ¬ nI (nD D 3) < nI (nD D 3) := nI_nlt (by omega) (by omega)
      have p8 : pasM μ c D (nD D 3) c 8 = nI (nD D 3) := by rw [pasM_out (by omega), z3]; exact e3
      have p0 : pasM μ c D (nD D 3) c 0 = D 0 := by rw [pasM_out (by omega), z0]
      simp (disch := omega) only [b_X2_passDay_4, cI8 hC, cI0 hC, cP0 hC, some_bind, p8, p0, q6, if_false, rZ_bI, anyS, Bool.or_false]
    | succ k ih =>
      intro v fu an hj hf
      obtain ⟨fu, rfl⟩ : ∃ q, fu = q + 1 := ⟨fu - 1, by omega⟩
      have q6 : nI v < nI (nD D 3) := nI_lt (by omega) (by omega)
      have p8 : pasM μ c D v c 8 = nI (nD D 3) := by rw [pasM_out (by omega), z3]; exact e3
      have hM : SprM (pasM μ c D v) c D v := by
        refine ⟨by rw [pasM_out (by omega), z2]; exact e2, by rw [pasM_out (by omega), z0], ?_, ?_⟩
        · intro i j hi hj; rw [pasM_out (by omega)]; exact hs.man i j hi hj
        · intro i hi; rw [pasM_out (by omega)]; exact hs.heard v i (by omega) hi
      have hsp := k_spread (n := n) (st := st) hC hI (v := v) (by omega) hM
      rw [pasM_step] at hsp
      have ih' := fun an => ih (v + 1) fu an (by omega) (by omega)
      have iht := ih' true
      simp only [bI_t] at iht
      simp (disch := omega) only [b_X2_passDay_4, cI8 hC, some_bind, p8, q6, if_true, cR7 hC, cEwords hC, cck hC, hsp, ite_bI0, nI_1, ih', iht]
      rw [anyS]
      cases anyS (nwB D (thB D) v) (nD D 2) 0
      · simp
      · simp
  have h0 := hl (nD D 3) 0 FU false (by omega) (by simp only [FU]; omega)
  have em : pasM μ c D 0 = μ := by funext a i; exact pasM_out (by omega)
  rw [em, Bool.false_or] at h0
  exact h0
theorem pasD_out {q : Nat} (h0 : q ≠ 0) (h : q < 491 ∨ 619 ≤ q) : pasD D q = D q := by
  unfold pasD
  rw [if_neg h0, parD_out h]
theorem pasD_0 : pasD D 0 = D 0 + 1 := by simp [pasD]
theorem pasD_nD {j : Nat} (h0 : j ≠ 0) (h : j < 491 ∨ 619 ≤ j) : nD (pasD D) j = nD D j := by rw [nD, nD, pasD_out h0 h]
theorem pasD_at {i v : Nat} (hi : i < nD D 2) (h16 : nD D 2 ≤ 16) (hv : v < 8) (hv' : v < nD D 3) : pasD D (491 + 8 * i + v) = if nwB D (thB D) v i = true then D 0 + 1 else D (491 + 8 * i + v) := by
  unfold pasD
  rw [if_neg (by omega), parD_at hi h16 hv]
  by_cases h : nwB D (thB D) v i = true
  · rw [if_pos ⟨Or.inl hv', h⟩, if_pos h]
  · rw [if_neg (fun q => h q.2), if_neg h]
theorem pasD_inv (hI : Inv D) (ht : nD D 0 < 9999) : Inv (pasD D) := by
  obtain ⟨e0, b0⟩ := hI.today
  obtain ⟨e1, b1⟩ := hI.wards
  obtain ⟨e2, b2⟩ := hI.men
  obtain ⟨e3, b3⟩ := hI.words
  obtain ⟨e4, b4⟩ := hI.bars
  obtain ⟨e5, b5⟩ := hI.shes
  obtain ⟨e6, b6⟩ := hI.wets
  obtain ⟨e8, b8⟩ := hI.heaped
  have n0 : nD (pasD D) 0 = nD D 0 + 1 := nD_of (by rw [pasD_0, e0, nI_1]) (by omega)
  have n2 : nD (pasD D) 2 = nD D 2 := pasD_nD (by omega) (by omega)
  have n3 : nD (pasD D) 3 = nD D 3 := pasD_nD (by omega) (by omega)
  refine ⟨?_, Iw.congr hI (fun q h => by exact pasD_out (by omega) (by omega)), Im.congr hI (fun q h => by exact pasD_out (by omega) (by omega)), ?_, Ib.congr hI (fun q h => by exact pasD_out (by omega) (by omega)), Is.congr hI (fun q h => by exact pasD_out (by omega) (by omega)), Ix.congr hI (fun q h => by exact pasD_out (by omega) (by omega)), Ih.congr hI (fun q h => by exact pasD_out (by omega) (by omega)), Il.congr hI (fun q h => by exact pasD_out (by omega) (by omega)), Ir.congr hI (fun q h => by exact pasD_out (by omega) (by omega))⟩
  · exact isC_of (k := nD D 0 + 1) (by rw [pasD_0, e0, nI_1]) (by omega) (by omega)
  · refine ⟨isC_of (by rw [pasD_out (by omega) (by omega)]; exact e3) b3 (by omega), ?_⟩
    intro i v hi hv
    rw [n2] at hi
    rw [n3] at hv
    rw [n0, pasD_at hi b2 (by omega) hv]
    split
    · exact Or.inr ⟨nD D 0 + 1, by omega, by rw [e0, nI_1]⟩
    · rcases hI.heard i v hi hv with e | ⟨k, hk, e⟩
      · exact Or.inl e
      · exact Or.inr ⟨k, by omega, e⟩
theorem pas_sim (hs : Sim μ c D) (hI : Inv D) (μ' : MU) (h0 : μ' c 0 = D 0 + 1) (hm : ∀ a i, ¬ (a = c ∧ i = 0) → μ' a i = pasM μ c D (nD D 3) a i) : Sim μ' c (pasD D) := by
  obtain ⟨e0, b0⟩ := hI.today
  obtain ⟨e1, b1⟩ := hI.wards
  obtain ⟨e2, b2⟩ := hI.men
  obtain ⟨e3, b3⟩ := hI.words
  obtain ⟨e4, b4⟩ := hI.bars
  obtain ⟨e5, b5⟩ := hI.shes
  obtain ⟨e6, b6⟩ := hI.wets
  obtain ⟨e8, b8⟩ := hI.heaped
  have n2 : nD (pasD D) 2 = nD D 2 := pasD_nD (by omega) (by omega)
  have n3 : nD (pasD D) 3 = nD D 3 := pasD_nD (by omega) (by omega)
  refine ⟨?_, Gx.congr hI hs (fun a j h => by rw [hm a j (by omega), pasM_out (by omega)]) (fun q h => by exact pasD_out (by omega) (by omega)), Gw.congr hI hs (fun a j h => by rw [hm a j (by omega), pasM_out (by omega)]) (fun q h => by exact pasD_out (by omega) (by omega)), Gm.congr hI hs (fun a j h => by rw [hm a j (by omega), pasM_out (by omega)]) (fun q h => by exact pasD_out (by omega) (by omega)), ?_, Gb.congr hI hs (fun a j h => by rw [hm a j (by omega), pasM_out (by omega)]) (fun q h => by exact pasD_out (by omega) (by omega)), Gs.congr hI hs (fun a j h => by rw [hm a j (by omega), pasM_out (by omega)]) (fun q h => by exact pasD_out (by omega) (by omega)), Ge.congr hI hs (fun a j h => by rw [hm a j (by omega), pasM_out (by omega)]) (fun q h => by exact pasD_out (by omega) (by omega)), Gr.congr hI hs (fun a j h => by rw [hm a j (by omega), pasM_out (by omega)]) (fun q h => by exact pasD_out (by omega) (by omega)), Gh.congr hI hs (fun a j h => by rw [hm a j (by omega), pasM_out (by omega)]) (fun q h => by exact pasD_out (by omega) (by omega)), Gl.congr hI hs (fun a j h => by rw [hm a j (by omega), pasM_out (by omega)]) (fun q h => by exact pasD_out (by omega) (by omega))⟩
  · show μ' c 0 = pasD D 0
    rw [h0, pasD_0]
  · refine ⟨?_, ?_, ?_, ?_⟩
    · rw [hm _ _ (by omega), pasM_out (by omega), pasD_out (by omega) (by omega)]; exact hs.wordN
    · intro v j hv hj
      rw [n3] at hv
      rw [hm _ _ (by omega), pasM_out (by omega), pasD_out (by omega) (by omega)]; exact hs.word v j hv hj
    · intro v i hv hi
      rw [n2] at hi
      rw [n3] at hv
      rw [hm _ _ (by omega), pasD_at hi b2 (by omega) hv]
      have e1 : (c + 54 + 2 * v + 1 - c - 55) / 2 = v := by omega
      have e2' : (c + 54 + 2 * v + 1 - c - 55) % 2 = 0 := by omega
      unfold pasM
      rw [e1, e2']
      by_cases hh : nwB D (thB D) v i = true
      · rw [if_pos ⟨by omega, by omega, rfl, hi, hh⟩, if_pos hh]
      · rw [if_neg (fun q => hh q.2.2.2.2), if_neg hh]; exact hs.heard v i hv hi
    · intro v i hv hi h16
      rw [n2] at hi
      rw [n3] at hv
      rw [hm _ _ (by omega)]
      unfold pasM
      rw [if_neg (by omega)]
      exact hs.unheard v i hv hi h16
-- ===== when nobody new hears =====
theorem no_new (h : anyT D (thB D) = false) (h16 : nD D 2 ≤ 16) (h8 : nD D 3 ≤ 8) {q : Nat} (hq : q ≠ 0) : pasD D q = D q := by
  unfold pasD
  rw [if_neg hq]
  unfold parD
  rw [if_neg]
  intro ⟨h1, h2, h3, h4, h5⟩
  have : anyT D (thB D) = true := by
    unfold anyT
    rw [anyS_iff]
    refine ⟨(q - 491) % 8, by omega, by omega, ?_⟩
    rw [anyS_iff]
    exact ⟨(q - 491) / 8, by omega, by omega, h5⟩
  rw [this] at h
  cases h
theorem anyT_congr {D' : DR} (h : ∀ q, q ≠ 0 → D' q = D q) (th : Bool) : anyT D' th = anyT D th := by
  have n2 : nD D' 2 = nD D 2 := by rw [nD, nD, h 2 (by omega)]
  have n3 : nD D' 3 = nD D 3 := by rw [nD, nD, h 3 (by omega)]
  have hn : ∀ v i, nwB D' th v i = nwB D th v i := by
    intro v i
    unfold nwB heB nbB
    rw [n2]
    simp (disch := omega) only [h]
  unfold anyT
  rw [n2, n3]
  simp only [show nwB D' th = nwB D th from funext fun v => funext fun i => hn v i]
theorem itP_0 (hI : Inv D) (k : Nat) : itP k D 0 = nI (nD D 0 + k) := by
  induction k with
  | zero => exact hI.today.1
  | succ k ih => rw [itP, pasD_0, ih, nI_1]; rfl
theorem itP_inv (hI : Inv D) (k : Nat) (hk : nD D 0 + k ≤ 9999) : Inv (itP k D) := by
  induction k with
  | zero => exact hI
  | succ k ih =>
    refine pasD_inv (ih (by omega)) ?_
    rw [nD_of (itP_0 hI k) (by omega)]
    omega
theorem thB_it (hI : Inv D) (k : Nat) (hk : nD D 0 + k ≤ 9999) : thB (itP k D) = decide ((nD D 0 + k) % 3 = 0) := by
  unfold thB
  rw [itP_0 hI]
  have : iRem (nI (nD D 0 + k)) 3 = nI ((nD D 0 + k) % 3) := pk_rem (d := 3) (by omega) (by decide) (by decide)
  rw [this]
  congr 1
  exact lit_eq (b := 0) (by omega) (by decide)
theorem itP_rest (hI : Inv D) {j N : Nat} (hj : 3 ≤ j) (hN : nD D 0 + N ≤ 9999) (hjN : j ≤ N) (h : ∀ i, j - 3 ≤ i → i < j → anyT (itP i D) (thB (itP i D)) = false) : ∀ k, j + k ≤ N → ∀ q, q ≠ 0 → itP (j + k) D q = itP j D q := by
  have iI := fun k (hk : nD D 0 + k ≤ 9999) => itP_inv hI k hk
  have step : ∀ i, j - 3 ≤ i → i < j → ∀ q, q ≠ 0 → itP (i + 1) D q = itP i D q := by
    intro i h1 h2 q hq
    have := iI i (by omega)
    exact no_new (h i h1 h2) this.men.2 this.words.2 hq
  have e1 := step (j - 3) (by omega) (by omega)
  have e2 := step (j - 2) (by omega) (by omega)
  have e3 := step (j - 1) (by omega) (by omega)
  rw [show j - 3 + 1 = j - 2 from by omega] at e1
  rw [show j - 2 + 1 = j - 1 from by omega] at e2
  rw [show j - 1 + 1 = j from by omega] at e3
  have a3 := h (j - 3) (by omega) (by omega)
  have a2 := h (j - 2) (by omega) (by omega)
  have a1 := h (j - 1) (by omega) (by omega)
  rw [anyT_congr (D := itP j D) (fun q hq => by rw [e3 q hq, e2 q hq, e1 q hq])] at a3
  rw [anyT_congr (D := itP j D) (fun q hq => by rw [e3 q hq, e2 q hq])] at a2
  rw [anyT_congr (D := itP j D) (fun q hq => by rw [e3 q hq])] at a1
  rw [thB_it hI _ (by omega)] at a1 a2 a3
  have both : ∀ th, anyT (itP j D) th = false := by
    intro th
    by_cases m3 : (nD D 0 + (j - 3)) % 3 = 0
    · have m2 : ¬ (nD D 0 + (j - 2)) % 3 = 0 := by omega
      simp only [m3, decide_true] at a3
      simp only [m2, decide_false] at a2
      cases th
      · exact a2
      · exact a3
    · simp only [m3, decide_false] at a3
      by_cases m2 : (nD D 0 + (j - 2)) % 3 = 0
      · simp only [m2, decide_true] at a2
        cases th
        · exact a3
        · exact a2
      · have m1 : (nD D 0 + (j - 1)) % 3 = 0 := by omega
        simp only [m1, decide_true] at a1
        cases th
        · exact a3
        · exact a1
  intro k
  induction k with
  | zero => intro _ q _; rfl
  | succ k ih =>
    intro hk q hq
    have ih' := ih (by omega)
    have hi := iI (j + k) (by omega)
    rw [show j + (k + 1) = (j + k) + 1 from by omega, itP]
    rw [no_new ?_ hi.men.2 hi.words.2 hq, ih' q hq]
    rw [anyT_congr (D := itP j D) ih']
    exact both _
end DAYS2
