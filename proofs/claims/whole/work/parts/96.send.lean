-- ===== send =====
section SEND
variable {n : Nat} {st : Nat → Nat} {S : SH} {μ : MU} {x b m c l : Nat} {D : DR}
theorem inv678 (hI : Inv D) {i : Nat} (hi : i < nD D 2) {D' : DR} (hd : ∀ q, ¬ (q = 171 + i ∨ q = 187 + i ∨ q = 203 + i) → D' q = D q) (v6 : isO (D' (171 + i)) 10000) (v8 : isN (D' (203 + i)) 2) : Inv D' := by
  obtain ⟨e0, b0⟩ := hI.today
  obtain ⟨e1, b1⟩ := hI.wards
  obtain ⟨e2, b2⟩ := hI.men
  obtain ⟨e3, b3⟩ := hI.words
  obtain ⟨e4, b4⟩ := hI.bars
  obtain ⟨e5, b5⟩ := hI.shes
  obtain ⟨e6, b6⟩ := hI.wets
  obtain ⟨e8, b8⟩ := hI.heaped
  have n2 : nD D' 2 = nD D 2 := nD_eq (hd 2 (by omega))
  refine ⟨IA.congr hI (fun q h => by exact hd q (by omega)), Iw.congr hI (fun q h => by exact hd q (by omega)), ?_, Iv.congr hI (fun q h => by exact hd q (by omega)), Ib.congr hI (fun q h => by exact hd q (by omega)), Is.congr hI (fun q h => by exact hd q (by omega)), Ix.congr hI (fun q h => by exact hd q (by omega)), Ih.congr hI (fun q h => by exact hd q (by omega)), Il.congr hI (fun q h => by exact hd q (by omega)), Ir.congr hI (fun q h => by exact hd q (by omega))⟩
  refine ⟨isC_of (by rw [hd _ (by omega)]; exact e2) b2 (by omega), ?_, ?_, ?_, ?_, ?_, ?_, ?_, ?_⟩
  all_goals rw [n2]; intro k hk
  · rw [nD_eq (D := D) (j := 1) (hd _ (by omega)), hd _ (by omega)]; exact hI.mWard k hk
  · rw [hd _ (by omega)]; exact hI.mClub k hk
  · rw [hd _ (by omega)]; exact hI.mName k hk
  · rw [hd _ (by omega)]; exact hI.mFat k hk
  · rw [hd _ (by omega)]; exact hI.mHand k hk
  · rw [hd _ (by omega)]; exact hI.mHow k hk
  · by_cases hki : k = i
    · subst hki; exact v6
    · rw [hd _ (by omega)]; exact hI.mSent k hk
  · by_cases hki : k = i
    · subst hki; exact v8
    · rw [hd _ (by omega)]; exact hI.mRec k hk
theorem core678 (hX : ShX S x) (hS : ShM S (x + 175)) (hL0 : Law0 μ (x + 143)) (hs : Sim μ (x + 1) D) (hI : Inv D) {i : Nat} (hi : i < nD D 2) {μ3 : MU} (hn : ∀ a j, x + 1 ≤ a ∧ a ≤ x + 148 → ¬ a = x + 14 → ¬ (x + 119 ≤ a ∧ 4 ≤ (a - (x + 119)) % 6) → ¬ (a = x + 1 + 22 + 2 * i ∧ (j = 6 ∨ j = 7 ∨ j = 8)) → μ3 a j = μ a j) (hd : ∀ q, ¬ (q = 171 + i ∨ q = 187 + i ∨ q = 203 + i) → μ3 (x + 175 + 1) q = D q)
    (h6 : μ3 (x + 1 + 22 + 2 * i) 6 = μ3 (x + 175 + 1) (171 + i)) (h7 : μ3 (x + 1 + 22 + 2 * i) 7 = μ3 (x + 175 + 1) (187 + i)) (h8 : μ3 (x + 1 + 22 + 2 * i) 8 = μ3 (x + 175 + 1) (203 + i)) (v6 : isO (μ3 (x + 175 + 1) (171 + i)) 10000) (v8 : isN (μ3 (x + 175 + 1) (203 + i)) 2) : Core S μ3 x := by
  obtain ⟨e0, b0⟩ := hI.today
  obtain ⟨e1, b1⟩ := hI.wards
  obtain ⟨e2, b2⟩ := hI.men
  obtain ⟨e3, b3⟩ := hI.words
  obtain ⟨e4, b4⟩ := hI.bars
  obtain ⟨e5, b5⟩ := hI.shes
  obtain ⟨e6, b6⟩ := hI.wets
  obtain ⟨e8, b8⟩ := hI.heaped
  have z0 := hs.today
  have z1 := hs.wardN
  have z2 := hs.manN
  have z3 := hs.wordN
  have z4 := hs.barN
  have z5 := hs.sheN
  have z6 := hs.wetN
  have z8 := hs.heapN
  have n2 : nD (μ3 (x + 175 + 1)) 2 = nD D 2 := nD_eq (hd 2 (by omega))
  refine Core.mk' (μ := μ) hX hS hL0 (fun a j h => hn a j (by omega) (by omega) (by omega) (by omega)) ?_ (inv678 hI hi hd v6 v8)
  refine ⟨GA.congr hI hs (fun a j h => by exact hn a j (by omega) (by omega) (by omega) (by omega)) (fun q h => by exact hd q (by omega)), Gx.congr hI hs (fun a j h => by exact hn a j (by omega) (by omega) (by omega) (by omega)) (fun q h => by exact hd q (by omega)), Gw.congr hI hs (fun a j h => by exact hn a j (by omega) (by omega) (by omega) (by omega)) (fun q h => by exact hd q (by omega)), ?_, Gv.congr hI hs (fun a j h => by exact hn a j (by omega) (by omega) (by omega) (by omega)) (fun q h => by exact hd q (by omega)), Gb.congr hI hs (fun a j h => by exact hn a j (by omega) (by omega) (by omega) (by omega)) (fun q h => by exact hd q (by omega)), Gs.congr hI hs (fun a j h => by exact hn a j (by omega) (by omega) (by omega) (by omega)) (fun q h => by exact hd q (by omega)), Ge.congr hI hs (fun a j h => by exact hn a j (by omega) (by omega) (by omega) (by omega)) (fun q h => by exact hd q (by omega)), Gr.congr hI hs (fun a j h => by exact hn a j (by omega) (by omega) (by omega) (by omega)) (fun q h => by exact hd q (by omega)), Gh.congr hI hs (fun a j h => by exact hn a j (by omega) (by omega) (by omega) (by omega)) (fun q h => by exact hd q (by omega)), Gl.congr hI hs (fun a j h => by exact hn a j (by omega) (by omega) (by omega) (by omega)) (fun q h => by exact hd q (by omega))⟩
  refine ⟨by rw [hn _ _ (by omega) (by omega) (by omega) (by omega), hd _ (by omega), z2], ?_, ?_⟩
  · rw [n2]
    intro k q hk hq
    by_cases hki : k = i ∧ (q = 6 ∨ q = 7 ∨ q = 8)
    · obtain ⟨rfl, hq3⟩ := hki
      rcases hq3 with rfl | rfl | rfl
      · rw [show 75 + 16 * 6 + k = 171 + k from by omega]; exact h6
      · rw [show 75 + 16 * 7 + k = 187 + k from by omega]; exact h7
      · rw [show 75 + 16 * 8 + k = 203 + k from by omega]; exact h8
    · rw [hn _ _ (by omega) (by omega) (by omega) (by omega), hd _ (by omega)]
      exact hs.man k q hk hq
  · rw [n2]
    intro k q hk hq
    rw [hn _ _ (by omega) (by omega) (by omega) (by omega), hd _ (by omega)]
    exact hs.fear k q hk hq
theorem law_same {D' : DR} (h7 : D' 7 = D 7) (hd : ∀ q, 1020 ≤ q → D' q = D q) : lawT D' = lawT D ∧ lawN D' = lawN D := by
  have hi : lawI D' = lawI D := by unfold lawI nD; rw [h7]
  refine ⟨?_, ?_⟩
  · funext k
    unfold lawT
    rw [hi, hd _ (by omega)]
  · unfold lawN nD
    rw [h7, hd _ (by omega)]
theorem op_send (hR : R n st S μ x b) : Res (f_X11_send (some x)) (f_X12_send (some (x + 175))) n st S μ x b := by
  have hR' := hR
  obtain ⟨⟨hX, hS, hs, hI, hL0⟩, hRest⟩ := hR
  have hC := hX.city
  have hBase := hRest.2.2.2.1
  obtain ⟨D, hD⟩ : ∃ D, μ (x + 175 + 1) = D := ⟨_, rfl⟩
  replace hs : Sim μ (x + 1) (μ (x + 175 + 1)) := hs
  replace hI : Inv (μ (x + 175 + 1)) := hI
  rw [hD] at hs hI
  obtain ⟨e0, b0⟩ := hI.today
  obtain ⟨e1, b1⟩ := hI.wards
  obtain ⟨e2, b2⟩ := hI.men
  obtain ⟨e3, b3⟩ := hI.words
  obtain ⟨e4, b4⟩ := hI.bars
  obtain ⟨e5, b5⟩ := hI.shes
  obtain ⟨e6, b6⟩ := hI.wets
  obtain ⟨e8, b8⟩ := hI.heaped
  have z0 := hs.today
  have z1 := hs.wardN
  have z2 := hs.manN
  have z3 := hs.wordN
  have z4 := hs.barN
  have z5 := hs.sheN
  have z6 := hs.wetN
  have z8 := hs.heapN
  have hU := lawU_now hs hI hL0
  have hlA := lawA_lt hI
  have hLw := hC.law (lawA D) hlA
  obtain ⟨μ1, k1, k2, k3, -⟩ := k_countKnown (n := n) (st := st) hX hs hI hU (D 0)
  have hs1 : Sim μ1 (x + 1) D := Sim.frX hI hs (fun a j h1 h2 h3 => k2 a j (by omega) (by omega) (by omega))
  have hU1 : LawU μ1 (x + 1 + 118 + 6 * lawA D) (lawT D) (lawN D) := hU.congr (fun a j h => k2 a j (by omega) (by omega) (by omega))
  obtain ⟨g, hg⟩ : ∃ g, g = kgS D (lawT D) (lawN D) (D 0) := ⟨_, rfl⟩
  rw [← hg] at k3
  have hL : ∀ i, i < nD D 2 → cLs D g (nD D 5) i < 2 ^ 30 := fun i _ => cLs_lt D g b5 i
  obtain ⟨μ3, wg1, wg2⟩ := k_whoGoes (n := n) (st := st) hX k3 b2 hL (fun i _ => cGs_lt hI g i) hlA hU1 (law_in hI).2
  obtain ⟨go, hgo⟩ : ∃ go, go = goS (lawT D) (lawN D) (cntB g (nD D 5) 0) (cLs D g (nD D 5)) (cGs D g (nD D 5)) (nD D 2) := ⟨_, rfl⟩
  rw [← hgo] at wg1
  have hgr : isO go (nD D 2) := by rw [hgo]; exact goS_rng _ _ _ _ _ _
  have hlN := k_lawNow (n := n) (st := st) hC hs1 hI
  have hF3 : ∀ a i, ¬ (x + 158 ≤ a ∧ a ≤ x + 162) → ¬ a = x + 1 + 118 + 6 * lawA D + 4 → ¬ a = x + 1 + 118 + 6 * lawA D + 5 → μ3 a i = μ a i := fun a i q1 q2 q3 => by rw [wg2 a i q2 q3, k2 a i q1 q2 q3]
  have hs3 : Sim μ3 (x + 1) D := Sim.frX hI hs (fun a j h1 h2 h3 => hF3 a j (by omega) (by omega) (by omega))
  have hD3 : μ3 (x + 175 + 1) = D := by funext q; rw [hF3 _ _ (by omega) (by omega) (by omega), hD]
  have rAll : ∀ μX : MU, (∀ a j, x + 175 ≤ a ∨ a < x → μX a j = μ a j) → ∃ μ4, f_X12_countAt (some (x + 175)) (D 0) (mkH n st S μX) = some (mkH n st S μ4) ∧ μ4 (x + 175) 26 = go ∧ FrC (x + 175) μX μ4 := by
    intro μX hX0
    obtain ⟨μ4, s1, -, -, -, -, s26, s7⟩ := r_countAt (n := n) (st := st) (x := x) (b := b) (μ := μX) (D := D) hS (by omega) (hBase.congr (fun _ _ => rfl) (fun a j q => hX0 a j (by omega))) (by funext q; rw [hX0 _ _ (by omega), hD]) hI hU (D 0)
    rw [← hg, ← hgo] at s26
    exact ⟨μ4, s1, s26, s7⟩
  have x0 : μ3 (x + 1) 0 = D 0 := hs3.today
  by_cases c3 : go < 0
  · rw [if_pos c3] at wg1
    have m3 : (-3 : Int32) < 0 := by decide
    obtain ⟨μ4, s1, s26, s7⟩ := rAll μ3 (fun a j h => hF3 a j (by omega) (by omega) (by omega))
    refine ⟨-3, mkH n st S μ3, n, S, μ4, ?_, ?_, hR'.cnt hlA hF3 s7⟩
    · simp only [f_X11_send, xR0 hX, some_bind, cI0 hC, z0, xR3 hX, cck hC, k1, hlN, pock hX, wg1, m3, if_true]
    · simp (disch := omega) only [f_X12_send, mR0 hS, some_bind, lit_aI, mA0 hS, hD3, rck hS, s1, mI26 hS, s26, c3, if_true]
  · rw [if_neg c3] at wg1
    obtain ⟨w, hw, ew⟩ : ∃ w, w < nD D 2 ∧ go = nI w := by
      rcases hgr with h | h
      · rw [h] at c3; exact absurd (by decide) c3
      · exact h
    have n1 := n1_ne (show w < 2 ^ 31 by omega)
    have kS := k_isSent (n := n) (st := st) hC hs3 hI hw (D 0) (-1)
    rw [show (decide (nI w = (-1 : Int32)) || sntB D w (D 0)) = sntB D w (D 0) by simp [n1]] at kS
    rw [ew] at wg1 c3
    by_cases hsn : sntB D w (D 0) = true
    · obtain ⟨μ4, s1, s26, s7⟩ := rAll μ3 (fun a j h => hF3 a j (by omega) (by omega) (by omega))
      have hD4 : μ4 (x + 175 + 1) = D := by funext q; rw [s7 _ _ (by omega) (by omega), hD3]
      have rS := r_isSent (n := n) (st := st) hS hD4 (i := w) (by omega) (D 0)
      rw [ew] at s26
      refine ⟨-4, mkH n st S μ3, n, S, μ4, ?_, ?_, hR'.cnt hlA hF3 s7⟩
      · simp only [f_X11_send, xR0 hX, some_bind, cI0 hC, z0, xR3 hX, cck hC, k1, hlN, pock hX, wg1, c3, if_false, x0, kS, ite_bI0, hsn, if_true]
      · simp (disch := omega) only [f_X12_send, mR0 hS, some_bind, lit_aI, mA0 hS, hD3, rck hS, s1, mI26 hS, s26, c3, if_false, hD4, rS, ite_bI0, hsn, if_true]
    · obtain ⟨yr, hyr⟩ : ∃ y, y = μ (x + 1 + 118 + 6 * lawA D) 1 := ⟨_, rfl⟩
      obtain ⟨μX, hμX⟩ : ∃ q, q = (up2 (up2 (up2 μ3 (x + 1 + 22 + 2 * w) (6) (D 0)) (x + 1 + 22 + 2 * w) (7) (D 0 + yr * 360 - 1)) (x + 1 + 22 + 2 * w) (8) (0)) := ⟨_, rfl⟩
      have hX1 : ∀ a j, ¬ (a = x + 1 + 22 + 2 * w ∧ (j = 6 ∨ j = 7 ∨ j = 8)) → μX a j = μ3 a j := fun a j h => by rw [hμX]; simp (disch := omega) only [up2_ne]
      obtain ⟨μ4, s1, s26, s7⟩ := rAll μX (fun a j h => by rw [hX1 a j (by omega), hF3 a j (by omega) (by omega) (by omega)])
      rw [ew] at s26
      have hDX : μX (x + 175 + 1) = D := by funext q; rw [hX1 _ _ (by omega), hD3]
      have hD4 : μ4 (x + 175 + 1) = D := by funext q; rw [s7 _ _ (by omega) (by omega), hDX]
      have rS := r_isSent (n := n) (st := st) hS hD4 (i := w) (by omega) (D 0)
      obtain ⟨μ5, hμ5⟩ : ∃ q, q = up2 μ4 (x + 175 + 1) (171 + w) (D 0) := ⟨_, rfl⟩
      have h5D : ∀ q, ¬ (q = 171 + w ∨ q = 187 + w ∨ q = 203 + w) → μ5 (x + 175 + 1) q = D q := fun q h => by rw [hμ5, up2_ne (by omega), hD4]
      have hI5 : Inv (μ5 (x + 175 + 1)) := inv678 hI hw h5D (by rw [hμ5, up2_same]; exact Or.inr ⟨nD D 0, by omega, e0⟩) (by rw [hμ5, up2_ne (by omega), hD4]; exact hI.mRec w hw)
      have hls := law_same (D := D) (D' := μ5 (x + 175 + 1)) (h5D 7 (by omega)) (fun q h => h5D q (by omega))
      have hU5 : LawU μ (x + 1 + 118 + 6 * lawA D) (lawT (μ5 (x + 175 + 1))) (lawN (μ5 (x + 175 + 1))) := by rw [hls.1, hls.2]; exact hU
      have hB5 : BaseOK st S μ5 x b := hBase.congr (fun _ _ => rfl) (fun a j q => by rw [hμ5, up2_ne (by omega), s7 a j (by omega) (by omega), hX1 a j (by omega), hF3 a j (by omega) (by omega) (by omega)])
      obtain ⟨μ6, y1, y2, -⟩ := r_ask (n := n) (st := st) (x := x) (b := b) (μ := μ5) hS (by omega) hB5 rfl hI5 hU5 (i := 4) (by omega) 10 (F' := fun _ => 0) (by intro k h; omega)
      rw [hU5.years, ← hyr] at y1
      have y1' : f_X12_ruled (some (x + 175)) 4 10 (mkH n st S μ5) = some (yr, mkH n st S μ6) := y1
      obtain ⟨μ7, hμ7⟩ : ∃ q, q = (up2 (up2 μ6 (x + 175 + 1) (187 + w) (D 0 + 360 * yr - 1)) (x + 175 + 1) (203 + w) (0)) := ⟨_, rfl⟩
      have h7n : ∀ a j, ¬ a = x + 175 + 1 → ¬ (a = x + 1 + 22 + 2 * w ∧ (j = 6 ∨ j = 7 ∨ j = 8)) → ¬ (x + 158 ≤ a ∧ a ≤ x + 162) → ¬ a = x + 1 + 118 + 6 * lawA D + 4 → ¬ a = x + 1 + 118 + 6 * lawA D + 5 → ¬ (a = x + 175 ∧ ((11 ≤ j ∧ j ≤ 18) ∨ (22 ≤ j ∧ j ≤ 26))) → ¬ (x + 175 + 4 ≤ a ∧ a ≤ x + 175 + 12) → μ7 a j = μ a j := by
        intro a j q1 q2 q3 q4 q5 q6 q7
        rw [hμ7, up2_ne (by omega), up2_ne (by omega), y2 a j (by omega) (by omega) (by omega), hμ5, up2_ne (by omega), s7 a j q6 q7, hX1 a j q2, hF3 a j q3 q4 q5]
      have h7D : ∀ q, ¬ (q = 171 + w ∨ q = 187 + w ∨ q = 203 + w) → μ7 (x + 175 + 1) q = D q := fun q h => by rw [hμ7, up2_ne (by omega), up2_ne (by omega), y2 _ _ (by omega) (by omega) (by omega)]; exact h5D q h
      have ma : ∀ j, μ7 (x + 1 + 22 + 2 * w) j = μX (x + 1 + 22 + 2 * w) j := fun j => by rw [hμ7, up2_ne (by omega), up2_ne (by omega), y2 _ _ (by omega) (by omega) (by omega), hμ5, up2_ne (by omega), s7 _ _ (by omega) (by omega)]
      have e171 : μ7 (x + 175 + 1) (171 + w) = D 0 := by rw [hμ7, up2_ne (by omega), up2_ne (by omega), y2 _ _ (by omega) (by omega) (by omega), hμ5, up2_same]
      have e187 : μ7 (x + 175 + 1) (187 + w) = D 0 + 360 * yr - 1 := by rw [hμ7, up2_ne (by omega), up2_same]
      have e203 : μ7 (x + 175 + 1) (203 + w) = 0 := by rw [hμ7, up2_same]
      refine ⟨nI w, mkH n st S μX, n, S, μ7, ?_, ?_, ?_, hRest.congr ?_⟩
      · have hsA : Sim (up2 μ3 (x + 1 + 22 + 2 * w) 6 (D 0)) (x + 1) (fun q => if q = 171 + w then D 0 else D q) → True := fun _ => trivial
        have hlN3 : f_X2_lawNow (some (x + 1)) (mkH n st S (up2 μ3 (x + 1 + 22 + 2 * w) 6 (D 0))) = some (some (x + 1 + 118 + 6 * lawA D)) := by
          have z7 : up2 μ3 (x + 1 + 22 + 2 * w) 6 (D 0) (x + 1) 14 = D 7 := by rw [up2_ne (by omega)]; exact hs3.force
          unfold lawA
          rcases hI.law with h | ⟨q, hq, h⟩
          · have h7 : D 7 < 0 := by rw [h]; decide
            rw [if_pos h7]
            simp (disch := omega) only [f_X2_lawNow, cR13 hC, some_bind, cI14 hC, z7, h7, if_true, lit_aR, cElaws hC]
          · have h7 : ¬ D 7 < 0 := by rw [h]; exact nI_pos (by omega)
            rw [if_neg h7, nD_of h (by omega)]
            rw [h] at h7 z7
            simp (disch := omega) only [f_X2_lawNow, cR13 hC, some_bind, cI14 hC, z7, h7, if_false, cElaws hC]
        have eyr : up2 μ3 (x + 1 + 22 + 2 * w) 6 (D 0) (x + 1 + 118 + 6 * lawA D) 1 = yr := by rw [up2_ne (by omega), hF3 _ _ (by omega) (by omega) (by omega), hyr]
        have x0' : up2 μ3 (x + 1 + 22 + 2 * w) 6 (D 0) (x + 1) 0 = D 0 := by rw [up2_ne (by omega)]; exact x0
        rw [hμX]
        simp (disch := omega) only [f_X11_send, xR0 hX, some_bind, cI0 hC, z0, xR3 hX, cck hC, k1, hlN, pock hX, wg1, c3, if_false, x0, kS, ite_bI0, hsn, Bool.false_eq_true, cR5 hC, cEmen hC, oManP hC, x0', hlN3, lI1 hLw, eyr, oManZ0 hC]
      · have e0' : μ5 (x + 175 + 1) 0 = D 0 := h5D 0 (by omega)
        rw [hμ7]
        simp (disch := omega) only [f_X12_send, mR0 hS, some_bind, lit_aI, mA0 hS, hDX, rck hS, s1, mI26 hS, s26, c3, if_false, hD4, rS, ite_bI0, hsn, Bool.false_eq_true, lit_add, mS0 hS]
        rw [← hμ5]
        simp (disch := omega) only [lit_aI, mA0 hS, e0', some_bind, f_X12_years, rck hS, y1', mS0 hS, mR0 hS, lit_add]
      · refine core678 hX hS hL0 hs hI hw (fun a j q1 q2 q3 q4 => h7n a j (by omega) q4 (by omega) (by omega) (by omega) (by omega) (by omega)) h7D ?_ ?_ ?_ ?_ ?_
        · rw [ma, e171, hμX]; simp (disch := omega) only [up2_ne, up2_same]
        · rw [ma, e187, hμX]
          simp (disch := omega) only [up2_ne, up2_same]
          rw [Int32.mul_comm]
        · rw [ma, e203, hμX]; simp (disch := omega) only [up2_same]
        · rw [e171]; exact Or.inr ⟨nD D 0, by omega, e0⟩
        · rw [e203]; exact ⟨0, by omega, rfl⟩
      · intro a j h
        unfold oth at h
        exact h7n a j (by omega) (by omega) (by omega) (by omega) (by omega) (by omega) (by omega)
end SEND
