-- ===== asking a law, on both sides =====
section ASK
variable {n : Nat} {st : Nat → Nat} {S : SH} {μ : MU} {x b m c L : Nat} {T : Nat → Int32} {N : Nat} {D : DR}
theorem k_holdsL (hL : ShL S L) {i e : Nat} (hi : i < 4) (he : e ≤ 320) (C F : Nat → Int32) : ∀ k j fu (sk : List Int32) (μ1 : MU), j + k = e → k < fu → μ1 (L + 3) i = nI e → μ1 (L + 1) = C → μ1 (L + 4) = F → StkR μ1 (L + 5) sk → sk.length ≤ 40 → ∃ μ', b_X3_holds_9 fu (some L) (nI i) (nI sk.length) (nI j) (mkH n st S μ1) = some (bI (topC (((List.range' j k).map C).foldl (steC F) sk)), mkH n st S μ') ∧ ∀ a q, ¬ a = L + 5 → μ' a q = μ1 a q := by
  intro k
  induction k with
  | zero =>
    intro j fu sk μ1 hj hf h3 h1 h4 hs hl
    obtain ⟨fu, rfl⟩ : ∃ q, fu = q + 1 := ⟨fu - 1, by omega⟩
    obtain rfl : j = e := by omega
    refine ⟨μ1, ?_, fun _ _ _ => rfl⟩
    cases sk with
    | nil =>
      have : ¬ (0 : Int32) < nI ([] : List Int32).length := by decide
      simp (disch := omega) only [b_X3_holds_9, lR5 hL, some_bind, lA5 hL, h3, nn_lt, natF, if_false, this]
      rfl
    | cons a r =>
      have hs' : μ1 (L + 5) r.length = a ∧ StkR μ1 (L + 5) r := hs
      have hl' : r.length + 1 ≤ 40 := hl
      have e1 : nI (r.length + 1) - 1 = nI r.length := nI_m1 _
      have ln : (0 : Int32) < nI (r.length + 1) := nI_lt (a := 0) (by omega) (by omega)
      show b_X3_holds_9 (fu + 1) (some L) (nI i) (nI (r.length + 1)) (nI j) _ = some (bI (decide (a ≠ 0)), _)
      simp (disch := omega) only [b_X3_holds_9, lR5 hL, some_bind, lA5 hL, h3, nn_lt, natF, if_false, ln, if_true, lR7 hL, e1, lA7 hL, hs'.1]
      by_cases ha : a = 0
      · simp [ha, bI]
      · simp [ha, bI]
  | succ k ih =>
    intro j fu sk μ1 hj hf h3 h1 h4 hs hl
    obtain ⟨fu, rfl⟩ : ∃ q, fu = q + 1 := ⟨fu - 1, by omega⟩
    have hc : ∀ q, μ1 (L + 1) q = C q := fun q => by rw [h1]
    obtain ⟨μ2, g1, g2, g3, g4⟩ := k_step (n := n) (st := st) (μ := μ1) hL (C j) hs hl
    rw [h4] at g1 g2 g3
    obtain ⟨μ', r1, r2⟩ := ih (j + 1) fu (steC F sk (C j)) μ2 (by omega) (by omega) (by rw [g4 _ _ (by omega)]; exact h3) (by funext q; rw [g4 _ _ (by omega), h1]) (by funext q; rw [g4 _ _ (by omega), h4]) g2 g3
    refine ⟨μ', ?_, fun a q h => by rw [r2 a q h, g4 a q h]⟩
    rw [List.range'_succ, List.map_cons, List.foldl_cons, ← r1]
    simp (disch := omega) only [b_X3_holds_9, lR5 hL, some_bind, lA5 hL, h3, nn_lt, natT, if_true, lR2 hL, lA2 hL, hc, lck hL, g1, nI_1]
/-- a law that can be asked -/
def LawU (μ : MU) (L : Nat) (T : Nat → Int32) (N : Nat) : Prop := ∃ H : Nat → Bool, (∀ F : Nat → Int32, ∃ (k : Nat) (z : Nat → Option Int32), reaS T N F = .inr (k, z) ∧ (∀ i, i < 5 → (z i).isSome = H i) ∧ μ L 1 = (z 4).getD 10 ∧
    ∀ i, i < 4 → H i = true → ∃ b e : Nat, μ (L + 2) i = nI b ∧ μ (L + 3) i = nI e ∧ b ≤ e ∧ e ≤ 320 ∧ z i = some (bI (runC F ((List.range' b (e - b)).map fun j => μ (L + 1) j)))) ∧
    ∀ i, i < 4 → H i = false → μ (L + 2) i = -1
theorem LawOK.u (h : LawOK μ L T N) : LawU μ L T N := by
  obtain ⟨cs, hcs, -, H, h1, h2⟩ := h
  refine ⟨H, fun F => ?_, h2⟩
  obtain ⟨k, z, q1, q2, q3, q4⟩ := h1 F
  refine ⟨k, z, q1, q2, q3, fun i hi hH => ?_⟩
  obtain ⟨bb, e, w1, w2, w3, w4, w5⟩ := q4 i hi hH
  exact ⟨bb, e, w1, w2, w3, by omega, w5⟩
theorem LawU.congr {μ' : MU} (h : LawU μ L T N) (hm : ∀ a j, L ≤ a ∧ a ≤ L + 3 → μ' a j = μ a j) : LawU μ' L T N := by
  obtain ⟨H, h1, h2⟩ := h
  refine ⟨H, fun F => ?_, fun i hi hH => by rw [hm _ _ (by omega)]; exact h2 i hi hH⟩
  obtain ⟨k, z, q1, q2, q3, q4⟩ := h1 F
  refine ⟨k, z, q1, q2, by rw [hm _ _ (by omega)]; exact q3, fun i hi hH => ?_⟩
  obtain ⟨bb, e, w1, w2, w3, w4, w5⟩ := q4 i hi hH
  refine ⟨bb, e, by rw [hm _ _ (by omega)]; exact w1, by rw [hm _ _ (by omega)]; exact w2, w3, w4, ?_⟩
  rw [w5]
  congr 2
  congr 1
  exact List.map_congr_left fun j _ => (hm _ _ (by omega)).symm
theorem tK_0 (T : Nat → Int32) : tK T 0 0 = 0 := by
  have hb : ∀ k, byS T 0 k < 0 := fun k => by rw [byS_end (Nat.zero_le _)]; decide
  rcases nxS_cases T 0 0 with ⟨-, -, -, h⟩ | ⟨h, -⟩ | ⟨h, -⟩ | ⟨h, -⟩
  · exact h
  · exact absurd (hb _) h
  · exact absurd (hb _) h
  · exact absurd (hb _) h
theorem reaS_0 (T F : Nat → Int32) : reaS T 0 F = .inr (0, fun _ => none) := by
  unfold reaS
  rw [show (400 : Nat) = 399 + 1 from rfl, reaL, if_pos (tK_0 T)]
/-- which of the class's laws stands -/
def lawA (D : DR) : Nat := if D 7 < 0 then 4 else nD D 7
theorem lawA_lt (hI : Inv D) : lawA D < 5 := by
  unfold lawA
  rcases hI.law with h | ⟨l, hl, h⟩
  · rw [h, if_pos (by decide)]; omega
  · rw [h, if_neg (nI_pos (by omega)), nD_of h (by omega)]; omega
theorem lawU_now (hs : Sim μ c D) (hI : Inv D) (h0 : Law0 μ (c + 142)) : LawU μ (c + 118 + 6 * lawA D) (lawT D) (lawN D) := by
  unfold lawA lawN
  rcases hI.law with h | ⟨l, hl, h⟩
  · have h7 : D 7 < 0 := by rw [h]; decide
    rw [if_pos h7, if_pos h7]
    refine ⟨fun _ => false, fun F => ⟨0, fun _ => none, reaS_0 _ F, fun _ _ => rfl, ?_, fun i _ hH => by cases hH⟩, fun i hi _ => ?_⟩
    · exact h0.1
    · exact h0.2 i hi
  · have h7 : ¬ D 7 < 0 := by rw [h]; exact nI_pos (by omega)
    have nl : nD D 7 = l := nD_of h (by omega)
    have li : lawI D = l := by rw [lawI, if_neg h7, nl]
    rw [if_neg h7, if_neg h7, nl]
    rcases hs.law l hl with ⟨q, -⟩ | ⟨q, -, hok⟩
    · exact absurd q (hI.lawR l hl h)
    · have := hok.u
      unfold lawT
      rw [li]
      exact this
theorem k_lawNow (hC : ShC S c) (hs : Sim μ c D) (hI : Inv D) : f_X2_lawNow (some c) (mkH n st S μ) = some (some (c + 118 + 6 * lawA D)) := by
  have z := hs.force
  unfold lawA
  rcases hI.law with h | ⟨l, hl, h⟩
  · have h7 : D 7 < 0 := by rw [h]; decide
    rw [if_pos h7]
    simp (disch := omega) only [f_X2_lawNow, cR13 hC, some_bind, cI14 hC, z, h7, if_true, lit_aR, cElaws hC]
  · have h7 : ¬ D 7 < 0 := by rw [h]; exact nI_pos (by omega)
    rw [if_neg h7, nD_of h (by omega)]
    rw [h] at h7 z
    simp (disch := omega) only [f_X2_lawNow, cR13 hC, some_bind, cI14 hC, z, h7, if_false, cElaws hC]
/-- what a line tells, or what holds without it -/
def ruT (T : Nat → Int32) (N : Nat) (F : Nat → Int32) (i : Nat) (wo : Int32) : Int32 := match reaS T N F with
  | .inr q => (q.2 i).getD wo
  | .inl _ => wo
theorem LawU.ru_c (hU : LawU μ L T N) (hN : N ≤ 300) {i : Nat} (hi : i < 5) {F F' : Nat → Int32} (hF : ∀ k, i < 4 → k < nfS i → F k = F' k) (wo : Int32) : ruT T N F i wo = ruT T N F' i wo := by
  obtain ⟨H, h1, -⟩ := hU
  obtain ⟨k, z, q1, -⟩ := h1 F
  obtain ⟨k', z', q1', -⟩ := h1 F'
  have := reaS_c hi hF hN q1 q1'
  unfold ruT
  rw [q1, q1']
  simp only [this]
theorem LawU.ex (hU : LawU μ L T N) (F : Nat → Int32) : ∃ k z, reaS T N F = .inr (k, z) ∧ ∀ i wo, ruT T N F i wo = (z i).getD wo := by
  obtain ⟨H, h1, -⟩ := hU
  obtain ⟨k, z, q1, -⟩ := h1 F
  refine ⟨k, z, q1, fun i wo => ?_⟩
  unfold ruT
  rw [q1]
theorem LawU.years (hU : LawU μ L T N) (F : Nat → Int32) : ruT T N F 4 10 = μ L 1 := by
  obtain ⟨H, h1, -⟩ := hU
  obtain ⟨k, z, q1, q2, q3, -⟩ := h1 F
  unfold ruT
  rw [q1, q3]
theorem k_ask (hL : ShL S L) (hU : LawU μ L T N) {i : Nat} (hi : i < 4) : (f_X3_tells (some L) (nI i) (mkH n st S μ) = some 0 ∧ ∀ F wo, ruT T N F i wo = wo) ∨ (f_X3_tells (some L) (nI i) (mkH n st S μ) = some 1 ∧ (∀ F wo wo', ruT T N F i wo = ruT T N F i wo') ∧ ∀ μ1 : MU, (∀ a q, ¬ a = L + 4 → ¬ a = L + 5 → μ1 a q = μ a q) → ∃ q μ', f_X3_holds (some L) (nI i) (mkH n st S μ1) = some (bI q, mkH n st S μ') ∧ (∀ wo, ruT T N (μ1 (L + 4)) i wo = bI q) ∧ ∀ a j, ¬ a = L + 5 → μ' a j = μ1 a j) := by
  obtain ⟨H, h1, h2⟩ := hU
  cases hH : H i with
  | false =>
    left
    have hb := h2 i hi hH
    refine ⟨?_, ?_⟩
    · have : (-1 : Int32) < 0 := by decide
      simp (disch := omega) only [f_X3_tells, lR4 hL, some_bind, lA4 hL, hb, this, if_true]
    · intro F wo
      obtain ⟨k, z, q1, q2, -⟩ := h1 F
      have := q2 i (by omega)
      rw [hH] at this
      unfold ruT
      rw [q1]
      simp only []
      cases hz : z i with
      | none => rfl
      | some v => rw [hz] at this; cases this
  | true =>
    right
    refine ⟨?_, ?_, ?_⟩
    · obtain ⟨k, z, -, -, -, q4⟩ := h1 (fun _ => 0)
      obtain ⟨bb, e, w1, w2, w3, w4, -⟩ := q4 i hi hH
      have : ¬ nI bb < (0 : Int32) := nI_pos (by omega)
      simp (disch := omega) only [f_X3_tells, lR4 hL, some_bind, lA4 hL, w1, this, if_false]
    · intro F wo wo'
      obtain ⟨k, z, q1, -, -, q4⟩ := h1 F
      obtain ⟨bb, e, -, -, -, -, w5⟩ := q4 i hi hH
      unfold ruT
      rw [q1]
      simp only [w5, Option.getD_some]
    · intro μ1 hfr
      obtain ⟨k, z, q1, q2, q3, q4⟩ := h1 (μ1 (L + 4))
      obtain ⟨bb, e, w1, w2, w3, w4, w5⟩ := q4 i hi hH
      have w1' : μ1 (L + 2) i = nI bb := by rw [hfr _ _ (by omega) (by omega)]; exact w1
      have w2' : μ1 (L + 3) i = nI e := by rw [hfr _ _ (by omega) (by omega)]; exact w2
      have hcode : μ1 (L + 1) = fun j => μ (L + 1) j := by funext j; rw [hfr _ _ (by omega) (by omega)]
      obtain ⟨fu, hfu, hfl⟩ : ∃ q, FU = q ∧ 400 < q := ⟨FU, rfl, by decide⟩
      obtain ⟨μ', r1, r2⟩ := k_holdsL (n := n) (st := st) hL hi w4 (fun j => μ (L + 1) j) (μ1 (L + 4)) (e - bb) bb fu [] μ1 (by omega) (by omega) w2' hcode rfl trivial (by simp)
      refine ⟨runC (μ1 (L + 4)) ((List.range' bb (e - bb)).map fun j => μ (L + 1) j), μ', ?_, fun wo => ?_, r2⟩
      · refine Eq.trans ?_ r1
        rw [← hfu]
        simp (disch := omega) only [f_X3_holds, lR4 hL, some_bind, lA4 hL, w1']
        rfl
      · unfold ruT
        rw [q1]
        simp only [w5, Option.getD_some]
end ASK
