-- ===== the reference asks the law =====
section RRULED
variable {n : Nat} {st : Nat → Nat} {S : SH} {μ : MU} {x b m : Nat} {T : Nat → Int32} {N : Nat} {D : DR}
def FrG (m : Nat) (μ μ' : MU) : Prop := ∀ a j, ¬ (a = m ∧ 11 ≤ j ∧ j ≤ 18) → ¬ a = m + 8 → ¬ a = m + 9 → μ' a j = μ a j
theorem r_clr (hS : ShM S m) : ∀ k j fu (μ : MU), j + k = 5 → k < fu → b_X12_reads_30 fu (some m) 0 (nI j) (mkH n st S μ) = (f_X12_next (some m) (mkH n st S (filR μ (m + 8) j 5 0))).bind fun h3 => b_X12_reads_54 FU (some m) 0 h3 := by
  intro k
  induction k with
  | zero =>
    intro j fu μ hj hf
    obtain ⟨fu, rfl⟩ : ∃ q, fu = q + 1 := ⟨fu - 1, by omega⟩
    obtain rfl : j = 5 := by omega
    rw [filR_nil]
    simp (disch := omega) only [b_X12_reads_30, lit_lt, natF, if_false, rck hS]
  | succ k ih =>
    intro j fu μ hj hf
    obtain ⟨fu, rfl⟩ : ∃ q, fu = q + 1 := ⟨fu - 1, by omega⟩
    have s9 := mS9 (n := n) (st := st) (μ := μ) (v := 0) hS (q := j) (by omega)
    rw [show (0 : Int32) &&& 1 = 0 from by decide] at s9
    simp (disch := omega) only [b_X12_reads_30, lit_lt, natT, if_true, mR9 hS, some_bind, s9, nI_1]
    rw [ih (j + 1) fu _ (by omega) (by omega), filR_up (by omega)]
theorem r_reads (hS : ShM S m) (hm : x ≤ m) (hB : BaseOK st S μ x b) (place : Int32) (hsrc : SrcR (up2 (up2 μ m 11 place) m 12 (nI N)) m T N) : ∃ v μ', f_X12_reads (some m) place (nI N) (mkH n st S μ) = some (v, mkH n st S μ') ∧ FrG m μ μ' ∧ (match reaS T N (μ (m + 7)) with
    | .inl e => μ' m 17 = nI e ∧ e ≤ N
    | .inr q => v = nI q.1 ∧ μ' m 17 = -1 ∧ RelZ μ' m q.2) := by
  obtain ⟨μ0, h0⟩ : ∃ q, q = up2 (up2 (up2 (up2 (up2 μ m 11 place) m 12 (nI N)) m 13 0) m 17 (-1)) m 18 0 := ⟨_, rfl⟩
  obtain ⟨μ1, h1⟩ : ∃ q, q = filR μ0 (m + 8) 0 5 0 := ⟨_, rfl⟩
  have hfr1 : FrG m μ μ1 := by
    intro a j q1 q2 q3
    rw [h1, filR_ne (by omega), h0]
    simp (disch := omega) only [up2_ne]
  have hT1 : SrcR μ1 m T N := hsrc.fr (by
    intro a j q1 q2 q3
    rw [h1, filR_ne (by omega), h0]
    simp (disch := omega) only [up2_ne])
  have hB1 : BaseOK st S μ1 x b := hB.congr (fun _ _ => rfl) (fun a j q => hfr1 a j (by omega) (by omega) (by omega))
  have e13 : μ1 m 13 = nI 0 := by
    rw [h1, filR_ne (by omega), h0]
    simp (disch := omega) only [up2_ne, up2_same]; rfl
  have e17 : μ1 m 17 = -1 := by
    rw [h1, filR_ne (by omega), h0]
    simp (disch := omega) only [up2_ne, up2_same]
  have e18 : μ1 m 18 = nI 0 := by
    rw [h1, filR_ne (by omega), h0]
    simp (disch := omega) only [up2_ne, up2_same]; rfl
  have hN := hT1.2.1
  obtain ⟨μ2, g1, g2, g3⟩ := r_next (n := n) (st := st) hS hm hB1 hT1 (p := 0) (by omega) e13
  have hR : RdS st S x b m T N (μ (m + 7)) 0 0 μ2 := ⟨⟨hS, hm⟩, hB1.frK hm g2, hT1.frK g2, by rw [g2 _ _ (by omega)]; exact e17, by rw [g2 _ _ (by omega)]; exact e18, fun i hi => by rw [g2 _ _ (by omega), hfr1 _ _ (by omega) (by omega) (by omega)], g3, by omega⟩
  have hZ : RelZ μ2 m (fun _ => none) := by
    refine ⟨fun i hi => ?_, fun i v hi hv => by cases hv⟩
    rw [g2 _ _ (by omega), h1, filR_in (by omega) hi]; rfl
  obtain ⟨fu, hfu, hfl⟩ : ∃ q, FU = q ∧ 301 < q := ⟨FU, rfl, by decide⟩
  obtain ⟨v, μ', r1, r2, r3⟩ := r_readsL (n := n) 300 400 fu 0 (fun _ => none) 0 μ2 hR hZ (by omega) (by omega) (by omega)
  refine ⟨v, μ', ?_, ?_, r3⟩
  · have c1 := r_clr (n := n) (st := st) hS 5 0 FU μ0 (by omega) (by decide)
    rw [← h1, g1, some_bind, hfu] at c1
    have c2 : f_X12_reads (some m) place (nI N) (mkH n st S μ) = b_X12_reads_30 fu (some m) 0 (nI 0) (mkH n st S μ0) := by
      rw [h0, ← hfu]
      simp only [f_X12_reads, mP11 hS, mP12 hS, mP13 hS, mP17 hS, mP18 hS, some_bind]
      rfl
    rw [c2]
    exact Eq.trans c1 r1
  · intro a j q1 q2 q3
    rw [r2 a j (by omega) q2 q3, g2 a j (by omega), hfr1 a j q1 q2 q3]
/-- the law that stands: which place, how long, which bytes -/
def lawI (D : DR) : Nat := if D 7 < 0 then 0 else nD D 7
def lawN (D : DR) : Nat := if D 7 < 0 then 0 else nD D (1020 + nD D 7)
def lawT (D : DR) : Nat → Int32 := fun k => D (1024 + 300 * lawI D + k)
theorem law_in (hI : Inv D) : lawI D < 4 ∧ lawN D ≤ 300 := by
  unfold lawI lawN
  rcases hI.law with h | ⟨l, hl, h⟩
  · rw [h, if_pos (by decide), if_pos (by decide)]; omega
  · have h0 : ¬ D 7 < 0 := by rw [h]; exact nI_pos (by omega)
    rw [if_neg h0, if_neg h0, nD_of h (by omega)]
    refine ⟨hl, ?_⟩
    rcases hI.size l hl with h1 | ⟨k, hk, h1⟩
    · rw [nD, h1]; decide
    · rw [nD_of h1 (by omega)]; omega
theorem r_ruled (hS : ShM S m) (hm : x ≤ m) (hB : BaseOK st S μ x b) (hD : μ (m + 1) = D) (hI : Inv D) {i : Nat} (hi : i < 5) (wo : Int32) {k : Nat} {z : Nat → Option Int32} (hz : reaS (lawT D) (lawN D) (μ (m + 7)) = .inr (k, z)) : ∃ μ', f_X12_ruled (some m) (nI i) wo (mkH n st S μ) = some ((z i).getD wo, mkH n st S μ') ∧ FrG m μ μ' ∧ RelZ μ' m z := by
  obtain ⟨l1, l2⟩ := law_in hI
  have hsrc : SrcR (up2 (up2 μ m 11 (nI (1024 + 300 * lawI D))) m 12 (nI (lawN D))) m (lawT D) (lawN D) := by
    refine ⟨up2_same, l2, Or.inr ⟨1024 + 300 * lawI D, by rw [up2_ne (by omega), up2_same], by omega, fun k hk => ?_⟩⟩
    rw [up2_ne (by omega), up2_ne (by omega), hD]; rfl
  obtain ⟨v, μ', r1, r2, r3⟩ := r_reads (n := n) (st := st) hS hm hB (nI (1024 + 300 * lawI D)) hsrc
  rw [hz] at r3
  obtain ⟨r3, r4, r5⟩ := r3
  refine ⟨μ', ?_, r2, r5⟩
  have z1 := r5.1 i hi
  have h60 : b_X12_ruled_60 (some m) (nI i) wo (some m) (nI (1024 + 300 * lawI D)) (nI (lawN D)) (mkH n st S μ) = some ((z i).getD wo, mkH n st S μ') := by
    simp (disch := omega) only [b_X12_ruled_60, rck hS, r1, some_bind, mR9 hS, mA9 hS, z1, ite_bI0]
    cases hzi : z i with
    | none => rfl
    | some w =>
      have := r5.2 i w hi hzi
      simp (disch := omega) only [Option.isSome_some, if_true, mR10 hS, some_bind, mA10 hS, this]
      rfl
  rw [← h60]
  rcases hI.law with h | ⟨l, hl, h⟩
  · have h0 : D 7 < 0 := by rw [h]; decide
    have i0 : lawI D = 0 := by rw [lawI, if_pos h0]
    have n0 : lawN D = 0 := by rw [lawN, if_pos h0]
    rw [i0, n0]
    simp (disch := omega) only [f_X12_ruled, b_X12_ruled_28, mR0 hS, some_bind, lit_aI, mA0 hS, hD, h0, if_true]
    rfl
  · have h0 : ¬ nI l < (0 : Int32) := nI_pos (by omega)
    have h0' : ¬ D 7 < 0 := by rw [h]; exact h0
    have nl : nD D 7 = l := nD_of h (by omega)
    have i0 : lawI D = l := by rw [lawI, if_neg h0', nl]
    have n0 : D (1020 + l) = nI (lawN D) := by
      rw [lawN, if_neg h0', nl]
      rcases hI.size l hl with h1 | ⟨k, hk, h1⟩
      · exact absurd (by rw [h1]; decide) (hI.lawR l hl h)
      · rw [nD_of h1 (by omega), h1]
    rw [i0, ← n0]
    simp (disch := omega) only [f_X12_ruled, b_X12_ruled_28, mR0 hS, some_bind, lit_aI, mA0 hS, hD, h, h0, if_false, lit_add, lit_mul]
end RRULED
-- ===== what a line tells rests on its own facts alone =====
section LAWC
variable {T : Nat → Int32} {N : Nat} {F F' : Nat → Int32} {l : Nat}
def nfS (l : Nat) : Nat := if l = 0 then 7 else if l = 1 then 4 else 2
theorem facS_nf (hl : l < 4) {w : Int32} (h : ¬ facS (nI l) w < 0) : (facS (nI l) w).toNatClampNeg < nfS l := by
  unfold facS at h ⊢
  rcases (by omega : l = 0 ∨ l = 1 ∨ l = 2 ∨ l = 3) with rfl | rfl | rfl | rfl
  · have a2 : nI 0 = (0 : Int32) := rfl
    rw [if_pos a2] at h ⊢
    by_cases h1 : inS w 8 14 = true
    · rw [if_pos h1]
      obtain ⟨k, k1, k2, rfl⟩ := inS_lo (a := 8) (c := 14) (by omega) (by omega) h1
      rw [show nI k - 8 = nI (k - 8) from pk_sub k1, nI_clamp (by omega)]
      show k - 8 < 7
      omega
    · rw [if_neg h1] at h; exact absurd (by decide) h
  · have a2 : ¬ nI 1 = (0 : Int32) := by decide
    have a3 : nI 1 = (1 : Int32) := rfl
    rw [if_neg a2, if_pos a3] at h ⊢
    by_cases h1 : inS w 15 18 = true
    · rw [if_pos h1]
      obtain ⟨k, k1, k2, rfl⟩ := inS_lo (a := 15) (c := 18) (by omega) (by omega) h1
      rw [show nI k - 15 = nI (k - 15) from pk_sub k1, nI_clamp (by omega)]
      show k - 15 < 4
      omega
    · rw [if_neg h1] at h; exact absurd (by decide) h
  · have a2 : ¬ nI 2 = (0 : Int32) := by decide
    have a3 : ¬ nI 2 = (1 : Int32) := by decide
    have a4 : nI 2 = (2 : Int32) := rfl
    rw [if_neg a2, if_neg a3, if_pos a4] at h ⊢
    by_cases h1 : w = 19
    · rw [if_pos h1]; decide
    · rw [if_neg h1] at h ⊢
      by_cases h2 : w = 15
      · rw [if_pos h2]; decide
      · rw [if_neg h2] at h; exact absurd (by decide) h
  · have a2 : ¬ nI 3 = (0 : Int32) := by decide
    have a3 : ¬ nI 3 = (1 : Int32) := by decide
    have a4 : ¬ nI 3 = (2 : Int32) := by decide
    rw [if_neg a2, if_neg a3, if_neg a4] at h ⊢
    by_cases h1 : w = 20
    · rw [if_pos h1]; decide
    · rw [if_neg h1] at h ⊢
      by_cases h2 : w = 4
      · rw [if_pos h2]; decide
      · rw [if_neg h2] at h; exact absurd (by decide) h
theorem termS_c (hl : l < 4) (hF : ∀ k, k < nfS l → F k = F' k) (p : Nat) : termS T N F (nI l) p = termS T N F' (nI l) p := by
  unfold termS
  by_cases h1 : tK T N p = 3
  · rw [if_pos h1, if_pos h1]
  · rw [if_neg h1, if_neg h1]
    by_cases h2 : tK T N p = 2 ∧ ¬ facS (nI l) (tV T N p) < 0
    · rw [if_pos h2, if_pos h2, hF _ (facS_nf hl h2.2)]
    · rw [if_neg h2, if_neg h2]
theorem sumL_c (hl : l < 4) (hF : ∀ k, k < nfS l → F k = F' k) : ∀ f v p, sumL T N F (nI l) f v p = sumL T N F' (nI l) f v p := by
  intro f
  induction f with
  | zero => intro v p; rfl
  | succ f ih =>
    intro v p
    rw [sumL, sumL, termS_c hl hF]
    split
    · cases termS T N F' (nI l) (tA T N p) with
      | inl e => rfl
      | inr q => exact ih _ _
    · rfl
theorem sumS_c (hl : l < 4) (hF : ∀ k, k < nfS l → F k = F' k) (p : Nat) : sumS T N F (nI l) p = sumS T N F' (nI l) p := by
  unfold sumS
  rw [termS_c hl hF]
  cases termS T N F' (nI l) p with
  | inl e => rfl
  | inr q => exact sumL_c hl hF _ _ _
theorem cmpS_c (hl : l < 4) (hF : ∀ k, k < nfS l → F k = F' k) (p : Nat) : cmpS T N F (nI l) p = cmpS T N F' (nI l) p := by
  unfold cmpS
  rw [sumS_c hl hF]
  cases sumS T N F' (nI l) p with
  | inl e => rfl
  | inr q =>
    simp only []
    rw [sumS_c hl hF]
theorem sngS_c (hl : l < 4) (hF : ∀ k, k < nfS l → F k = F' k) (inner : Option (Nat → Nat ⊕ (Bool × Nat))) (p : Nat) : sngS T N F (nI l) inner p = sngS T N F' (nI l) inner p := by
  unfold sngS
  simp only [cmpS_c hl hF]
theorem evL_c (hl : l < 4) (hF : ∀ k, k < nfS l → F k = F' k) (inner : Option (Nat → Nat ⊕ (Bool × Nat))) : ∀ f v p, evL T N F (nI l) inner f v p = evL T N F' (nI l) inner f v p := by
  intro f
  induction f with
  | zero => intro v p; rfl
  | succ f ih =>
    intro v p
    rw [evL, evL, sngS_c hl hF]
    split
    · cases sngS T N F' (nI l) inner (tA T N p) with
      | inl e => rfl
      | inr q => exact ih _ _
    · rfl
theorem evS_c (hl : l < 4) (hF : ∀ k, k < nfS l → F k = F' k) (inner : Option (Nat → Nat ⊕ (Bool × Nat))) (p : Nat) : evS T N F (nI l) inner p = evS T N F' (nI l) inner p := by
  unfold evS
  rw [sngS_c hl hF]
  cases sngS T N F' (nI l) inner p with
  | inl e => rfl
  | inr q => exact evL_c hl hF _ _ _ _
theorem orL_c (hl : l < 4) (hF : ∀ k, k < nfS l → F k = F' k) (inner : Option (Nat → Nat ⊕ (Bool × Nat))) : ∀ f v p, orL T N F (nI l) inner f v p = orL T N F' (nI l) inner f v p := by
  intro f
  induction f with
  | zero => intro v p; rfl
  | succ f ih =>
    intro v p
    rw [orL, orL, evS_c hl hF]
    split
    · cases evS T N F' (nI l) inner (tA T N p) with
      | inl e => rfl
      | inr q => exact ih _ _
    · rfl
theorem orS_c (hl : l < 4) (hF : ∀ k, k < nfS l → F k = F' k) (inner : Option (Nat → Nat ⊕ (Bool × Nat))) (p : Nat) : orS T N F (nI l) inner p = orS T N F' (nI l) inner p := by
  unfold orS
  rw [evS_c hl hF]
  cases evS T N F' (nI l) inner p with
  | inl e => rfl
  | inr q => exact orL_c hl hF _ _ _ _
theorem conS_c (hl : l < 4) (hF : ∀ k, k < nfS l → F k = F' k) : ∀ r, conS T N F (nI l) r = conS T N F' (nI l) r := by
  intro r
  induction r with
  | zero => funext p; exact orS_c hl hF _ _
  | succ r ih =>
    funext p
    rw [conS, conS, ih]
    exact orS_c hl hF _ _
theorem linS_c (hl : l < 4) (hF : ∀ k, k < nfS l → F k = F' k) (p : Nat) : linS T N F l p = linS T N F' l p := by
  unfold linS
  rw [conS_c hl hF]
/-- where a line ends, or where its fault is, rests on no fact -/
theorem linS_sh (F F' : Nat → Int32) (j : Nat) (hN : N ≤ 300) {p : Nat} (hp : p ≤ N) : match linS T N F j p, linS T N F' j p with
    | .inl e, .inl e' => e = e'
    | .inr q, .inr q' => q.2 = q'.2 ∧ q.2 ≤ N
    | _, _ => False := by
  by_cases hj : j < 4
  · have h1 := linM (T := T) (N := N) (F := F) hj hN [] hp
    have h2 := linM (T := T) (N := N) (F := F') hj hN [] hp
    cases e1 : linS T N F j p with
    | inl e =>
      rw [e1] at h1
      cases e2 : linS T N F' j p with
      | inl e' =>
        rw [e2] at h2
        have : (Sum.inl e : Nat ⊕ (List Int32 × Nat)) = .inl e' := h1.symm.trans h2
        exact Sum.inl.inj this
      | inr q' =>
        rw [e2] at h2
        obtain ⟨c, bb, t1, -⟩ := h2
        have := h1.symm.trans t1
        cases this
    | inr q =>
      rw [e1] at h1
      obtain ⟨c, bb, t1, t2, t3, t4, t5⟩ := h1
      cases e2 : linS T N F' j p with
      | inl e' =>
        rw [e2] at h2
        have := t1.symm.trans h2
        cases this
      | inr q' =>
        rw [e2] at h2
        obtain ⟨c', bb', u1, -⟩ := h2
        have := Sum.inr.inj (t1.symm.trans u1)
        exact ⟨(Prod.mk.inj this).2, t4⟩
  · have : linS T N F j p = linS T N F' j p := by
      unfold linS
      rw [if_neg hj, if_neg hj]
    rw [this]
    cases e1 : linS T N F' j p with
    | inl e => rfl
    | inr q =>
      refine ⟨rfl, ?_⟩
      unfold linS at e1
      rw [if_neg hj] at e1
      have hp1 := tok_pos (T := T) hp
      have hp2 := tok_pos (T := T) hp1.2.2.1
      split at e1
      · cases e1
      · simp only [] at e1
        split at e1
        · have := Sum.inr.inj e1
          rw [← this]
          exact hp2.2.2.1
        · cases e1
theorem reaL_c (hl : l < 5) (hF : ∀ k, l < 4 → k < nfS l → F k = F' k) (hN : N ≤ 300) : ∀ f ls (z z' : Nat → Option Int32) p, p ≤ N → z l = z' l → (∀ i, (z i).isSome = (z' i).isSome) → match reaL T N F f ls z p, reaL T N F' f ls z' p with
    | .inl e, .inl e' => e = e'
    | .inr q, .inr q' => q.1 = q'.1 ∧ q.2 l = q'.2 l ∧ ∀ i, (q.2 i).isSome = (q'.2 i).isSome
    | _, _ => False := by
  intro f
  induction f with
  | zero => intro ls z z' p _ h1 h2; exact ⟨rfl, h1, h2⟩
  | succ f ih =>
    intro ls z z' p hp h1 h2
    rw [reaL, reaL]
    by_cases h0 : tK T N p = 0
    · rw [if_pos h0, if_pos h0]; exact ⟨rfl, h1, h2⟩
    · rw [if_neg h0, if_neg h0, ← h2]
      by_cases hc : tK T N p ≠ 2 ∨ 4 < tV T N p ∨ (z (tV T N p).toNatClampNeg).isSome = true
      · rw [if_pos hc, if_pos hc]
      · rw [if_neg hc, if_neg hc]
        have hpp := tok_pos (T := T) hp
        have hsh := linS_sh (T := T) F F' (tV T N p).toNatClampNeg hN hpp.2.2.1
        have hlc : (tV T N p).toNatClampNeg = l → linS T N F (tV T N p).toNatClampNeg (tA T N p) = linS T N F' (tV T N p).toNatClampNeg (tA T N p) := by
          intro e
          rw [e]
          by_cases hl4 : l < 4
          · exact linS_c hl4 (fun k hk => hF k hl4 hk) _
          · unfold linS
            rw [if_neg hl4, if_neg hl4]
        cases e1 : linS T N F (tV T N p).toNatClampNeg (tA T N p) with
        | inl e =>
          rw [e1] at hsh
          cases e2 : linS T N F' (tV T N p).toNatClampNeg (tA T N p) with
          | inl e' => rw [e2] at hsh; exact hsh
          | inr q' => rw [e2] at hsh; exact absurd hsh (by intro h; exact h)
        | inr q =>
          rw [e1] at hsh
          cases e2 : linS T N F' (tV T N p).toNatClampNeg (tA T N p) with
          | inl e' => rw [e2] at hsh; exact absurd hsh (by intro h; exact h)
          | inr q' =>
            rw [e2] at hsh
            obtain ⟨hq, hqN⟩ := hsh
            simp only []
            rw [← hq]
            refine ih (ls + 1) _ _ q.2 hqN ?_ ?_
            · by_cases e : l = (tV T N p).toNatClampNeg
              · have := hlc e.symm
                rw [e1, e2] at this
                have := Sum.inr.inj this
                simp only [e, if_true, this]
              · simp only [e, if_false]; exact h1
            · intro i
              by_cases e : i = (tV T N p).toNatClampNeg
              · simp only [e, if_true, Option.isSome_some]
              · simp only [e, if_false]; exact h2 i
theorem reaS_c (hl : l < 5) (hF : ∀ k, l < 4 → k < nfS l → F k = F' k) (hN : N ≤ 300) {k k' : Nat} {z z' : Nat → Option Int32} (h1 : reaS T N F = .inr (k, z)) (h2 : reaS T N F' = .inr (k', z')) : z l = z' l := by
  have := reaL_c (T := T) hl hF hN 400 0 (fun _ => none) (fun _ => none) 0 (by omega) rfl (fun _ => rfl)
  unfold reaS at h1 h2
  rw [h1, h2] at this
  exact this.2.1
end LAWC
