-- ===== sheet, the call =====
def sl7 (j : Nat) : Option (Option Nat) := if j = 0 then none else some none
section SHEET3
variable {n n' : Nat} {st : Nat → Nat} {S S' : SH} {μ μ' : MU} {x b m c l : Nat} {D : DR}
theorem ty7 (j : Nat) : defaultValue (tyX7 j) = slV (sl7 j) 0 := by
  cases j with
  | zero => rfl
  | succ j => rfl
/-- the core rests on nothing behind it -/
theorem Core.to (h : Core S μ x) (hX : ShX S' x) (hS : ShM S' (x + 175)) (hm : ∀ a j, x + 1 ≤ a ∧ a ≤ x + 148 → μ' a j = μ a j) (hd : ∀ q, μ' (x + 176) q = μ (x + 176) q) : Core S' μ' x := by
  obtain ⟨-, -, h3, h4, h5⟩ := h.keep (μ' := μ') hm hd
  exact ⟨hX, hS, h3, h4, h5⟩
theorem k_newRow (hX : ShX S x) (hn : x + 198 ≤ n) {k t len : Nat} (hk : k < 4) (ht : t < 5) (hl : len ≤ 40) : ∃ S' μ', ((nO 7 2 tyX7 (mkH n st S μ)).bind fun h6 => (f_X7_init (mkH n st S μ).1 (nI t) (nI len) h6).bind fun h7 => (sR h7 (some (x + 168)) (nI k) (some (mkH n st S μ).1)).bind fun h8 => some ((1 : Int32), h8)) = some (1, mkH (n + 2) st S' μ') ∧ (∀ a, a < n → ¬ a = x + 168 → S' a = S a) ∧ (S' (x + 168)).1 = 106 ∧ (S' (x + 168)).2.1 = 4 ∧ (∀ j, (S' (x + 168)).2.2 j = if j = k then some (some n) else (S (x + 168)).2.2 j) ∧ obS S' n 7 2 (slRow n) ∧ nnS S' (n + 1) 100 len ∧ μ' n 0 = nI t ∧ (∀ i, μ' (n + 1) i = 0) ∧ ∀ a j, a < n → μ' a j = μ a j := by
  obtain ⟨S1, hS1⟩ : ∃ q, q = upS S n (7, 2, sl7) := ⟨_, rfl⟩
  obtain ⟨S2, hS2⟩ : ∃ q, q = upS S1 (n + 1) (100, len, fun _ => none) := ⟨_, rfl⟩
  obtain ⟨S3, hS3⟩ : ∃ q, q = slS S2 n 1 (some (n + 1)) := ⟨_, rfl⟩
  obtain ⟨S4, hS4⟩ : ∃ q, q = slS S3 (x + 168) k (some n) := ⟨_, rfl⟩
  obtain ⟨μ1, hμ1⟩ : ∃ q, q = up2 (zeR μ n) n 0 (nI t) := ⟨_, rfl⟩
  obtain ⟨μ2, hμ2⟩ : ∃ q, q = zeR μ1 (n + 1) := ⟨_, rfl⟩
  have s1n : S1 n = (7, 2, sl7) := by rw [hS1, upS_same]
  have s2n : S2 n = (7, 2, sl7) := by rw [hS2, upS_ne (by omega), s1n]
  have s3n : S3 n = (7, 2, fun i => if i = 1 then some (some (n + 1)) else sl7 i) := by rw [hS3, slS_at, s2n]
  have s3o : ∀ a, a < n → S3 a = S a := fun a h => by rw [hS3, slS_ne (by omega), hS2, upS_ne (by omega), hS1, upS_ne (by omega)]
  have s4o : ∀ a, a < n → ¬ a = x + 168 → S4 a = S a := fun a h h' => by rw [hS4, slS_ne h', s3o a h]
  have s4n : S4 n = (7, 2, fun i => if i = 1 then some (some (n + 1)) else sl7 i) := by rw [hS4, slS_ne (by omega), s3n]
  have s4m : S4 (n + 1) = (100, len, fun _ => none) := by rw [hS4, slS_ne (by omega), hS3, slS_ne (by omega), hS2, upS_same]
  have s48 : S4 (x + 168) = (106, 4, fun j => if j = k then some (some n) else (S (x + 168)).2.2 j) := by
    rw [hS4, slS_at, s3o _ (by omega), hX.sheets.1, hX.sheets.2]
  refine ⟨S4, μ2, ?_, s4o, by rw [s48], by rw [s48], fun j => by rw [s48], ⟨by rw [s4n], by rw [s4n], fun j hj => ?_⟩, ⟨by rw [s4m], by rw [s4m], fun j hj => by rw [s4m]⟩, ?_, fun i => by rw [hμ2, zeR_same], fun a j h => ?_⟩
  · have e0 : (mkH n st S μ).1 = n := rfl
    rw [e0, nO_mk sl7 ty7, some_bind, ← hS1]
    have e1 : f_X7_init n (nI t) (nI len) (mkH (n + 1) st S1 (zeR μ n)) = some (mkH (n + 1 + 1) st S3 μ2) := by
      unfold f_X7_init
      rw [pI_mk (by rw [s1n]) (by rw [s1n]; rfl), some_bind, if_neg (nI_pos (by omega)), ← hμ1]
      unfold b_X7_init_19
      rw [nA_mk hl (by omega), some_bind, show (mkH (n + 1) st S1 μ1).1 = n + 1 from rfl, ← hS2, ← hμ2, pR_mk (by rw [s2n]), some_bind, ← hS3]
    have e2 : sR (mkH (n + 1 + 1) st S3 μ2) (some (x + 168)) (nI k) (some n) = some (mkH (n + 2) st S4 μ2) := by
      rw [hS4]
      refine sR_mk (k := 106) (by rw [s3o _ (by omega)]; exact hX.sheets.1) (by omega) (by rw [s3o _ (by omega), hX.sheets.2]; exact hk) (by rw [s3o _ (by omega), hX.sheets.2]; omega) (fun v hv => ?_)
      obtain rfl := Option.some.inj hv
      rw [s3n]; rfl
    rw [e1, some_bind, e2, some_bind]
  · rw [s4n]
    rcases (by omega : j = 0 ∨ j = 1) with rfl | rfl
    · rfl
    · rfl
  · rw [hμ2, zeR_ne (by omega), hμ1, up2_same]
  · rw [hμ2, zeR_ne (by omega), hμ1, up2_ne (by omega), zeR_ne (by omega)]
theorem op_sheet (hR : R n st S μ x b) (a1 a2 a3 : Int32) : Res (f_X11_sheet (some x) a1 a2 a3) (f_X12_sheet (some (x + 175)) a1 a2 a3) n st S μ x b := by
  have hR' := hR
  obtain ⟨⟨hX, hS, hs, hI, hL0⟩, hRest⟩ := hR
  have hC := hX.city
  have hBase := hRest.2.2.2.1
  obtain ⟨D, hD⟩ : ∃ D, μ (x + 175 + 1) = D := ⟨_, rfl⟩
  replace hs : Sim μ (x + 1) (μ (x + 175 + 1)) := hs
  replace hI : Inv (μ (x + 175 + 1)) := hI
  rw [hD] at hs hI
  obtain ⟨e0, b0⟩ := hI.today
  obtain ⟨e1, b1⟩ := hI.wards
  obtain ⟨e2, b2⟩ := hI.men
  obtain ⟨e3, b3⟩ := hI.words
  obtain ⟨e4, b4⟩ := hI.bars
  obtain ⟨e5, b5⟩ := hI.shes
  obtain ⟨e6, b6⟩ := hI.wets
  obtain ⟨e8, b8⟩ := hI.heaped
  have z0 := hs.today
  have z1 := hs.wardN
  have z2 := hs.manN
  have z3 := hs.wordN
  have z4 := hs.barN
  have z5 := hs.sheN
  have z6 := hs.wetN
  have z8 := hs.heapN
  obtain ⟨hTape, hRows, hTrace, -, hn, K, ρ, hK, hSh⟩ := hRest
  by_cases c1 : inS a1 0 3 = true
  case neg => exact Res.same hR' (-1) (by simp only [f_X11_sheet, k_within, some_bind, c1, ite_bI0, if_false, Bool.false_eq_true]) (by simp only [f_X12_sheet, s_isFour, some_bind, c1, ite_bI0, if_false, Bool.false_eq_true])
  by_cases c2 : inS a2 (-1) 4 = true
  case neg => exact Res.same hR' (-1) (by simp only [f_X11_sheet, k_within, some_bind, c1, c2, ite_bI0, if_true, if_false, Bool.false_eq_true]) (by simp only [f_X12_sheet, s_isFour, s_in, some_bind, c1, c2, ite_bI0, if_true, if_false, Bool.false_eq_true])
  obtain ⟨k, hk, rfl⟩ := inS_n (M := 3) (by omega) c1
  have hk4 : k < 4 := by omega
  rcases inS_o (M := 4) (by omega) c2 with rfl | ⟨t, ht, rfl⟩
  · have m1 : (-1 : Int32) < 0 := by decide
    obtain ⟨S4, hS4⟩ : ∃ q, q = slS S (x + 168) k none := ⟨_, rfl⟩
    have s4o : ∀ a, ¬ a = x + 168 → S4 a = S a := fun a h' => by rw [hS4, slS_ne h']
    have s48 : S4 (x + 168) = (106, 4, fun j => if j = k then some none else (S (x + 168)).2.2 j) := by rw [hS4, slS_at, hX.sheets.1, hX.sheets.2]
    have e2 : sR (mkH n st S μ) (some (x + 168)) (nI k) none = some (mkH n st S4 μ) := by
      rw [hS4]
      exact sR_mk (k := 106) hX.sheets.1 (by omega) (by rw [hX.sheets.2]; exact hk4) (by rw [hX.sheets.2]; omega) (fun v hv => by cases hv)
    have hX4 : ShX S4 x := hX.to (fun a _ _ h1 _ => s4o a h1) ⟨by rw [s4o _ (by omega)], by rw [s4o _ (by omega)], fun j _ => by rw [s4o _ (by omega)]⟩ (by rw [s48, hX.sheets.1, hX.sheets.2]; exact ⟨rfl, rfl⟩) ⟨by rw [s4o _ (by omega)], by rw [s4o _ (by omega)]⟩
    have hS4' : ShM S4 (x + 175) := hS.to (fun a _ _ => s4o a (by omega))
    obtain ⟨μ2, hμ2⟩ : ∃ q, q = up2 μ (x + 175 + 16) k (-1) := ⟨_, rfl⟩
    have n2 : ∀ a j, ¬ (a = x + 191 ∧ j = k) → μ2 a j = μ a j := fun a j h => by rw [hμ2, up2_ne (by omega)]
    have n2k : μ2 (x + 191) k = -1 := by rw [hμ2, show x + 191 = x + 175 + 16 from by omega, up2_same]
    have hu : ∀ r, r < 8 → usedR μ2 x r → usedR μ x r := by
      rintro r hr ⟨q, hq, h⟩
      by_cases e : q = k
      · subst e
        rcases h with h | ⟨h1, h2⟩
        · rw [n2k] at h
          exact absurd h.symm (n1_ne (by omega))
        · rw [n2 _ _ (by omega)] at h1 h2
          exact ⟨q, hq, Or.inr ⟨h1, h2⟩⟩
      · rw [n2 _ _ (by omega), n2 _ _ (by omega), n2 _ _ (by omega)] at h
        exact ⟨q, hq, h⟩
    refine ⟨1, mkH n st S4 μ, n, S4, μ2, ?_, ?_, ?_, ?_⟩
    · simp only [f_X11_sheet, k_within, some_bind, c1, c2, ite_bI0, if_true, xR10 hX, e2]
    · have e31 := mS31 (n := n) (st := st) (μ := μ) (v := -1) hS4' hk4
      rw [← hμ2] at e31
      simp only [f_X12_sheet, b_X12_sheet_28, b_X12_sheet_39, s_isFour, s_in, some_bind, c1, c2, ite_bI0, if_true, m1, mR31 hS4', e31]
    · exact hR'.1.to hX4 hS4' (fun a q h => n2 a q (by omega)) (fun q => n2 _ _ (by omega))
    · refine ⟨hTape.congr (fun a q h => n2 a q (by omega)), hRows.congr (fun a q h => n2 a q (by omega)), hTrace.congr (fun a q h => n2 a q (by omega)), hBase.congr (fun a h => s4o a (by omega)) (fun a q h => n2 a q (by omega)), hn, K, ρ, hK.to (Nat.le_refl _) (by rw [s4o _ (by omega)]) (fun k' hk' a h1 h2 => ?_) (fun a q h => n2 a q (by omega)) (fun k' hk' a q h1 h2 => ?_), ?_⟩
      · have hk2 := hK.2
        rw [hk'] at hk2
        simp only [] at hk2
        exact s4o a (by omega)
      · have hk2 := hK.2
        rw [hk'] at hk2
        simp only [] at hk2
        exact n2 a q (by omega)
      · obtain ⟨s1, s2, s3, s4⟩ := hSh
        refine ⟨fun q hq => ?_, fun h hh => ?_, fun r hr hur => ?_, fun r1 r2 q1 q2 q3 q4 => s4 r1 r2 q1 q2 (hu r1 q1 q3) (hu r2 q2 q4)⟩
        · by_cases e : q = k
          · subst e
            exact Or.inl ⟨n2k, by rw [s48]; simp⟩
          · rw [n2 _ _ (by omega), s48]
            simp only [e, if_false]
            exact s1 q hq
        · rw [n2 _ _ (by omega), n2 _ _ (by omega), n2 _ _ (by omega), n2 _ _ (by omega), s4o _ (by omega)]
          exact s2 h hh
        · obtain ⟨⟨p1, len, p2, p3, p4, p5, p6, p7⟩, p8, p9⟩ := s3 r hr (hu r hr hur)
          exact ⟨⟨p1.to (s4o _ (by omega)), len, p2, p3.to (s4o _ (by omega)), by rw [n2 _ _ (by omega)]; exact p4, by rw [n2 _ _ (by omega), n2 _ _ (by omega)]; exact p5, by rw [n2 _ _ (by omega)]; exact p6, fun i hi => by rw [n2 _ _ (by omega), n2 _ _ (by omega)]; exact p7 i hi⟩, p8, p9⟩
  · have t0 : ¬ nI t < (0 : Int32) := nI_pos (by omega)
    have tn : ¬ nI t = (-1 : Int32) := n1_ne (by omega)
    by_cases c3 : 40 < a3
    · refine Res.same hR' (-1) ?_ ?_
      · simp only [f_X11_sheet, k_within, some_bind, c1, c2, ite_bI0, if_true, tn, if_false, c3]
      · simp only [f_X12_sheet, s_isFour, s_in, some_bind, c1, c2, ite_bI0, if_true, t0, if_false, c3]
    by_cases c4 : a3 < 0
    · refine Res.same hR' (-14) ?_ ?_
      · simp only [f_X11_sheet, k_within, some_bind, c1, c2, ite_bI0, if_true, tn, if_false, c3, c4]
      · simp only [f_X12_sheet, b_X12_sheet_28, s_isFour, s_in, some_bind, c1, c2, ite_bI0, if_true, t0, if_false, c3, c4]
    obtain ⟨len, hlen, rfl⟩ := inS_n (M := 40) (a := a3) (by omega) (by rw [inS, decide_eq_true_eq]; exact ⟨c4, c3⟩)
    obtain ⟨S4, μ1, f1, s4o, s81, s82, s83, rn, rm, t1, t2, t3⟩ := k_newRow (n := n) (st := st) (μ := μ) hX hn (k := k) (t := t) (len := len) hk4 (by omega) (by omega)
    have hX4 : ShX S4 x := hX.to (fun a _ _ h1 _ => s4o a (by omega) h1) ⟨by rw [s4o _ (by omega) (by omega)], by rw [s4o _ (by omega) (by omega)], fun j _ => by rw [s4o _ (by omega) (by omega)]⟩ (by rw [s81, s82, hX.sheets.1, hX.sheets.2]; exact ⟨rfl, rfl⟩) ⟨by rw [s4o _ (by omega) (by omega)], by rw [s4o _ (by omega) (by omega)]⟩
    have hS4' : ShM S4 (x + 175) := hS.to (fun a _ _ => s4o a (by omega) (by omega))
    obtain ⟨μ2, hμ2⟩ : ∃ q, q = up2 μ1 (x + 175 + 16) k (-1) := ⟨_, rfl⟩
    have n2k : μ2 (x + 191) k = -1 := by rw [hμ2, show x + 191 = x + 175 + 16 from by omega, up2_same]
    have n2 : ∀ a j, a < n → ¬ (a = x + 191 ∧ j = k) → μ2 a j = μ a j := fun a j h h' => by rw [hμ2, up2_ne (by omega), t3 a j h]
    obtain ⟨r, hr, hnu, hfree⟩ := r_freeRow (n := n + 2) (st := st) hS4' hk4 n2k
    obtain ⟨μ3, hμ3⟩ : ∃ q, q = up2 (up2 (up2 μ2 (x + 175 + 16) k (nI r)) (x + 175 + 17) r (nI t)) (x + 175 + 18) r (nI len) := ⟨_, rfl⟩
    obtain ⟨fu, hfu, hfl⟩ : ∃ q, FU = q ∧ 301 < q := ⟨FU, rfl, by decide⟩
    obtain ⟨μ4, u1, u2, u3⟩ := r_sheetL (n := n + 2) (st := st) hS4' hr 40 0 fu μ3 (by omega) (by omega)
    have n4 : ∀ a j, a < n → ¬ (a = x + 191 ∧ j = k) → ¬ (a = x + 192 ∧ j = r) → ¬ (a = x + 193 ∧ j = r) → ¬ (a = x + 194 ∧ 40 * r ≤ j ∧ j < 40 * r + 40) → μ4 a j = μ a j := fun a j h h1 h2 h3 h4 => by rw [u3 a j (by omega), hμ3, up2_ne (by omega), up2_ne (by omega), up2_ne (by omega), n2 a j h h1]
    have m191 : μ4 (x + 191) k = nI r := by rw [u3 _ _ (by omega), hμ3, up2_ne (by omega), up2_ne (by omega), show x + 191 = x + 175 + 16 from by omega, up2_same]
    have m192 : μ4 (x + 192) r = nI t := by rw [u3 _ _ (by omega), hμ3, up2_ne (by omega), show x + 192 = x + 175 + 17 from by omega, up2_same]
    have m193 : μ4 (x + 193) r = nI len := by rw [u3 _ _ (by omega), hμ3, show x + 193 = x + 175 + 18 from by omega, up2_same]
    have m194 : ∀ i, i < 40 → μ4 (x + 194) (40 * r + i) = 0 := fun i hi => u2 _ (by omega) (by omega)
    have mn0 : μ4 n 0 = nI t := by rw [u3 _ _ (by omega), hμ3, up2_ne (by omega), up2_ne (by omega), up2_ne (by omega), hμ2, up2_ne (by omega), t1]
    have mn1 : ∀ i, μ4 (n + 1) i = 0 := fun i => by rw [u3 _ _ (by omega), hμ3, up2_ne (by omega), up2_ne (by omega), up2_ne (by omega), hμ2, up2_ne (by omega), t2]
    have other : ∀ q, q < 4 → q ≠ k → μ (x + 191) q ≠ nI r := fun q hq hqk h => hnu ⟨q, hq, Or.inl (by rw [n2 _ _ (by omega) (by omega)]; exact h)⟩
    have others : ∀ q, q < 4 → μ (x + 195) q = 4 → μ (x + 196) q ≠ nI r := fun q hq h4 h => hnu ⟨q, hq, Or.inr ⟨by rw [n2 _ _ (by omega) (by omega)]; exact h4, by rw [n2 _ _ (by omega) (by omega)]; exact h⟩⟩
    have hu : ∀ r', r' < 8 → r' ≠ r → usedR μ4 x r' → usedR μ x r' := by
      rintro r' hr' hne ⟨q, hq, h⟩
      rw [n4 (x + 195) q (by omega) (by omega) (by omega) (by omega) (by omega), n4 (x + 196) q (by omega) (by omega) (by omega) (by omega) (by omega)] at h
      by_cases e : q = k
      · subst e
        rcases h with h | h
        · rw [m191] at h
          exact absurd ((nI_eq (by omega) (by omega)).mp h).symm hne
        · exact ⟨q, hq, Or.inr h⟩
      · rw [n4 (x + 191) q (by omega) (by omega) (by omega) (by omega) (by omega)] at h
        exact ⟨q, hq, h⟩
    refine ⟨1, mkH (n + 2) st S4 μ1, n + 2, S4, μ4, ?_, ?_, ?_, ?_⟩
    · simp only [f_X11_sheet, k_within, some_bind, c1, c2, ite_bI0, if_true, tn, if_false, c3, c4, xR10 hX]
      exact f1
    · have e31 := mS31 (n := n + 2) (st := st) (μ := μ1) (v := -1) hS4' hk4
      rw [← hμ2] at e31
      have e31b := mS31 (n := n + 2) (st := st) (μ := μ2) (v := nI r) hS4' hk4
      have e32 := mS32 (n := n + 2) (st := st) (μ := up2 μ2 (x + 175 + 16) k (nI r)) (v := nI t) hS4' hr
      have e33 := mS33 (n := n + 2) (st := st) (μ := up2 (up2 μ2 (x + 175 + 16) k (nI r)) (x + 175 + 17) r (nI t)) (v := nI len) hS4' hr
      rw [← hμ3] at e33
      rw [← u1, ← hfu]
      simp only [f_X12_sheet, b_X12_sheet_28, b_X12_sheet_39, s_isFour, s_in, some_bind, c1, c2, ite_bI0, if_true, t0, if_false, c3, c4, mR31 hS4', e31, rck hS4', hfree, e31b, mR32 hS4', e32, mR33 hS4', e33]
      rfl
    · exact hR'.1.to hX4 hS4' (fun a q h => n4 a q (by omega) (by omega) (by omega) (by omega) (by omega)) (fun q => n4 _ _ (by omega) (by omega) (by omega) (by omega) (by omega))
    · refine ⟨hTape.congr (fun a q h => n4 a q (by omega) (by omega) (by omega) (by omega) (by omega)), hRows.congr (fun a q h => n4 a q (by omega) (by omega) (by omega) (by omega) (by omega)), hTrace.congr (fun a q h => n4 a q (by omega) (by omega) (by omega) (by omega) (by omega)), hBase.congr (fun a h => s4o a (by omega) (by omega)) (fun a q h => n4 a q (by omega) (by omega) (by omega) (by omega) (by omega)), by omega, K, fun q => if q = r then n else ρ q, hK.to (by omega) (by rw [s4o _ (by omega) (by omega)]) (fun k' hk' a h1 h2 => ?_) (fun a q h => n4 a q (by omega) (by omega) (by omega) (by omega) (by omega)) (fun k' hk' a q h1 h2 => ?_), ?_⟩
      · have hk2 := hK.2
        rw [hk'] at hk2
        simp only [] at hk2
        exact s4o a (by omega) (by omega)
      · have hk2 := hK.2
        rw [hk'] at hk2
        simp only [] at hk2
        exact n4 a q (by omega) (by omega) (by omega) (by omega) (by omega)
      · have hKn : ∀ k', K = some k' → k' + 148 ≤ n := by
          intro k' hk'
          have hk2 := hK.2
          rw [hk'] at hk2
          simp only [] at hk2
          omega
        obtain ⟨s1, s2, s3, s4⟩ := hSh
        refine ⟨fun q hq => ?_, fun h hh => ?_, fun r' hr' hur => ?_, fun r1 r2 q1 q2 q3 q4 hne => ?_⟩
        · by_cases e : q = k
          · subst e
            exact Or.inr ⟨r, hr, m191, by rw [s83]; simp⟩
          · rw [n4 _ _ (by omega) (by omega) (by omega) (by omega) (by omega), s83, if_neg e]
            rcases s1 q hq with h | ⟨r', h1, h2, h3⟩
            · exact Or.inl h
            · refine Or.inr ⟨r', h1, h2, ?_⟩
              have : ¬ r' = r := fun er => by subst er; exact other q hq e h2
              simp only [this, if_false]
              exact h3
        · rw [n4 _ _ (by omega) (by omega) (by omega) (by omega) (by omega), n4 _ _ (by omega) (by omega) (by omega) (by omega) (by omega), n4 _ _ (by omega) (by omega) (by omega) (by omega) (by omega), n4 _ _ (by omega) (by omega) (by omega) (by omega) (by omega), s4o _ (by omega) (by omega)]
          rcases s2 h hh with h' | h' | ⟨r', h1, h2, h3, h4, h5⟩
          · exact Or.inl h'
          · exact Or.inr (Or.inl h')
          · refine Or.inr (Or.inr ⟨r', h1, h2, h3, ?_, h5⟩)
            have : ¬ r' = r := fun er => by subst er; exact others h hh h2 h3
            simp only [this, if_false]
            exact h4
        · by_cases e : r' = r
          · subst e
            simp only [if_true]
            refine ⟨⟨rn, len, by omega, rm, m193, by rw [mn0, m192], ⟨t, by omega, mn0⟩, fun i hi => by rw [mn1, m194 i (by omega)]⟩, by omega, by omega, fun k' hk' => Or.inr (hKn k' hk')⟩
          · simp only [e, if_false]
            obtain ⟨⟨p1, len', p2, p3, p4, p5, p6, p7⟩, p8, p9, p10⟩ := s3 r' hr' (hu r' hr' e hur)
            exact ⟨⟨p1.to (s4o _ (by omega) (by omega)), len', p2, p3.to (s4o _ (by omega) (by omega)), by rw [n4 _ _ (by omega) (by omega) (by omega) (by omega) (by omega)]; exact p4, by rw [n4 _ _ (by omega) (by omega) (by omega) (by omega) (by omega), n4 _ _ (by omega) (by omega) (by omega) (by omega) (by omega)]; exact p5, by rw [n4 _ _ (by omega) (by omega) (by omega) (by omega) (by omega)]; exact p6, fun i hi => by rw [n4 _ _ (by omega) (by omega) (by omega) (by omega) (by omega), n4 _ _ (by omega) (by omega) (by omega) (by omega) (by omega)]; exact p7 i hi⟩, p8, by omega, p10⟩
        · by_cases e1 : r1 = r
          · have e2 : ¬ r2 = r := fun q => hne (by rw [e1, q])
            simp only [e1, e2, if_true, if_false]
            obtain ⟨-, p8, p9, -⟩ := s3 r2 q2 (hu r2 q2 e2 q4)
            omega
          · by_cases e2 : r2 = r
            · simp only [e1, e2, if_true, if_false]
              obtain ⟨-, p8, p9, -⟩ := s3 r1 q1 (hu r1 q1 e1 q3)
              omega
            · simp only [e1, e2, if_false]
              exact s4 r1 r2 q1 q2 (hu r1 q1 e1 q3) (hu r2 q2 e2 q4) hne
end SHEET3
