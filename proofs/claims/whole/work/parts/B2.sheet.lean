-- ===== put, sheet =====
/-- a number as a row of kind t holds it -/
def narS (t : Nat) (a : Int32) : Int32 := if t = 0 then a.toInt8.toInt32 else if t = 1 then a.toInt16.toInt32 else if t = 4 then (if a = 0 then 0 else 1) else a
section SHEET
variable {n n' : Nat} {st : Nat → Nat} {S S' : SH} {μ μ' : MU} {x b m c l : Nat} {D : DR}
theorem KeptOK.to {K : Option Nat} (hK : KeptOK n S μ x K) (hn : n ≤ n') (h1 : (S' x).2.2 1 = (S x).2.2 1) (hS : ∀ k, K = some k → ∀ a, k ≤ a → a < k + 148 → S' a = S a) (hm : ∀ a j, (a = x + 175 ∧ j = 2) ∨ a = x + 177 → μ' a j = μ a j) (hk : ∀ k, K = some k → ∀ a j, k ≤ a → a < k + 148 → μ' a j = μ a j) : KeptOK n' S' μ' x K := by
  refine ⟨by rw [h1]; exact hK.1, ?_⟩
  have := hK.2
  cases K with
  | none => simp only [] at this ⊢; rw [hm (x + 175) 2 (by omega)]; exact this
  | some K =>
    simp only [] at this ⊢
    obtain ⟨k1, k2, k3, k4, k5, k6⟩ := this
    have hD : μ' (x + 177) = μ (x + 177) := funext fun q => hm _ _ (by omega)
    refine ⟨by rw [hm (x + 175) 2 (by omega)]; exact k1, k2, by omega, k4.to (hS K rfl), ?_, by rw [hD]; exact k6⟩
    exact Sim.congr k6 k5 (fun a j h => hk K rfl a j (by omega) (by omega)) (fun q => hm _ _ (by omega))
theorem k_narrowed {a r t : Nat} (h : RowOK S μ x a r) (ht : t < 5) (h0 : μ a 0 = nI t) (v : Int32) : f_X7_narrowed (some a) v (mkH n st S μ) = some (narS t v) := by
  have g0 := row_gI (n := n) (st := st) h
  rw [h0] at g0
  rcases (by omega : t = 0 ∨ t = 1 ∨ t = 2 ∨ t = 3 ∨ t = 4) with rfl | rfl | rfl | rfl | rfl
  · rw [f_X7_narrowed, g0, some_bind, if_neg (by decide), if_pos (by decide)]; rfl
  · rw [f_X7_narrowed, g0, some_bind, if_neg (by decide), if_neg (by decide), if_pos (by decide)]; rfl
  · rw [f_X7_narrowed, g0, some_bind, if_neg (by decide), if_neg (by decide), if_neg (by decide), if_pos (by decide)]; rfl
  · rw [f_X7_narrowed, g0, some_bind, if_neg (by decide), if_neg (by decide), if_neg (by decide), if_neg (by decide), if_pos (by decide)]; rfl
  · rw [f_X7_narrowed, g0, some_bind, if_neg (by decide), if_neg (by decide), if_neg (by decide), if_neg (by decide), if_neg (by decide), if_pos (by decide)]
    have e4 : narS 4 v = if v = 0 then 0 else 1 := rfl
    rw [e4]
    by_cases h : v = 0
    · rw [if_pos h, if_pos h]
    · rw [if_neg h, if_neg h]
theorem op_put (hR : R n st S μ x b) (a1 a2 a3 : Int32) : Res (f_X11_put (some x) a1 a2 a3) (f_X12_put (some (x + 175)) a1 a2 a3) n st S μ x b := by
  have hR' := hR
  obtain ⟨⟨hX, hS, hs, hI, hL0⟩, hRest⟩ := hR
  have hC := hX.city
  have hBase := hRest.2.2.2.1
  obtain ⟨D, hD⟩ : ∃ D, μ (x + 175 + 1) = D := ⟨_, rfl⟩
  replace hs : Sim μ (x + 1) (μ (x + 175 + 1)) := hs
  replace hI : Inv (μ (x + 175 + 1)) := hI
  rw [hD] at hs hI
  obtain ⟨e0, b0⟩ := hI.today
  obtain ⟨e1, b1⟩ := hI.wards
  obtain ⟨e2, b2⟩ := hI.men
  obtain ⟨e3, b3⟩ := hI.words
  obtain ⟨e4, b4⟩ := hI.bars
  obtain ⟨e5, b5⟩ := hI.shes
  obtain ⟨e6, b6⟩ := hI.wets
  obtain ⟨e8, b8⟩ := hI.heaped
  have z0 := hs.today
  have z1 := hs.wardN
  have z2 := hs.manN
  have z3 := hs.wordN
  have z4 := hs.barN
  have z5 := hs.sheN
  have z6 := hs.wetN
  have z8 := hs.heapN
  obtain ⟨hTape, hRows, hTrace, -, hn, K, ρ, hK, hSh⟩ := hRest
  by_cases c1 : inS a1 0 3 = true
  case neg => exact Res.same hR' (-1) (by simp only [f_X11_put, k_within, some_bind, c1, ite_bI0, if_false, Bool.false_eq_true]) (by simp only [f_X12_put, s_isFour, some_bind, c1, ite_bI0, if_false, Bool.false_eq_true])
  obtain ⟨k, hk, rfl⟩ := inS_n (M := 3) (by omega) c1
  have hk4 : k < 4 := by omega
  have e31 : ∀ μ1 : MU, aI (mkH n st S μ1) (some (x + 175 + 16)) (nI k) = some (μ1 (x + 191) k) := fun μ1 => mA31 hS hk4
  rcases sheet_at (n := n) (st := st) hX hSh hk4 with ⟨h1, h2⟩ | ⟨r, hr, h1, h2, hrow, hur⟩
  · have m1 : (-1 : Int32) < 0 := by decide
    exact Res.same hR' (-11) (by simp only [f_X11_put, k_within, some_bind, c1, ite_bI0, if_true, xR10 hX, h2]) (by simp only [f_X12_put, s_isFour, some_bind, c1, ite_bI0, if_true, mR31 hS, e31, h1, m1])
  · have g0 := row_gI (n := n) (st := st) hrow
    have g1 := row_gR (n := n) (st := st) hrow
    have hrow' := hrow
    obtain ⟨-, len, l1, l2, l3, l4, ⟨t, ht, l5⟩, l6⟩ := hrow'
    obtain ⟨-, w1, w2, w3⟩ := hSh.2.2.1 r hr hur
    have r0 : ¬ nI r < (0 : Int32) := nI_pos (by omega)
    have e32 : ∀ μ1 : MU, aI (mkH n st S μ1) (some (x + 175 + 17)) (nI r) = some (μ1 (x + 192) r) := fun μ1 => mA32 hS hr
    have e33 : ∀ μ1 : MU, aI (mkH n st S μ1) (some (x + 175 + 18)) (nI r) = some (μ1 (x + 193) r) := fun μ1 => mA33 hS hr
    have nn : ∀ v : Nat, ¬ (some v : Option Nat) = none := fun v h => by cases h
    have aLn : aL (mkH n st S μ) (some (ρ r + 1)) = some (nI len) := ob_aL l2 (by omega)
    have hix := inS_len (a := a2) l1
    by_cases c4 : ixB a2 len = true
    case neg =>
      refine Res.same hR' (-12) ?_ ?_
      · simp only [f_X11_put, k_within, some_bind, c1, ite_bI0, if_true, xR10 hX, h2, nn, if_false, g1, aLn, hix, c4, Bool.false_eq_true]
      · simp only [f_X12_put, s_isFour, s_in, some_bind, c1, ite_bI0, if_true, mR31 hS, e31, h1, r0, if_false, mR33 hS, e33, l3, hix, c4, Bool.false_eq_true]
    obtain ⟨i, hi, rfl⟩ := ixB_ex (by omega) c4
    obtain ⟨v, hv⟩ : ∃ v, v = narS t a3 := ⟨_, rfl⟩
    have kN := k_narrowed (n := n) (st := st) hrow ht l5 a3
    rw [← hv] at kN
    obtain ⟨μ1, hμ1⟩ : ∃ q, q = up2 μ (ρ r + 1) i v := ⟨_, rfl⟩
    have n1 : ∀ a j, ¬ (a = ρ r + 1 ∧ j = i) → μ1 a j = μ a j := fun a j h => by rw [hμ1, up2_ne h]
    obtain ⟨μ2, hμ2⟩ : ∃ q, q = up2 μ1 (x + 175 + 19) (40 * r + i) v := ⟨_, rfl⟩
    have n2 : ∀ a j, ¬ (a = ρ r + 1 ∧ j = i) → ¬ (a = x + 194 ∧ j = 40 * r + i) → μ2 a j = μ a j := fun a j h h' => by rw [hμ2, up2_ne (by omega), n1 a j h]
    have fx : f_X11_put (some x) (nI k) (nI i) a3 (mkH n st S μ) = some (1, mkH n st S μ1) := by
      have sI' : sI (mkH n st S μ) (some (ρ r + 1)) (nI i) v = some (mkH n st S μ1) := by rw [hμ1]; exact ob_sI l2 hi (by omega)
      simp only [f_X11_put, k_within, some_bind, c1, ite_bI0, if_true, xR10 hX, h2, nn, if_false, g1, aLn, hix, c4, row_ck hrow, kN, sI']
    have q191 : μ1 (x + 191) k = nI r := by rw [n1 _ _ (by omega)]; exact h1
    have q192 : μ1 (x + 192) r = nI t := by rw [n1 _ _ (by omega), ← l4]; exact l5
    have q193 : μ1 (x + 193) r = nI len := by rw [n1 _ _ (by omega)]; exact l3
    have s111 : ∀ w, w = v → b_X12_put_111 (some (x + 175 + 19)) (nI (40 * r + i)) w (mkH n st S μ1) = some (1, mkH n st S μ2) := by
      intro w hw
      have := mS34 (n := n) (st := st) (μ := μ1) (v := v) hS (q := 40 * r + i) (by omega)
      rw [← hμ2] at this
      rw [b_X12_put_111, hw, this, some_bind]
    have fm : f_X12_put (some (x + 175)) (nI k) (nI i) a3 (mkH n st S μ1) = some (1, mkH n st S μ2) := by
      have hp : f_X12_put (some (x + 175)) (nI k) (nI i) a3 (mkH n st S μ1) = if nI t = 0 then b_X12_put_111 (some (x + 175 + 19)) (nI (40 * r + i)) (a3.toInt8.toInt32) (mkH n st S μ1) else if nI t = 1 then b_X12_put_111 (some (x + 175 + 19)) (nI (40 * r + i)) (a3.toInt16.toInt32) (mkH n st S μ1) else if nI t = 4 then (if a3 = 0 then b_X12_put_111 (some (x + 175 + 19)) (nI (40 * r + i)) 0 (mkH n st S μ1) else b_X12_put_111 (some (x + 175 + 19)) (nI (40 * r + i)) 1 (mkH n st S μ1)) else b_X12_put_111 (some (x + 175 + 19)) (nI (40 * r + i)) a3 (mkH n st S μ1) := by
        simp only [f_X12_put, s_isFour, s_in, some_bind, c1, ite_bI0, if_true, mR31 hS, e31, q191, r0, if_false, mR33 hS, e33, q193, hix, c4, mR34 hS, mR32 hS, e32, q192, lit_mul, nI_add]
      rw [hp]
      rcases (by omega : t = 0 ∨ t = 1 ∨ t = 2 ∨ t = 3 ∨ t = 4) with rfl | rfl | rfl | rfl | rfl
      · rw [if_pos (by decide)]; exact s111 _ (by rw [hv]; rfl)
      · rw [if_neg (by decide), if_pos (by decide)]; exact s111 _ (by rw [hv]; rfl)
      · rw [if_neg (by decide), if_neg (by decide), if_neg (by decide)]; exact s111 _ (by rw [hv]; rfl)
      · rw [if_neg (by decide), if_neg (by decide), if_neg (by decide)]; exact s111 _ (by rw [hv]; rfl)
      · rw [if_neg (by decide), if_neg (by decide), if_pos (by decide)]
        have hv4 : v = if a3 = 0 then 0 else 1 := by
          rw [hv, narS, if_neg (by decide), if_neg (by decide), if_pos rfl]
        by_cases h : a3 = 0
        · rw [if_pos h]; exact s111 _ (by rw [hv4, if_pos h])
        · rw [if_neg h]; exact s111 _ (by rw [hv4, if_neg h])
    refine ⟨1, mkH n st S μ1, n, S, μ2, fx, fm, ?_, ?_⟩
    · exact hR'.1.keep (fun a q h => n2 a q (by omega) (by omega)) (fun q => n2 _ _ (by omega) (by omega))
    · have hu : ∀ r', usedR μ2 x r' ↔ usedR μ x r' := by
        intro r'
        unfold usedR
        simp (disch := omega) only [n2]
      refine ⟨hTape.congr (fun a q h => n2 a q (by omega) (by omega)), hRows.congr (fun a q h => n2 a q (by omega) (by omega)), hTrace.congr (fun a q h => n2 a q (by omega) (by omega)), hBase.congr (fun _ _ => rfl) (fun a q h => n2 a q (by omega) (by omega)), hn, K, ρ, hK.to (Nat.le_refl _) rfl (fun _ _ _ _ _ => rfl) (fun a q h => n2 a q (by omega) (by omega)) (fun k' hk' a q h1 h2 => ?_), ?_⟩
      · have := w3 k' hk'
        have hk2 := hK.2
        rw [hk'] at hk2
        simp only [] at hk2
        exact n2 a q (by omega) (by omega)
      · obtain ⟨s1, s2, s3, s4⟩ := hSh
        refine ⟨fun k hk => by rw [n2 _ _ (by omega) (by omega)]; exact s1 k hk, fun k hk => by rw [n2 (x + 195) _ (by omega) (by omega), n2 (x + 196) _ (by omega) (by omega), n2 (x + 169) _ (by omega) (by omega), n2 (x + 170) _ (by omega) (by omega)]; exact s2 k hk, fun r' hr' hu' => ?_, fun r1 r2 q1 q2 q3 q4 => s4 r1 r2 q1 q2 ((hu r1).mp q3) ((hu r2).mp q4)⟩
        obtain ⟨⟨p1, len', p2, p3, p4, p5, p6, p7⟩, p8, p9⟩ := s3 r' hr' ((hu r').mp hu')
        refine ⟨⟨p1, len', p2, p3, by rw [n2 _ _ (by omega) (by omega)]; exact p4, ?_, ?_, fun i' hi' => ?_⟩, p8, p9⟩
        · by_cases e : r' = r
          · subst e; rw [n2 _ _ (by omega) (by omega), n2 _ _ (by omega) (by omega)]; exact p5
          · have := s4 r' r hr' hr ((hu r').mp hu') hur e
            rw [n2 _ _ (by omega) (by omega), n2 _ _ (by omega) (by omega)]; exact p5
        · by_cases e : r' = r
          · subst e; rw [n2 _ _ (by omega) (by omega)]; exact p6
          · have := s4 r' r hr' hr ((hu r').mp hu') hur e
            rw [n2 _ _ (by omega) (by omega)]; exact p6
        · by_cases e : r' = r
          · subst e
            by_cases ei : i' = i
            · subst ei
              rw [hμ2, show x + 194 = x + 175 + 19 from by omega, up2_same, up2_ne (by omega), hμ1, up2_same]
            · rw [n2 _ _ (by omega) (by omega), n2 _ _ (by omega) (by omega)]; exact p7 i' hi'
          · have := s4 r' r hr' hr ((hu r').mp hu') hur e
            rw [n2 _ _ (by omega) (by omega), n2 _ _ (by omega) (by omega)]; exact p7 i' hi'
end SHEET
