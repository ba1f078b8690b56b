-- ===== keep =====
section KEEP
variable {n n' : Nat} {st : Nat → Nat} {S S' : SH} {μ μ' : MU} {x b m c l : Nat} {D : DR} {K K' : Option Nat} {ρ : Nat → Nat}
theorem SheetOK.to (h : SheetOK n S μ x ρ K) (hn : n ≤ n') (e1 : ∀ k, k < 4 → (S' (x + 168)).2.2 k = (S (x + 168)).2.2 k) (e2 : ∀ k, k < 4 → (S' (x + 171)).2.2 k = (S (x + 171)).2.2 k) (hm : ∀ a j, a = x + 169 ∨ a = x + 170 ∨ (x + 191 ≤ a ∧ a ≤ x + 196) → μ' a j = μ a j) (hr : ∀ r, r < 8 → usedR μ x r → (S' (ρ r) = S (ρ r) ∧ S' (ρ r + 1) = S (ρ r + 1)) ∧ (∀ j, μ' (ρ r) j = μ (ρ r) j ∧ μ' (ρ r + 1) j = μ (ρ r + 1) j) ∧ ∀ k, K' = some k → ρ r + 2 ≤ k ∨ k + 148 ≤ ρ r) : SheetOK n' S' μ' x ρ K' := by
  obtain ⟨s1, s2, s3, s4⟩ := h
  have hu : ∀ r, usedR μ' x r ↔ usedR μ x r := by
    intro r
    unfold usedR
    simp (disch := omega) only [hm]
  refine ⟨fun k hk => ?_, fun k hk => ?_, fun r hr8 hur => ?_, fun r r' h1 h2 h3 h4 => s4 r r' h1 h2 ((hu r).mp h3) ((hu r').mp h4)⟩
  · rw [hm (x + 191) k (by omega), e1 k hk]; exact s1 k hk
  · rw [hm (x + 195) k (by omega), hm (x + 196) k (by omega), hm (x + 169) k (by omega), hm (x + 170) k (by omega), e2 k hk]; exact s2 k hk
  · have hur' := (hu r).mp hur
    obtain ⟨⟨q1, len, q2, q3, q4, q5, q6, q7⟩, q8, q9, -⟩ := s3 r hr8 hur'
    obtain ⟨⟨g1, g2⟩, g3, g4⟩ := hr r hr8 hur'
    refine ⟨⟨obS.to q1 g1, len, q2, obS.to q3 g2, by rw [hm (x + 193) r (by omega)]; exact q4, by rw [(g3 0).1, hm (x + 192) r (by omega)]; exact q5, by rw [(g3 0).1]; exact q6, fun i hi => ?_⟩, q8, by omega, g4⟩
    rw [(g3 i).2, hm (x + 194) _ (by omega)]; exact q7 i hi
theorem op_keep (hR : R n st S μ x b) : Res (f_X11_keep (some x)) (f_X12_keep (some (x + 175))) n st S μ x b := by
  have hR' := hR
  have hCore := hR.1
  obtain ⟨⟨hX, hS, hs, hI, hL0⟩, hRest⟩ := hR
  have hC := hX.city
  have hBase := hRest.2.2.2.1
  obtain ⟨D, hD⟩ : ∃ D, μ (x + 175 + 1) = D := ⟨_, rfl⟩
  replace hs : Sim μ (x + 1) (μ (x + 175 + 1)) := hs
  replace hI : Inv (μ (x + 175 + 1)) := hI
  rw [hD] at hs hI
  obtain ⟨e0, b0⟩ := hI.today
  obtain ⟨e1, b1⟩ := hI.wards
  obtain ⟨e2, b2⟩ := hI.men
  obtain ⟨e3, b3⟩ := hI.words
  obtain ⟨e4, b4⟩ := hI.bars
  obtain ⟨e5, b5⟩ := hI.shes
  obtain ⟨e6, b6⟩ := hI.wets
  obtain ⟨e8, b8⟩ := hI.heaped
  have z0 := hs.today
  have z1 := hs.wardN
  have z2 := hs.manN
  have z3 := hs.wordN
  have z4 := hs.barN
  have z5 := hs.sheN
  have z6 := hs.wetN
  have z8 := hs.heapN
  have hRest' := hRest
  obtain ⟨hT, hRw, hTr, -, hn, K, ρ, hK, hSh⟩ := hRest'
  obtain ⟨hK1, hK2⟩ := hK
  have g1 : gR 11 1 (mkH n st S μ) (some x) = some K := gR_mk hX.obj.1 hK1
  cases K with
  | none =>
    have hz : ∀ j, zeR μ n n j = 0 := fun j => zeR_same
    obtain ⟨S1, μ1, i1, i2, i3, i4, -⟩ := k_init2 (st := st) (S := upS S n (2, 20, sl2)) (μ := zeR μ n) (x := x) (b := b) (c := n) upS_same (hBase.congr (fun a h => upS_ne (by omega)) (fun a j h => zeR_ne (by omega))) (by omega) hz
    have o1 : ∀ z, z < n → S1 z = S z := fun z h => by rw [i3 z h, upS_ne (by omega)]
    have v1 : ∀ z j, z < n → μ1 z j = μ z j := fun z j h => by rw [i4 z j h, zeR_ne (by omega)]
    obtain ⟨S2, h2⟩ : ∃ q, q = slS S1 x 1 (some n) := ⟨_, rfl⟩
    have o2 : ∀ z, z < n → ¬ z = x → S2 z = S z := fun z h h' => by rw [h2, slS_ne h', o1 z h]
    have o3 : ∀ z, ¬ z = x → S2 z = S1 z := fun z h => by rw [h2, slS_ne h]
    have x2 : S2 x = ((S x).1, (S x).2.1, fun i => if i = 1 then some (some n) else (S x).2.2 i) := by rw [h2, slS_at, o1 x (by omega)]
    have hA : ShC S2 n := i2.to (fun a q1 q2 => o3 a (by omega))
    have hX2 : ShX S2 x := hX.to (fun a q1 q2 _ _ => o2 a (by omega) (by omega)) ⟨by rw [x2], by rw [x2], fun j hj => by rw [x2]; simp only [hj, if_false]⟩ ⟨by rw [o2 _ (by omega) (by omega)], by rw [o2 _ (by omega) (by omega)]⟩ ⟨by rw [o2 _ (by omega) (by omega)], by rw [o2 _ (by omega) (by omega)]⟩
    have hS2 : ShM S2 (x + 175) := hS.to (fun a q1 q2 => o2 a (by omega) (by omega))
    have hs1 : Sim μ1 (x + 1) D := Sim.congr hI hs (fun a j h => v1 a j (by omega)) (fun q => rfl)
    obtain ⟨μ2, e1, e2, e3⟩ := k_become (n := n + 148) (st := st) (μ := μ1) hA hX2.city (by omega) hs1 hI
    have g1' : gR 11 1 (mkH (n + 148) st S2 μ1) (some x) = some (some n) := gR_mk hX2.obj.1 (by rw [x2]; rfl)
    have rl := r_keepL (n := n + 148) (st := st) hS2 2224 0 FU μ2 (by omega) (by have : FU = 4000 := rfl; omega)
    obtain ⟨μ3, em⟩ : ∃ z, z = up2 (cpS μ2 (x + 175 + 1) (x + 175 + 2) 0) (x + 175) 2 1 := ⟨_, rfl⟩
    have F : ∀ a j, a < n → ¬ a = x + 177 → ¬ (a = x + 175 ∧ j = 2) → μ3 a j = μ a j := fun a j h1 h2 h3 => by rw [em, up2_ne h3, cpS_ne (by omega), e3 a j (by omega), v1 a j h1]
    have hDe : ∀ q, μ2 (x + 175 + 1) q = D q := fun q => by rw [e3 _ _ (by omega), v1 _ _ (by omega), hD]
    have hD' : ∀ q, q < 2224 → μ3 (x + 177) q = D q := fun q hq => by rw [em, up2_ne (by omega), cpS_at (by omega) hq, hDe]
    refine ⟨1, mkH (n + 148) st S2 μ2, n + 148, S2, μ3, ?_, ?_, hCore.to hX2 hS2 (fun a j h => F a j (by omega) (by omega) (by omega)) (fun q => F _ _ (by omega) (by omega) (by omega)), hT.congr (fun a j h => F a j (by omega) (by omega) (by omega)), hRw.congr (fun a j h => F a j (by omega) (by omega) (by omega)), hTr.congr (fun a j h => F a j (by omega) (by omega) (by omega)), hBase.congr (fun a h => o2 a (by omega) (by omega)) (fun a j h => F a j (by omega) (by omega) (by omega)), by omega, some n, ρ, ⟨by rw [x2]; rfl, ?_⟩, ?_⟩
    · simp only [f_X11_keep, g1, some_bind, if_true, nO_mk sl2 ty2, show (mkH n st S μ).1 = n from rfl, i1]
      rw [pR_mk (by rw [o1 x (by omega)]; exact hX.obj.1), some_bind, ← h2]
      simp only [b_X11_keep_18, g1', some_bind, xR0 hX2, cck hA, e1]
    · rw [f_X12_keep, em]
      exact rl
    · refine ⟨by rw [em, up2_same], by omega, by omega, hA, ?_, Inv.cut hI hD'⟩
      refine Sim.cut hI (Sim.congr hI e2 (fun a j h => ?_) (fun q => rfl)) hD'
      rw [em, up2_ne (by omega), cpS_ne (by omega)]
    · refine hSh.to (by omega) (fun k hk => by rw [o2 _ (by omega) (by omega)]) (fun k hk => by rw [o2 _ (by omega) (by omega)]) (fun a j h => F a j (by omega) (by omega) (by omega)) (fun r hr hu => ?_)
      obtain ⟨-, q8, q9, -⟩ := hSh.2.2.1 r hr hu
      exact ⟨⟨o2 _ (by omega) (by omega), o2 _ (by omega) (by omega)⟩, fun j => ⟨F _ _ (by omega) (by omega) (by omega), F _ _ (by omega) (by omega) (by omega)⟩, fun k hk => by obtain rfl := Option.some.inj hk; omega⟩
  | some K =>
    simp only [] at hK2
    obtain ⟨k1, k2, k3, k4, k5, k6⟩ := hK2
    have nn : ¬ (some K : Option Nat) = none := fun h => by cases h
    obtain ⟨μ2, e1, e2, e3⟩ := k_become (n := n) (st := st) (μ := μ) k4 hC (by omega) hs hI
    have rl := r_keepL (n := n) (st := st) hS 2224 0 FU μ2 (by omega) (by have : FU = 4000 := rfl; omega)
    obtain ⟨μ3, em⟩ : ∃ z, z = up2 (cpS μ2 (x + 175 + 1) (x + 175 + 2) 0) (x + 175) 2 1 := ⟨_, rfl⟩
    have F : ∀ a j, ¬ (K ≤ a ∧ a < K + 142) → ¬ a = x + 177 → ¬ (a = x + 175 ∧ j = 2) → μ3 a j = μ a j := fun a j h1 h2 h3 => by rw [em, up2_ne h3, cpS_ne (by omega), e3 a j (by omega)]
    have hDe : ∀ q, μ2 (x + 175 + 1) q = D q := fun q => by rw [e3 _ _ (by omega), hD]
    have hD' : ∀ q, q < 2224 → μ3 (x + 177) q = D q := fun q hq => by rw [em, up2_ne (by omega), cpS_at (by omega) hq, hDe]
    refine ⟨1, mkH n st S μ2, n, S, μ3, ?_, ?_, hCore.keep (fun a j h => F a j (by omega) (by omega) (by omega)) (fun q => F _ _ (by omega) (by omega) (by omega)), hT.congr (fun a j h => F a j (by omega) (by omega) (by omega)), hRw.congr (fun a j h => F a j (by omega) (by omega) (by omega)), hTr.congr (fun a j h => F a j (by omega) (by omega) (by omega)), hBase.congr (fun _ _ => rfl) (fun a j h => F a j (by omega) (by omega) (by omega)), by omega, some K, ρ, ⟨hK1, ?_⟩, ?_⟩
    · simp only [f_X11_keep, g1, some_bind, nn, if_false, b_X11_keep_18, xR0 hX, cck k4, e1]
    · rw [f_X12_keep, em]
      exact rl
    · refine ⟨by rw [em, up2_same], by omega, by omega, k4, ?_, Inv.cut hI hD'⟩
      refine Sim.cut hI (Sim.congr hI e2 (fun a j h => ?_) (fun q => rfl)) hD'
      rw [em, up2_ne (by omega), cpS_ne (by omega)]
    · refine hSh.to (by omega) (fun k hk => rfl) (fun k hk => rfl) (fun a j h => F a j (by omega) (by omega) (by omega)) (fun r hr hu => ?_)
      obtain ⟨-, q8, q9, q10⟩ := hSh.2.2.1 r hr hu
      have := q10 K rfl
      exact ⟨⟨rfl, rfl⟩, fun j => ⟨F _ _ (by omega) (by omega) (by omega), F _ _ (by omega) (by omega) (by omega)⟩, fun k hk => by obtain rfl := Option.some.inj hk; omega⟩
end KEEP
