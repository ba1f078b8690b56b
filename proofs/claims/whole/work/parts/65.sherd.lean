-- ===== a new sherd =====
theorem or_gate {α : Type} {p : Prop} [Decidable p] (q : Bool) (E F : α) : (if p then E else if q then E else F) = if (decide p || q) then E else F := by
  by_cases hp : p
  · simp [hp]
  · simp [hp]
section SHERD
variable {n : Nat} {st : Nat → Nat} {S : SH} {μ : MU} {x b m c : Nat} {D : DR}
theorem rdy_ex {a6 : Int32} (h : inS a6 0 19999 = true) : ∃ rd : Int32, (rd = 0 ∨ rd = 1) ∧ (∀ f : Int32 → Option (Int32 × AH), (if a6 < 10000 then f 0 else f 1) = f rd) ∧ a6 / 10000 = rd ∧ isN rd 2 := by
  obtain ⟨k, hk, rfl⟩ := inS_n (M := 19999) (by omega) h
  have hd : nI k / 10000 = nI (k / 10000) := pk_div (d := 10000) (by omega) (by omega) (by omega)
  by_cases h1 : k < 10000
  · refine ⟨0, Or.inl rfl, fun f => ?_, ?_, ⟨0, by omega, rfl⟩⟩
    · rw [if_pos (by rw [lit_lt (by omega) (by decide)]; exact h1)]
    · rw [hd, show k / 10000 = 0 from by omega]; rfl
  · refine ⟨1, Or.inr rfl, fun f => ?_, ?_, ⟨1, by omega, rfl⟩⟩
    · rw [if_neg (by rw [lit_lt (by omega) (by decide)]; exact h1)]
    · rw [hd, show k / 10000 = 1 from by omega]; rfl
theorem rem_n {a6 : Int32} {M : Nat} (hM : M < 2 ^ 31) (h : inS a6 0 (nI M) = true) : isN (iRem a6 10000) 10000 := by
  obtain ⟨k, hk, rfl⟩ := inS_n hM h
  exact ⟨k % 10000, Nat.mod_lt _ (by omega), pk_rem (d := 10000) (by omega) (by decide) (by decide)⟩
/-- the values of a new sherd, in their order -/
def svS (a1 a2 a3 a4 a5 rd hd dy : Int32) (j : Nat) : Int32 := if j = 0 then a1 else if j = 1 then a2 else if j = 2 then a3 else if j = 3 then a4 else if j = 4 then a5 else if j = 5 then rd else if j = 6 then hd else if j = 7 then dy else -1
/-- the class adds the sherd that stands begun behind the last -/
theorem k_addSherd (hC : ShC S c) (hs : Sim μ c D) (hI : Inv D) (h5 : nD D 5 < 40) {μB : MU} (hB : ∀ a j, ¬ a = c + 78 + nD D 5 → μB a j = μ a j) (hn : nmB (μB (c + 78 + nD D 5) 0) = true) (h9 : μB (c + 78 + nD D 5) 9 = 0) (h10 : μB (c + 78 + nD D 5) 10 = 0) :
    ∃ μ' : MU, f_X2_addSherd (some c) (mkH n st S μB) = some (nI (nD D 5), mkH n st S μ') ∧ (∀ a j, ¬ a = c + 13 → ¬ a = c + 78 + nD D 5 → ¬ (a = c ∧ j = 12) → μ' a j = μ a j) ∧ μ' c 12 = nI (nD D 5 + 1) ∧ (∀ j, j < 9 → j ≠ 7 → μ' (c + 78 + nD D 5) j = μB (c + 78 + nD D 5) j) ∧ μ' (c + 78 + nD D 5) 7 = D 0 ∧ μ' (c + 78 + nD D 5) 9 = nI (biN (fun i => exM μB (c + 78 + nD D 5) (c + 22 + 2 * i)) (nD D 2)) ∧ μ' (c + 78 + nD D 5) 10 = nI (biN (fun i => neM μB (c + 78 + nD D 5) (c + 22 + 2 * i)) (nD D 2)) := by
  obtain ⟨e0, b0⟩ := hI.today
  obtain ⟨e1, b1⟩ := hI.wards
  obtain ⟨e2, b2⟩ := hI.men
  obtain ⟨e3, b3⟩ := hI.words
  obtain ⟨e4, b4⟩ := hI.bars
  obtain ⟨e5, b5⟩ := hI.shes
  obtain ⟨e6, b6⟩ := hI.wets
  obtain ⟨e8, b8⟩ := hI.heaped
  have z0 := hs.today
  have z1 := hs.wardN
  have z2 := hs.manN
  have z3 := hs.wordN
  have z4 := hs.barN
  have z5 := hs.sheN
  have z6 := hs.wetN
  have z8 := hs.heapN
  obtain ⟨μC, hc⟩ : ∃ q, q = up2 μB (c + 78 + nD D 5) 7 (D 0) := ⟨_, rfl⟩
  have e12 : μB c 12 = nI (nD D 5) := by rw [hB _ _ (by omega), z5, e5]
  have e00 : μB c 0 = D 0 := by rw [hB _ _ (by omega), z0]
  obtain ⟨μ', g1, gF, g9, g10⟩ := k_addSherdL (n := n) (st := st) (μ := μC) hC (s := nD D 5) (N := nD D 2) h5 b2 (by rw [hc, up2_ne (by omega), hB _ _ (by omega), z2, e2]) (by rw [hc, up2_ne (by omega)]; exact hn) (by
    intro i hi
    rw [hc, up2_ne (by omega), hB _ _ (by omega), hs.man i 2 hi (by omega)]
    exact hI.mName i hi) (nD D 2) 0 FU μC (by omega) (by have : FU = 4000 := rfl; omega) (fun _ _ _ _ => rfl) (by rw [hc, up2_ne (by omega), h9]; rfl) (by rw [hc, up2_ne (by omega), h10]; rfl)
  have q12 : μC c 12 = nI (nD D 5) := by rw [hc, up2_ne (by omega), e12]
  rw [q12, nI_1, nI_m1] at g1
  have gF' : ∀ a j, ¬ a = c + 13 → ¬ (a = c + 78 + nD D 5 ∧ (j = 9 ∨ j = 10)) → μ' a j = μC a j := gF
  have ex : ∀ i, exM μC (c + 78 + nD D 5) (c + 22 + 2 * i) = exM μB (c + 78 + nD D 5) (c + 22 + 2 * i) := by
    intro i
    rw [hc]
    simp (disch := omega) only [exM, hisM, up2_ne]
  have ne : ∀ i, neM μC (c + 78 + nD D 5) (c + 22 + 2 * i) = neM μB (c + 78 + nD D 5) (c + 22 + 2 * i) := by
    intro i
    rw [hc]
    simp (disch := omega) only [neM, hisM, up2_ne]
  refine ⟨up2 μ' c 12 (nI (nD D 5 + 1)), ?_, ?_, up2_same, ?_, ?_, ?_, ?_⟩
  · simp (disch := omega) only [f_X2_addSherd, cR11 hC, some_bind, cI12 hC, e12, cEsherds hC, cI0 hC, e00, oSheP hC]
    rw [← hc]
    exact g1
  · intro a j q1 q2 q3
    rw [up2_ne q3, gF' _ _ q1 (by omega), hc, up2_ne (by omega), hB _ _ q2]
  · intro j hj h7
    rw [up2_ne (by omega), gF' _ _ (by omega) (by omega), hc, up2_ne (by omega)]
  · rw [up2_ne (by omega), gF' _ _ (by omega) (by omega), hc, up2_same]
  · rw [up2_ne (by omega), g9]
    simp only [ex]
  · rw [up2_ne (by omega), g10]
    simp only [ne]
/-- a sherd more: the row is in order -/
theorem sherd_inv (hI : Inv D) (h5 : nD D 5 < 40) {D2 : DR} {a1 a2 a3 a4 a5 rd hd : Int32}
    (hDn : ∀ q, ¬ q = 5 → ¬ (651 ≤ q ∧ q < 1011 ∧ (q - 651) % 40 = nD D 5) → D2 q = D q) (hDv : ∀ j, j < 9 → D2 (651 + 40 * j + nD D 5) = svS a1 a2 a3 a4 a5 rd hd (D 0) j) (hD5 : D2 5 = nI (nD D 5 + 1))
    (k1 : nmB a1 = true) (k2 : a2 = 0 ∨ nmB a2 = true) (k3 : isO a3 8) (k4 : isO a4 5) (k5 : a5 = 0 ∨ nmB a5 = true) (k6 : isN rd 2) (k7 : isN hd 10000) : Inv D2 := by
  obtain ⟨e0, b0⟩ := hI.today
  obtain ⟨e1, b1⟩ := hI.wards
  obtain ⟨e2, b2⟩ := hI.men
  obtain ⟨e3, b3⟩ := hI.words
  obtain ⟨e4, b4⟩ := hI.bars
  obtain ⟨e5, b5⟩ := hI.shes
  obtain ⟨e6, b6⟩ := hI.wets
  obtain ⟨e8, b8⟩ := hI.heaped
  have n5 : nD D2 5 = nD D 5 + 1 := nD_of hD5 (by omega)
  have nq : ∀ q, q < 9 → q ≠ 5 → nD D2 q = nD D q := fun q q1 q2 => nD_eq (hDn q (by omega) (by omega))
  have dv := fun j hj => hDv j hj
  have v0 := hDv 0 (by omega)
  have v1 := hDv 1 (by omega)
  have v2 := hDv 2 (by omega)
  have v3 := hDv 3 (by omega)
  have v4 := hDv 4 (by omega)
  have v5 := hDv 5 (by omega)
  have v6 := hDv 6 (by omega)
  simp only [Nat.reduceMul, Nat.reduceAdd, Nat.add_zero] at v0 v1 v2 v3 v4 v5 v6
  refine ⟨IA.congr hI (fun q h => by exact hDn _ (by omega) (by omega)), Iw.congr hI (fun q h => by exact hDn _ (by omega) (by omega)), Im.congr hI (fun q h => by exact hDn _ (by omega) (by omega)), Iv.congr hI (fun q h => by exact hDn _ (by omega) (by omega)), Ib.congr hI (fun q h => by exact hDn _ (by omega) (by omega)), ?_, Ix.congr hI (fun q h => by exact hDn _ (by omega) (by omega)), ?_, Il.congr hI (fun q h => by exact hDn _ (by omega) (by omega)), Ir.congr hI (fun q h => by exact hDn _ (by omega) (by omega))⟩
  · refine ⟨isC_of hD5 (by omega) (by omega), ?_, ?_, ?_, ?_, ?_, ?_, ?_⟩
    all_goals rw [n5]; intro s h; by_cases h2 : s = nD D 5
    · subst h2; rw [v0]; exact k1
    · rw [hDn _ (by omega) (by omega)]; exact hI.sName s (by omega)
    · subst h2; rw [v1]; exact k2
    · rw [hDn _ (by omega) (by omega)]; exact hI.sFat s (by omega)
    · subst h2; rw [v2]; exact k3
    · rw [hDn _ (by omega) (by omega)]; exact hI.sWard s (by omega)
    · subst h2; rw [v3]; exact k4
    · rw [hDn _ (by omega) (by omega)]; exact hI.sGate s (by omega)
    · subst h2; rw [v4]; exact k5
    · rw [hDn _ (by omega) (by omega)]; exact hI.sSec s (by omega)
    · subst h2; rw [v5]; exact k6
    · rw [hDn _ (by omega) (by omega)]; exact hI.sRdy s (by omega)
    · subst h2; rw [v6]; exact k7
    · rw [hDn _ (by omega) (by omega)]; exact hI.sHand s (by omega)
  · refine ⟨isC_of (by rw [hDn _ (by omega) (by omega)]; exact e8) b8 (by omega), ?_⟩
    rw [nq 8 (by omega) (by omega), n5]
    intro k hk
    rw [hDn _ (by omega) (by omega)]
    obtain ⟨q, q1, q2⟩ := hI.hp k hk
    exact ⟨q, by omega, q2⟩
/-- a sherd more on both sides -/
theorem sherd_sim (hs : Sim μ c D) (hI : Inv D) (h5 : nD D 5 < 40) {μ2 : MU} {D2 : DR} {a1 a2 a3 a4 a5 rd hd : Int32}
    (hn : ∀ a j, ¬ a = c + 13 → ¬ a = c + 78 + nD D 5 → ¬ (a = c ∧ j = 12) → c ≤ a ∧ a < c + 148 → μ2 a j = μ a j) (h12 : μ2 c 12 = nI (nD D 5 + 1)) (hv : ∀ j, j < 9 → μ2 (c + 78 + nD D 5) j = svS a1 a2 a3 a4 a5 rd hd (D 0) j)
    (h9 : μ2 (c + 78 + nD D 5) 9 = nI (biN (fun i => exM μ2 (c + 78 + nD D 5) (c + 22 + 2 * i)) (nD D 2))) (h10 : μ2 (c + 78 + nD D 5) 10 = nI (biN (fun i => neM μ2 (c + 78 + nD D 5) (c + 22 + 2 * i)) (nD D 2)))
    (hDn : ∀ q, ¬ q = 5 → ¬ (651 ≤ q ∧ q < 1011 ∧ (q - 651) % 40 = nD D 5) → D2 q = D q) (hDv : ∀ j, j < 9 → D2 (651 + 40 * j + nD D 5) = svS a1 a2 a3 a4 a5 rd hd (D 0) j) (hD5 : D2 5 = nI (nD D 5 + 1))
    (k1 : nmB a1 = true) (k2 : a2 = 0 ∨ nmB a2 = true) (k3 : isO a3 8) (k4 : isO a4 5) (k5 : a5 = 0 ∨ nmB a5 = true) (k6 : isN rd 2) (k7 : isN hd 10000) : Sim μ2 c D2 ∧ Inv D2 := by
  obtain ⟨e0, b0⟩ := hI.today
  obtain ⟨e1, b1⟩ := hI.wards
  obtain ⟨e2, b2⟩ := hI.men
  obtain ⟨e3, b3⟩ := hI.words
  obtain ⟨e4, b4⟩ := hI.bars
  obtain ⟨e5, b5⟩ := hI.shes
  obtain ⟨e6, b6⟩ := hI.wets
  obtain ⟨e8, b8⟩ := hI.heaped
  have z0 := hs.today
  have z1 := hs.wardN
  have z2 := hs.manN
  have z3 := hs.wordN
  have z4 := hs.barN
  have z5 := hs.sheN
  have z6 := hs.wetN
  have z8 := hs.heapN
  have n5 : nD D2 5 = nD D 5 + 1 := nD_of hD5 (by omega)
  have nq : ∀ q, q < 9 → q ≠ 5 → nD D2 q = nD D q := fun q q1 q2 => nD_eq (hDn q (by omega) (by omega))
  have hG : Gs μ2 c D2 := by
    refine ⟨by rw [h12, hD5], ?_⟩
    rw [n5]
    intro s j h hj
    by_cases h2 : s = nD D 5
    · subst h2
      rw [hv j hj, hDv j hj]
    · rw [hn _ _ (by omega) (by omega) (by omega) (by omega), hDn _ (by omega) (by omega)]
      exact hs.she s j (by omega) hj
  have hm : Gm μ2 c D2 := Gm.congr hI hs (fun a j h => hn _ _ (by omega) (by omega) (by omega) (by omega)) (fun q h => hDn _ (by omega) (by omega))
  refine ⟨?_, ?_⟩
  · refine ⟨GA.congr hI hs (fun a j h => by exact hn _ _ (by omega) (by omega) (by omega) (by omega)) (fun q h => by exact hDn _ (by omega) (by omega)), Gx.congr hI hs (fun a j h => by exact hn _ _ (by omega) (by omega) (by omega) (by omega)) (fun q h => by exact hDn _ (by omega) (by omega)), Gw.congr hI hs (fun a j h => by exact hn _ _ (by omega) (by omega) (by omega) (by omega)) (fun q h => by exact hDn _ (by omega) (by omega)), Gm.congr hI hs (fun a j h => by exact hn _ _ (by omega) (by omega) (by omega) (by omega)) (fun q h => by exact hDn _ (by omega) (by omega)), Gv.congr hI hs (fun a j h => by exact hn _ _ (by omega) (by omega) (by omega) (by omega)) (fun q h => by exact hDn _ (by omega) (by omega)), Gb.congr hI hs (fun a j h => by exact hn _ _ (by omega) (by omega) (by omega) (by omega)) (fun q h => by exact hDn _ (by omega) (by omega)), ?_, ?_, Gr.congr hI hs (fun a j h => by exact hn _ _ (by omega) (by omega) (by omega) (by omega)) (fun q h => by exact hDn _ (by omega) (by omega)), Gh.congr hI hs (fun a j h => by exact hn _ _ (by omega) (by omega) (by omega) (by omega)) (fun q h => by exact hDn _ (by omega) (by omega)), Gl.congr hI hs (fun a j h => by exact hn _ _ (by omega) (by omega) (by omega) (by omega)) (fun q h => by exact hDn _ (by omega) (by omega))⟩
    · exact hG
    · have exD : ∀ s i, s < nD D 5 + 1 → i < nD D 2 → exM μ2 (c + 78 + s) (c + 22 + 2 * i) = exB D2 s i := by
        intro s i h hi
        have q0 := hG.2 s 0 (by omega) (by omega)
        have q1 := hG.2 s 1 (by omega) (by omega)
        have q2 := hG.2 s 2 (by omega) (by omega)
        have r0 := hm.2.1 i 0 (by rw [nq 2 (by omega) (by omega)]; exact hi) (by omega)
        have r2 := hm.2.1 i 2 (by rw [nq 2 (by omega) (by omega)]; exact hi) (by omega)
        have r3 := hm.2.1 i 3 (by rw [nq 2 (by omega) (by omega)]; exact hi) (by omega)
        simp only [Nat.reduceMul, Nat.reduceAdd] at q0 q1 q2 r0 r2 r3
        simp only [exM, hisM, exB, hisS, q0, q1, q2, r0, r2, r3]
      have neD : ∀ s i, s < nD D 5 + 1 → i < nD D 2 → neM μ2 (c + 78 + s) (c + 22 + 2 * i) = neB D2 s i := by
        intro s i h hi
        have q0 := hG.2 s 0 (by omega) (by omega)
        have q1 := hG.2 s 1 (by omega) (by omega)
        have q2 := hG.2 s 2 (by omega) (by omega)
        have r0 := hm.2.1 i 0 (by rw [nq 2 (by omega) (by omega)]; exact hi) (by omega)
        have r2 := hm.2.1 i 2 (by rw [nq 2 (by omega) (by omega)]; exact hi) (by omega)
        have r3 := hm.2.1 i 3 (by rw [nq 2 (by omega) (by omega)]; exact hi) (by omega)
        simp only [Nat.reduceMul, Nat.reduceAdd] at q0 q1 q2 r0 r2 r3
        simp only [neM, hisM, neB, apB, hisS, q0, q1, q2, r0, r2, r3]
      refine ⟨?_, ?_⟩
      · rw [n5]
        intro s h
        rw [exN, nq 2 (by omega) (by omega)]
        by_cases h2 : s = nD D 5
        · subst h2
          rw [h9, biN_congr _ fun i hi => exD _ i (by omega) hi]
        · rw [hn _ _ (by omega) (by omega) (by omega) (by omega), hs.exact s (by omega), exN]
          congr 1
          refine biN_congr _ fun i hi => ?_
          simp (disch := omega) only [exB, hisS, hDn]
      · rw [n5]
        intro s h
        rw [neN, nq 2 (by omega) (by omega)]
        by_cases h2 : s = nD D 5
        · subst h2
          rw [h10, biN_congr _ fun i hi => neD _ i (by omega) hi]
        · rw [hn _ _ (by omega) (by omega) (by omega) (by omega), hs.near s (by omega), neN]
          congr 1
          refine biN_congr _ fun i hi => ?_
          simp (disch := omega) only [neB, apB, hisS, hDn]
  · exact sherd_inv hI h5 hDn hDv hD5 k1 k2 k3 k4 k5 k6 k7
/-- the reference makes a sherd -/
theorem r_makes (hS : ShM S m) (hD : μ (m + 1) = D) (hI : Inv D) (h5 : nD D 5 < 40) (a1 a2 a3 a4 a5 a6 : Int32) : ∃ μ' : MU, f_X12_makes (some m) a1 a2 a3 a4 a5 a6 (mkH n st S μ) = some (mkH n st S μ') ∧ (∀ a j, ¬ a = m + 1 → μ' a j = μ a j) ∧ (∀ q, ¬ q = 5 → ¬ (651 ≤ q ∧ q < 1011 ∧ (q - 651) % 40 = nD D 5) → μ' (m + 1) q = D q) ∧ (∀ j, j < 9 → μ' (m + 1) (651 + 40 * j + nD D 5) = svS a1 a2 a3 a4 a5 (a6 / 10000) (iRem a6 10000) (D 0) j) ∧ μ' (m + 1) 5 = nI (nD D 5 + 1) := by
  obtain ⟨e5, b5⟩ := hI.shes
  refine ⟨(up2 (up2 (up2 (up2 (up2 (up2 (up2 (up2 (up2 (up2 μ (m + 1) (651 + nD D 5) (a1)) (m + 1) (691 + nD D 5) (a2)) (m + 1) (731 + nD D 5) (a3)) (m + 1) (771 + nD D 5) (a4)) (m + 1) (811 + nD D 5) (a5)) (m + 1) (851 + nD D 5) (a6 / 10000)) (m + 1) (891 + nD D 5) (iRem a6 10000)) (m + 1) (931 + nD D 5) (D 0)) (m + 1) (971 + nD D 5) (-1)) (m + 1) (5) (nI (nD D 5 + 1))), ?_, ?_, ?_, ?_, up2_same⟩
  · simp (disch := omega) only [f_X12_makes, mR0 hS, some_bind, lit_aI, mA0 hS, hD, e5, lit_add, mS0 hS, up2_ne, nI_1, lit_sI]
  · intro a j h
    simp (disch := omega) only [up2_ne]
  · intro q q1 q2
    simp (disch := omega) only [up2_ne, hD]
  · intro j hj
    rcases (by omega : j = 0 ∨ j = 1 ∨ j = 2 ∨ j = 3 ∨ j = 4 ∨ j = 5 ∨ j = 6 ∨ j = 7 ∨ j = 8) with rfl | rfl | rfl | rfl | rfl | rfl | rfl | rfl | rfl
    all_goals simp (disch := omega) only [Nat.reduceMul, Nat.reduceAdd, Nat.add_zero, up2_ne, up2_same]; rfl
/-- a sherd begun -/
theorem k_sheB (hC : ShC S c) {s : Nat} (hs : s < 40) (a1 a2 a3 a4 : Int32) : ∃ μ' : MU, f_X8_begin (some (c + 78 + s)) a1 a2 a3 a4 (mkH n st S μ) = some (mkH n st S μ') ∧ (∀ a j, ¬ a = c + 78 + s → μ' a j = μ a j) ∧ (∀ j, j < 9 → μ' (c + 78 + s) j = svS a1 a2 a3 a4 0 0 0 0 j) ∧ μ' (c + 78 + s) 9 = 0 ∧ μ' (c + 78 + s) 10 = 0 := by
  refine ⟨(up2 (up2 (up2 (up2 (up2 (up2 (up2 (up2 (up2 (up2 (up2 μ (c + 78 + s) (0) (a1)) (c + 78 + s) (1) (a2)) (c + 78 + s) (2) (a3)) (c + 78 + s) (3) (a4)) (c + 78 + s) (4) (0)) (c + 78 + s) (5) (0)) (c + 78 + s) (6) (0)) (c + 78 + s) (7) (0)) (c + 78 + s) (8) (-1)) (c + 78 + s) (9) (0)) (c + 78 + s) (10) (0)), ?_, ?_, ?_, ?_, up2_same⟩
  · simp (disch := omega) only [f_X8_begin, oSheP hC, oSheZ0 hC, some_bind]
  · intro a j h
    simp (disch := omega) only [up2_ne]
  · intro j hj
    rcases (by omega : j = 0 ∨ j = 1 ∨ j = 2 ∨ j = 3 ∨ j = 4 ∨ j = 5 ∨ j = 6 ∨ j = 7 ∨ j = 8) with rfl | rfl | rfl | rfl | rfl | rfl | rfl | rfl | rfl
    all_goals simp (disch := omega) only [up2_ne, up2_same]; rfl
  · simp (disch := omega) only [up2_ne, up2_same]
theorem op_sherd (hR : R n st S μ x b) (a1 a2 a3 a4 a5 a6 : Int32) : Res (f_X11_sherd (some x) a1 a2 a3 a4 a5 a6) (f_X12_sherd (some (x + 175)) a1 a2 a3 a4 a5 a6) n st S μ x b := by
  have hR' := hR
  obtain ⟨⟨hX, hS, hs, hI, hL0⟩, hRest⟩ := hR
  have hC := hX.city
  have hBase := hRest.2.2.2.1
  obtain ⟨D, hD⟩ : ∃ D, μ (x + 175 + 1) = D := ⟨_, rfl⟩
  replace hs : Sim μ (x + 1) (μ (x + 175 + 1)) := hs
  replace hI : Inv (μ (x + 175 + 1)) := hI
  rw [hD] at hs hI
  obtain ⟨e0, b0⟩ := hI.today
  obtain ⟨e1, b1⟩ := hI.wards
  obtain ⟨e2, b2⟩ := hI.men
  obtain ⟨e3, b3⟩ := hI.words
  obtain ⟨e4, b4⟩ := hI.bars
  obtain ⟨e5, b5⟩ := hI.shes
  obtain ⟨e6, b6⟩ := hI.wets
  obtain ⟨e8, b8⟩ := hI.heaped
  have z0 := hs.today
  have z1 := hs.wardN
  have z2 := hs.manN
  have z3 := hs.wordN
  have z4 := hs.barN
  have z5 := hs.sheN
  have z6 := hs.wetN
  have z8 := hs.heapN
  by_cases c1 : nmB a1 = true
  case neg => exact Res.same hR' (-1) (by simp (disch := omega) only [some_bind, ite_bI0, lit_add, lit_addr, lit_mul, lit_aI, lit_aZ, lit_aR, lit_sI, lit_sZ, nI_add, pk_mul, nn_lt, up2_same, up2_ne, ↓reduceIte, natT, natF, natE, natN, Nat.reduceAdd, Nat.reduceMul, Option.bind_some, if_true, if_false, Bool.false_eq_true, xR0 hX, xR2 hX, xR3 hX, xR4 hX, xR5 hX, xR7 hX, xR8 hX, xR10 hX, xR11 hX, xR12 hX, xR13 hX, xR14 hX, xR15 hX, xR16 hX, xI6 hX, xP6 hX, xI9 hX, xP9 hX, xck hX, xATap hX, xSTap hX, xAWai hX, xSWai hX, xALea hX, xSLea hX, xAMos hX, xSMos hX, xAGat hX, xSGat hX, xAThr hX, xSThr hX, xATra hX, xSTra hX, xACas hX, xSCas hX, xARMa hX, xSRMa hX, xARCl hX, xSRCl hX, xASWh hX, xSSWh hX, xASNu hX, xSSNu hX, xAPOf hX, xSPOf hX, xAPMe hX, xSPMe hX, xAAli hX, xSAli hX, rdR0 hX, rdI1 hX, rdP1 hX, rdR2 hX, rdI3 hX, rdP3 hX, rdI4 hX, rdP4 hX, rdI5 hX, rdP5 hX, rdI6 hX, rdP6 hX, rdI7 hX, rdP7 hX, rdZ7_0 hX, rdZ7_1 hX, rdI8 hX, rdP8 hX, rdI9 hX, rdP9 hX, rdI10 hX, rdP10 hX, rdR11 hX, rdI12 hX, rdP12 hX, rdck hX, poI0 hX, poP0 hX, poI1 hX, poP1 hX, poR2 hX, poR3 hX, poR4 hX, poR5 hX, pock hX, acI0 hX, acP0 hX, acI1 hX, acP1 hX, acI2 hX, acP2 hX, acR3 hX, acI4 hX, acP4 hX, acI5 hX, acP5 hX, acZ5_0 hX, acZ5_1 hX, acck hX, cI0 hX.city, cP0 hX.city, cR1 hX.city, cI2 hX.city, cP2 hX.city, cR3 hX.city, cI4 hX.city, cP4 hX.city, cR5 hX.city, cI6 hX.city, cP6 hX.city, cR7 hX.city, cI8 hX.city, cP8 hX.city, cR9 hX.city, cI10 hX.city, cP10 hX.city, cR11 hX.city, cI12 hX.city, cP12 hX.city, cR13 hX.city, cI14 hX.city, cP14 hX.city, cR15 hX.city, cR16 hX.city, cR17 hX.city, cI18 hX.city, cP18 hX.city, cR19 hX.city, cck hX.city, cAWet hX.city, cSWet hX.city, cARul hX.city, cSRul hX.city, cAHea hX.city, cSHea hX.city, cALin hX.city, cSLin hX.city, cATal hX.city, cSTal hX.city, cEwards hX.city, cEmen hX.city, cEwords hX.city, cEbargains hX.city, cEsherds hX.city, cElaws hX.city, cEtallies hX.city, oWardI hX.city, oWardP hX.city, oWardZ0 hX.city, oWardZ1 hX.city, oWardK hX.city, oBarI hX.city, oBarP hX.city, oBarZ0 hX.city, oBarZ1 hX.city, oBarK hX.city, oSheI hX.city, oSheP hX.city, oSheZ0 hX.city, oSheZ1 hX.city, oSheK hX.city, oManI hX.city, oManP hX.city, oManZ0 hX.city, oManZ1 hX.city, oManK hX.city, oManR hX.city, oManA hX.city, oManS hX.city, oWordI hX.city, oWordP hX.city, oWordZ0 hX.city, oWordZ1 hX.city, oWordK hX.city, oWordR hX.city, oWordA hX.city, oWordS hX.city, f_X11_sherd, k_within, k_isDay, k_isClub, k_isName, k_hasMan hC hs hI, k_hasWard hC hs hI, k_hasSherd hC hs hI, k_hasBargain hC hs hI, k_areTwoMen hC hs hI, k_isWet hC hs hI, z0, z1, z2, z3, z4, z5, z6, z8, e0, e1, e2, e3, e4, e5, e6, e8, lit_lt, lit_eq, if_true, if_false, ite_self, Bool.true_and, Bool.and_true, decide_true, decide_false, Bool.false_eq_true, Bool.false_and, Bool.and_false,  c1]) (by simp (disch := omega) only [some_bind, ite_bI0, lit_add, lit_addr, lit_mul, lit_aI, lit_aZ, lit_aR, lit_sI, lit_sZ, nI_add, pk_mul, nn_lt, up2_same, up2_ne, ↓reduceIte, natT, natF, natE, natN, Nat.reduceAdd, Nat.reduceMul, Option.bind_some, if_true, if_false, Bool.false_eq_true, mR0 hS, mA0 hS, mS0 hS, mR1 hS, mA1 hS, mS1 hS, mI2 hS, mP2 hS, mZ2_0 hS, mZ2_1 hS, mR3 hS, mA3 hS, mS3 hS, mI4 hS, mP4 hS, mR5 hS, mA5 hS, mS5 hS, mR6 hS, mA6 hS, mS6 hS, mR7 hS, mA7 hS, mS7 hS, mR8 hS, mA8 hS, mS8 hS, mR9 hS, mA9 hS, mS9 hS, mR10 hS, mA10 hS, mS10 hS, mI11 hS, mP11 hS, mI12 hS, mP12 hS, mI13 hS, mP13 hS, mI14 hS, mP14 hS, mI15 hS, mP15 hS, mI16 hS, mP16 hS, mI17 hS, mP17 hS, mI18 hS, mP18 hS, mR19 hS, mA19 hS, mS19 hS, mR20 hS, mA20 hS, mS20 hS, mR21 hS, mA21 hS, mS21 hS, mI22 hS, mP22 hS, mI23 hS, mP23 hS, mI24 hS, mP24 hS, mI25 hS, mP25 hS, mI26 hS, mP26 hS, mR27 hS, mA27 hS, mS27 hS, mR28 hS, mA28 hS, mS28 hS, mI29 hS, mP29 hS, mR30 hS, mA30 hS, mS30 hS, mR31 hS, mA31 hS, mS31 hS, mR32 hS, mA32 hS, mS32 hS, mR33 hS, mA33 hS, mS33 hS, mR34 hS, mA34 hS, mS34 hS, mR35 hS, mA35 hS, mS35 hS, mR36 hS, mA36 hS, mS36 hS, mR37 hS, mA37 hS, mS37 hS, mI38 hS, mP38 hS, mI39 hS, mP39 hS, mI40 hS, mP40 hS, mI41 hS, mP41 hS, mI42 hS, mP42 hS, mZ42_0 hS, mZ42_1 hS, rck hS, f_X12_sherd, s_in, s_isDay, s_isClub, r_isName, e0, e1, e2, e3, e4, e5, e6, e8, lit_lt, lit_eq, if_true, if_false, ite_self, hD, hD, r_isMan hS hD hI, r_isWard hS hD hI, r_isSherd hS hD hI, r_isWet hS hD hI, Bool.false_eq_true,  c1])
  by_cases c2 : (decide (a2 = 0) || nmB a2) = true
  case neg => exact Res.same hR' (-1) (by simp (disch := omega) only [some_bind, ite_bI0, lit_add, lit_addr, lit_mul, lit_aI, lit_aZ, lit_aR, lit_sI, lit_sZ, nI_add, pk_mul, nn_lt, up2_same, up2_ne, ↓reduceIte, natT, natF, natE, natN, Nat.reduceAdd, Nat.reduceMul, Option.bind_some, if_true, if_false, Bool.false_eq_true, xR0 hX, xR2 hX, xR3 hX, xR4 hX, xR5 hX, xR7 hX, xR8 hX, xR10 hX, xR11 hX, xR12 hX, xR13 hX, xR14 hX, xR15 hX, xR16 hX, xI6 hX, xP6 hX, xI9 hX, xP9 hX, xck hX, xATap hX, xSTap hX, xAWai hX, xSWai hX, xALea hX, xSLea hX, xAMos hX, xSMos hX, xAGat hX, xSGat hX, xAThr hX, xSThr hX, xATra hX, xSTra hX, xACas hX, xSCas hX, xARMa hX, xSRMa hX, xARCl hX, xSRCl hX, xASWh hX, xSSWh hX, xASNu hX, xSSNu hX, xAPOf hX, xSPOf hX, xAPMe hX, xSPMe hX, xAAli hX, xSAli hX, rdR0 hX, rdI1 hX, rdP1 hX, rdR2 hX, rdI3 hX, rdP3 hX, rdI4 hX, rdP4 hX, rdI5 hX, rdP5 hX, rdI6 hX, rdP6 hX, rdI7 hX, rdP7 hX, rdZ7_0 hX, rdZ7_1 hX, rdI8 hX, rdP8 hX, rdI9 hX, rdP9 hX, rdI10 hX, rdP10 hX, rdR11 hX, rdI12 hX, rdP12 hX, rdck hX, poI0 hX, poP0 hX, poI1 hX, poP1 hX, poR2 hX, poR3 hX, poR4 hX, poR5 hX, pock hX, acI0 hX, acP0 hX, acI1 hX, acP1 hX, acI2 hX, acP2 hX, acR3 hX, acI4 hX, acP4 hX, acI5 hX, acP5 hX, acZ5_0 hX, acZ5_1 hX, acck hX, cI0 hX.city, cP0 hX.city, cR1 hX.city, cI2 hX.city, cP2 hX.city, cR3 hX.city, cI4 hX.city, cP4 hX.city, cR5 hX.city, cI6 hX.city, cP6 hX.city, cR7 hX.city, cI8 hX.city, cP8 hX.city, cR9 hX.city, cI10 hX.city, cP10 hX.city, cR11 hX.city, cI12 hX.city, cP12 hX.city, cR13 hX.city, cI14 hX.city, cP14 hX.city, cR15 hX.city, cR16 hX.city, cR17 hX.city, cI18 hX.city, cP18 hX.city, cR19 hX.city, cck hX.city, cAWet hX.city, cSWet hX.city, cARul hX.city, cSRul hX.city, cAHea hX.city, cSHea hX.city, cALin hX.city, cSLin hX.city, cATal hX.city, cSTal hX.city, cEwards hX.city, cEmen hX.city, cEwords hX.city, cEbargains hX.city, cEsherds hX.city, cElaws hX.city, cEtallies hX.city, oWardI hX.city, oWardP hX.city, oWardZ0 hX.city, oWardZ1 hX.city, oWardK hX.city, oBarI hX.city, oBarP hX.city, oBarZ0 hX.city, oBarZ1 hX.city, oBarK hX.city, oSheI hX.city, oSheP hX.city, oSheZ0 hX.city, oSheZ1 hX.city, oSheK hX.city, oManI hX.city, oManP hX.city, oManZ0 hX.city, oManZ1 hX.city, oManK hX.city, oManR hX.city, oManA hX.city, oManS hX.city, oWordI hX.city, oWordP hX.city, oWordZ0 hX.city, oWordZ1 hX.city, oWordK hX.city, oWordR hX.city, oWordA hX.city, oWordS hX.city, f_X11_sherd, k_within, k_isDay, k_isClub, k_isName, k_hasMan hC hs hI, k_hasWard hC hs hI, k_hasSherd hC hs hI, k_hasBargain hC hs hI, k_areTwoMen hC hs hI, k_isWet hC hs hI, z0, z1, z2, z3, z4, z5, z6, z8, e0, e1, e2, e3, e4, e5, e6, e8, lit_lt, lit_eq, if_true, if_false, ite_self, Bool.true_and, Bool.and_true, decide_true, decide_false, Bool.false_eq_true, Bool.false_and, Bool.and_false,  c1, or_gate, c2]) (by simp (disch := omega) only [some_bind, ite_bI0, lit_add, lit_addr, lit_mul, lit_aI, lit_aZ, lit_aR, lit_sI, lit_sZ, nI_add, pk_mul, nn_lt, up2_same, up2_ne, ↓reduceIte, natT, natF, natE, natN, Nat.reduceAdd, Nat.reduceMul, Option.bind_some, if_true, if_false, Bool.false_eq_true, mR0 hS, mA0 hS, mS0 hS, mR1 hS, mA1 hS, mS1 hS, mI2 hS, mP2 hS, mZ2_0 hS, mZ2_1 hS, mR3 hS, mA3 hS, mS3 hS, mI4 hS, mP4 hS, mR5 hS, mA5 hS, mS5 hS, mR6 hS, mA6 hS, mS6 hS, mR7 hS, mA7 hS, mS7 hS, mR8 hS, mA8 hS, mS8 hS, mR9 hS, mA9 hS, mS9 hS, mR10 hS, mA10 hS, mS10 hS, mI11 hS, mP11 hS, mI12 hS, mP12 hS, mI13 hS, mP13 hS, mI14 hS, mP14 hS, mI15 hS, mP15 hS, mI16 hS, mP16 hS, mI17 hS, mP17 hS, mI18 hS, mP18 hS, mR19 hS, mA19 hS, mS19 hS, mR20 hS, mA20 hS, mS20 hS, mR21 hS, mA21 hS, mS21 hS, mI22 hS, mP22 hS, mI23 hS, mP23 hS, mI24 hS, mP24 hS, mI25 hS, mP25 hS, mI26 hS, mP26 hS, mR27 hS, mA27 hS, mS27 hS, mR28 hS, mA28 hS, mS28 hS, mI29 hS, mP29 hS, mR30 hS, mA30 hS, mS30 hS, mR31 hS, mA31 hS, mS31 hS, mR32 hS, mA32 hS, mS32 hS, mR33 hS, mA33 hS, mS33 hS, mR34 hS, mA34 hS, mS34 hS, mR35 hS, mA35 hS, mS35 hS, mR36 hS, mA36 hS, mS36 hS, mR37 hS, mA37 hS, mS37 hS, mI38 hS, mP38 hS, mI39 hS, mP39 hS, mI40 hS, mP40 hS, mI41 hS, mP41 hS, mI42 hS, mP42 hS, mZ42_0 hS, mZ42_1 hS, rck hS, f_X12_sherd, s_in, s_isDay, s_isClub, r_isName, e0, e1, e2, e3, e4, e5, e6, e8, lit_lt, lit_eq, if_true, if_false, ite_self, hD, hD, r_isMan hS hD hI, r_isWard hS hD hI, r_isSherd hS hD hI, r_isWet hS hD hI, Bool.false_eq_true,  c1, or_gate, c2])
  by_cases c5 : (decide (a5 = 0) || nmB a5) = true
  case neg => exact Res.same hR' (-1) (by simp (disch := omega) only [some_bind, ite_bI0, lit_add, lit_addr, lit_mul, lit_aI, lit_aZ, lit_aR, lit_sI, lit_sZ, nI_add, pk_mul, nn_lt, up2_same, up2_ne, ↓reduceIte, natT, natF, natE, natN, Nat.reduceAdd, Nat.reduceMul, Option.bind_some, if_true, if_false, Bool.false_eq_true, xR0 hX, xR2 hX, xR3 hX, xR4 hX, xR5 hX, xR7 hX, xR8 hX, xR10 hX, xR11 hX, xR12 hX, xR13 hX, xR14 hX, xR15 hX, xR16 hX, xI6 hX, xP6 hX, xI9 hX, xP9 hX, xck hX, xATap hX, xSTap hX, xAWai hX, xSWai hX, xALea hX, xSLea hX, xAMos hX, xSMos hX, xAGat hX, xSGat hX, xAThr hX, xSThr hX, xATra hX, xSTra hX, xACas hX, xSCas hX, xARMa hX, xSRMa hX, xARCl hX, xSRCl hX, xASWh hX, xSSWh hX, xASNu hX, xSSNu hX, xAPOf hX, xSPOf hX, xAPMe hX, xSPMe hX, xAAli hX, xSAli hX, rdR0 hX, rdI1 hX, rdP1 hX, rdR2 hX, rdI3 hX, rdP3 hX, rdI4 hX, rdP4 hX, rdI5 hX, rdP5 hX, rdI6 hX, rdP6 hX, rdI7 hX, rdP7 hX, rdZ7_0 hX, rdZ7_1 hX, rdI8 hX, rdP8 hX, rdI9 hX, rdP9 hX, rdI10 hX, rdP10 hX, rdR11 hX, rdI12 hX, rdP12 hX, rdck hX, poI0 hX, poP0 hX, poI1 hX, poP1 hX, poR2 hX, poR3 hX, poR4 hX, poR5 hX, pock hX, acI0 hX, acP0 hX, acI1 hX, acP1 hX, acI2 hX, acP2 hX, acR3 hX, acI4 hX, acP4 hX, acI5 hX, acP5 hX, acZ5_0 hX, acZ5_1 hX, acck hX, cI0 hX.city, cP0 hX.city, cR1 hX.city, cI2 hX.city, cP2 hX.city, cR3 hX.city, cI4 hX.city, cP4 hX.city, cR5 hX.city, cI6 hX.city, cP6 hX.city, cR7 hX.city, cI8 hX.city, cP8 hX.city, cR9 hX.city, cI10 hX.city, cP10 hX.city, cR11 hX.city, cI12 hX.city, cP12 hX.city, cR13 hX.city, cI14 hX.city, cP14 hX.city, cR15 hX.city, cR16 hX.city, cR17 hX.city, cI18 hX.city, cP18 hX.city, cR19 hX.city, cck hX.city, cAWet hX.city, cSWet hX.city, cARul hX.city, cSRul hX.city, cAHea hX.city, cSHea hX.city, cALin hX.city, cSLin hX.city, cATal hX.city, cSTal hX.city, cEwards hX.city, cEmen hX.city, cEwords hX.city, cEbargains hX.city, cEsherds hX.city, cElaws hX.city, cEtallies hX.city, oWardI hX.city, oWardP hX.city, oWardZ0 hX.city, oWardZ1 hX.city, oWardK hX.city, oBarI hX.city, oBarP hX.city, oBarZ0 hX.city, oBarZ1 hX.city, oBarK hX.city, oSheI hX.city, oSheP hX.city, oSheZ0 hX.city, oSheZ1 hX.city, oSheK hX.city, oManI hX.city, oManP hX.city, oManZ0 hX.city, oManZ1 hX.city, oManK hX.city, oManR hX.city, oManA hX.city, oManS hX.city, oWordI hX.city, oWordP hX.city, oWordZ0 hX.city, oWordZ1 hX.city, oWordK hX.city, oWordR hX.city, oWordA hX.city, oWordS hX.city, f_X11_sherd, k_within, k_isDay, k_isClub, k_isName, k_hasMan hC hs hI, k_hasWard hC hs hI, k_hasSherd hC hs hI, k_hasBargain hC hs hI, k_areTwoMen hC hs hI, k_isWet hC hs hI, z0, z1, z2, z3, z4, z5, z6, z8, e0, e1, e2, e3, e4, e5, e6, e8, lit_lt, lit_eq, if_true, if_false, ite_self, Bool.true_and, Bool.and_true, decide_true, decide_false, Bool.false_eq_true, Bool.false_and, Bool.and_false,  b_X11_sherd_18, c1, or_gate, c2, c5]) (by simp (disch := omega) only [some_bind, ite_bI0, lit_add, lit_addr, lit_mul, lit_aI, lit_aZ, lit_aR, lit_sI, lit_sZ, nI_add, pk_mul, nn_lt, up2_same, up2_ne, ↓reduceIte, natT, natF, natE, natN, Nat.reduceAdd, Nat.reduceMul, Option.bind_some, if_true, if_false, Bool.false_eq_true, mR0 hS, mA0 hS, mS0 hS, mR1 hS, mA1 hS, mS1 hS, mI2 hS, mP2 hS, mZ2_0 hS, mZ2_1 hS, mR3 hS, mA3 hS, mS3 hS, mI4 hS, mP4 hS, mR5 hS, mA5 hS, mS5 hS, mR6 hS, mA6 hS, mS6 hS, mR7 hS, mA7 hS, mS7 hS, mR8 hS, mA8 hS, mS8 hS, mR9 hS, mA9 hS, mS9 hS, mR10 hS, mA10 hS, mS10 hS, mI11 hS, mP11 hS, mI12 hS, mP12 hS, mI13 hS, mP13 hS, mI14 hS, mP14 hS, mI15 hS, mP15 hS, mI16 hS, mP16 hS, mI17 hS, mP17 hS, mI18 hS, mP18 hS, mR19 hS, mA19 hS, mS19 hS, mR20 hS, mA20 hS, mS20 hS, mR21 hS, mA21 hS, mS21 hS, mI22 hS, mP22 hS, mI23 hS, mP23 hS, mI24 hS, mP24 hS, mI25 hS, mP25 hS, mI26 hS, mP26 hS, mR27 hS, mA27 hS, mS27 hS, mR28 hS, mA28 hS, mS28 hS, mI29 hS, mP29 hS, mR30 hS, mA30 hS, mS30 hS, mR31 hS, mA31 hS, mS31 hS, mR32 hS, mA32 hS, mS32 hS, mR33 hS, mA33 hS, mS33 hS, mR34 hS, mA34 hS, mS34 hS, mR35 hS, mA35 hS, mS35 hS, mR36 hS, mA36 hS, mS36 hS, mR37 hS, mA37 hS, mS37 hS, mI38 hS, mP38 hS, mI39 hS, mP39 hS, mI40 hS, mP40 hS, mI41 hS, mP41 hS, mI42 hS, mP42 hS, mZ42_0 hS, mZ42_1 hS, rck hS, f_X12_sherd, s_in, s_isDay, s_isClub, r_isName, e0, e1, e2, e3, e4, e5, e6, e8, lit_lt, lit_eq, if_true, if_false, ite_self, hD, hD, r_isMan hS hD hI, r_isWard hS hD hI, r_isSherd hS hD hI, r_isWet hS hD hI, Bool.false_eq_true,  b_X12_sherd_18, b_X12_sherd_31, c1, or_gate, c2, c5])
  by_cases c3 : (decide (a3 = -1) || ixB a3 (nD D 1)) = true
  case neg => exact Res.same hR' (-1) (by simp (disch := omega) only [some_bind, ite_bI0, lit_add, lit_addr, lit_mul, lit_aI, lit_aZ, lit_aR, lit_sI, lit_sZ, nI_add, pk_mul, nn_lt, up2_same, up2_ne, ↓reduceIte, natT, natF, natE, natN, Nat.reduceAdd, Nat.reduceMul, Option.bind_some, if_true, if_false, Bool.false_eq_true, xR0 hX, xR2 hX, xR3 hX, xR4 hX, xR5 hX, xR7 hX, xR8 hX, xR10 hX, xR11 hX, xR12 hX, xR13 hX, xR14 hX, xR15 hX, xR16 hX, xI6 hX, xP6 hX, xI9 hX, xP9 hX, xck hX, xATap hX, xSTap hX, xAWai hX, xSWai hX, xALea hX, xSLea hX, xAMos hX, xSMos hX, xAGat hX, xSGat hX, xAThr hX, xSThr hX, xATra hX, xSTra hX, xACas hX, xSCas hX, xARMa hX, xSRMa hX, xARCl hX, xSRCl hX, xASWh hX, xSSWh hX, xASNu hX, xSSNu hX, xAPOf hX, xSPOf hX, xAPMe hX, xSPMe hX, xAAli hX, xSAli hX, rdR0 hX, rdI1 hX, rdP1 hX, rdR2 hX, rdI3 hX, rdP3 hX, rdI4 hX, rdP4 hX, rdI5 hX, rdP5 hX, rdI6 hX, rdP6 hX, rdI7 hX, rdP7 hX, rdZ7_0 hX, rdZ7_1 hX, rdI8 hX, rdP8 hX, rdI9 hX, rdP9 hX, rdI10 hX, rdP10 hX, rdR11 hX, rdI12 hX, rdP12 hX, rdck hX, poI0 hX, poP0 hX, poI1 hX, poP1 hX, poR2 hX, poR3 hX, poR4 hX, poR5 hX, pock hX, acI0 hX, acP0 hX, acI1 hX, acP1 hX, acI2 hX, acP2 hX, acR3 hX, acI4 hX, acP4 hX, acI5 hX, acP5 hX, acZ5_0 hX, acZ5_1 hX, acck hX, cI0 hX.city, cP0 hX.city, cR1 hX.city, cI2 hX.city, cP2 hX.city, cR3 hX.city, cI4 hX.city, cP4 hX.city, cR5 hX.city, cI6 hX.city, cP6 hX.city, cR7 hX.city, cI8 hX.city, cP8 hX.city, cR9 hX.city, cI10 hX.city, cP10 hX.city, cR11 hX.city, cI12 hX.city, cP12 hX.city, cR13 hX.city, cI14 hX.city, cP14 hX.city, cR15 hX.city, cR16 hX.city, cR17 hX.city, cI18 hX.city, cP18 hX.city, cR19 hX.city, cck hX.city, cAWet hX.city, cSWet hX.city, cARul hX.city, cSRul hX.city, cAHea hX.city, cSHea hX.city, cALin hX.city, cSLin hX.city, cATal hX.city, cSTal hX.city, cEwards hX.city, cEmen hX.city, cEwords hX.city, cEbargains hX.city, cEsherds hX.city, cElaws hX.city, cEtallies hX.city, oWardI hX.city, oWardP hX.city, oWardZ0 hX.city, oWardZ1 hX.city, oWardK hX.city, oBarI hX.city, oBarP hX.city, oBarZ0 hX.city, oBarZ1 hX.city, oBarK hX.city, oSheI hX.city, oSheP hX.city, oSheZ0 hX.city, oSheZ1 hX.city, oSheK hX.city, oManI hX.city, oManP hX.city, oManZ0 hX.city, oManZ1 hX.city, oManK hX.city, oManR hX.city, oManA hX.city, oManS hX.city, oWordI hX.city, oWordP hX.city, oWordZ0 hX.city, oWordZ1 hX.city, oWordK hX.city, oWordR hX.city, oWordA hX.city, oWordS hX.city, f_X11_sherd, k_within, k_isDay, k_isClub, k_isName, k_hasMan hC hs hI, k_hasWard hC hs hI, k_hasSherd hC hs hI, k_hasBargain hC hs hI, k_areTwoMen hC hs hI, k_isWet hC hs hI, z0, z1, z2, z3, z4, z5, z6, z8, e0, e1, e2, e3, e4, e5, e6, e8, lit_lt, lit_eq, if_true, if_false, ite_self, Bool.true_and, Bool.and_true, decide_true, decide_false, Bool.false_eq_true, Bool.false_and, Bool.and_false,  b_X11_sherd_18, b_X11_sherd_33, c1, or_gate, c2, c5, c3]) (by simp (disch := omega) only [some_bind, ite_bI0, lit_add, lit_addr, lit_mul, lit_aI, lit_aZ, lit_aR, lit_sI, lit_sZ, nI_add, pk_mul, nn_lt, up2_same, up2_ne, ↓reduceIte, natT, natF, natE, natN, Nat.reduceAdd, Nat.reduceMul, Option.bind_some, if_true, if_false, Bool.false_eq_true, mR0 hS, mA0 hS, mS0 hS, mR1 hS, mA1 hS, mS1 hS, mI2 hS, mP2 hS, mZ2_0 hS, mZ2_1 hS, mR3 hS, mA3 hS, mS3 hS, mI4 hS, mP4 hS, mR5 hS, mA5 hS, mS5 hS, mR6 hS, mA6 hS, mS6 hS, mR7 hS, mA7 hS, mS7 hS, mR8 hS, mA8 hS, mS8 hS, mR9 hS, mA9 hS, mS9 hS, mR10 hS, mA10 hS, mS10 hS, mI11 hS, mP11 hS, mI12 hS, mP12 hS, mI13 hS, mP13 hS, mI14 hS, mP14 hS, mI15 hS, mP15 hS, mI16 hS, mP16 hS, mI17 hS, mP17 hS, mI18 hS, mP18 hS, mR19 hS, mA19 hS, mS19 hS, mR20 hS, mA20 hS, mS20 hS, mR21 hS, mA21 hS, mS21 hS, mI22 hS, mP22 hS, mI23 hS, mP23 hS, mI24 hS, mP24 hS, mI25 hS, mP25 hS, mI26 hS, mP26 hS, mR27 hS, mA27 hS, mS27 hS, mR28 hS, mA28 hS, mS28 hS, mI29 hS, mP29 hS, mR30 hS, mA30 hS, mS30 hS, mR31 hS, mA31 hS, mS31 hS, mR32 hS, mA32 hS, mS32 hS, mR33 hS, mA33 hS, mS33 hS, mR34 hS, mA34 hS, mS34 hS, mR35 hS, mA35 hS, mS35 hS, mR36 hS, mA36 hS, mS36 hS, mR37 hS, mA37 hS, mS37 hS, mI38 hS, mP38 hS, mI39 hS, mP39 hS, mI40 hS, mP40 hS, mI41 hS, mP41 hS, mI42 hS, mP42 hS, mZ42_0 hS, mZ42_1 hS, rck hS, f_X12_sherd, s_in, s_isDay, s_isClub, r_isName, e0, e1, e2, e3, e4, e5, e6, e8, lit_lt, lit_eq, if_true, if_false, ite_self, hD, hD, r_isMan hS hD hI, r_isWard hS hD hI, r_isSherd hS hD hI, r_isWet hS hD hI, Bool.false_eq_true,  b_X12_sherd_18, b_X12_sherd_31, c1, or_gate, c2, c5, c3])
  have hxA : f_X11_sherd (some x) a1 a2 a3 a4 a5 a6 (mkH n st S μ) = b_X11_sherd_49 (some x) a1 a2 a3 a4 a5 a6 (mkH n st S μ) := by
    simp (disch := omega) only [f_X11_sherd, b_X11_sherd_18, b_X11_sherd_33, k_isName, some_bind, ite_bI0, c1, if_true, or_gate, c2, c5, xR0 hX, cck hC, k_hasWard hC hs hI, c3]
  have hmA : ∀ μ1 : MU, μ1 (x + 175 + 1) = D → f_X12_sherd (some (x + 175)) a1 a2 a3 a4 a5 a6 (mkH n st S μ1) = b_X12_sherd_31 (some (x + 175)) a1 a2 a3 a4 a5 a6 (mkH n st S μ1) := by
    intro μ1 hD1
    simp (disch := omega) only [f_X12_sherd, b_X12_sherd_18, r_isName, some_bind, ite_bI0, c1, if_true, or_gate, c2, rck hS, r_isWard hS hD1 hI, c3]
  by_cases c4 : inS a4 (-1) 4 = true
  case neg => exact Res.same hR' (-1) (by rw [hxA]; simp only [b_X11_sherd_49, k_within, some_bind, ite_bI0, c4, if_false, Bool.false_eq_true]) (by rw [hmA μ hD]; simp only [b_X12_sherd_31, s_in, some_bind, ite_bI0, c4, if_false, Bool.false_eq_true])
  have hmB : ∀ μ1 : MU, μ1 (x + 175 + 1) = D → f_X12_sherd (some (x + 175)) a1 a2 a3 a4 a5 a6 (mkH n st S μ1) = b_X12_sherd_54 (some (x + 175)) a1 a2 a3 a4 a5 a6 (mkH n st S μ1) := by
    intro μ1 hD1
    rw [hmA μ1 hD1]
    simp only [b_X12_sherd_31, s_in, some_bind, ite_bI0, c4, if_true, r_isName, or_gate, c5]
  by_cases c6 : inS a6 0 19999 = true
  case neg => exact Res.same hR' (-1) (by rw [hxA]; simp only [b_X11_sherd_49, k_within, some_bind, ite_bI0, c4, c6, if_true, if_false, Bool.false_eq_true]) (by rw [hmB μ hD]; simp only [b_X12_sherd_54, s_in, some_bind, ite_bI0, c6, if_false, Bool.false_eq_true])
  by_cases h5 : nD D 5 < 40
  case neg => exact Res.same hR' (-2) (by rw [hxA]; simp (disch := omega) only [b_X11_sherd_49, k_within, some_bind, ite_bI0, c4, c6, if_true, xR0 hX, cI12 hC, z5, e5, lit_lt, natF, if_false]) (by rw [hmB μ hD]; simp (disch := omega) only [b_X12_sherd_54, s_in, some_bind, ite_bI0, c6, if_true, mR0 hS, lit_aI, mA0 hS, hD, e5, lit_eq, natE])
  obtain ⟨rd, hrd, hx, hm, krd⟩ := rdy_ex c6
  obtain ⟨μA, a1', aN, aV, a9, a10⟩ := k_sheB (n := n) (st := st) (μ := μ) hC h5 a1 a2 a3 a4
  obtain ⟨μB, hB⟩ : ∃ q, q = up2 (up2 (up2 μA (x + 1 + 78 + nD D 5) 4 a5) (x + 1 + 78 + nD D 5) 5 rd) (x + 1 + 78 + nD D 5) 6 (iRem a6 10000) := ⟨_, rfl⟩
  have aN' : ∀ a j, ¬ a = x + 1 + 78 + nD D 5 → μB a j = μ a j := fun a j h => by rw [hB, up2_ne (by omega), up2_ne (by omega), up2_ne (by omega), aN a j h]
  obtain ⟨μ1, g1, gn, g12, gv, g7, g9, g10⟩ := k_addSherd (n := n) (st := st) hC hs hI h5 aN' (by rw [hB, up2_ne (by omega), up2_ne (by omega), up2_ne (by omega), aV 0 (by omega)]; exact c1) (by rw [hB, up2_ne (by omega), up2_ne (by omega), up2_ne (by omega), a9]) (by rw [hB, up2_ne (by omega), up2_ne (by omega), up2_ne (by omega), a10])
  have fx : f_X11_sherd (some x) a1 a2 a3 a4 a5 a6 (mkH n st S μ) = some (nI (nD D 5), mkH n st S μ1) := by
    have aN2 : μA (x + 1) 12 = nI (nD D 5) := by rw [aN _ _ (by omega), z5, e5]
    rw [hxA]
    simp (disch := omega) only [b_X11_sherd_49, k_within, some_bind, ite_bI0, c4, c6, if_true, xR0 hX, cI12 hC, z5, e5, lit_lt, natT, cR11 hC, cEsherds hC, oSheK hC, a1', oSheP hC]
    refine Eq.trans (hx fun r => b_X11_sherd_139 (some x) a6 (some (x + 1 + 78 + nD D 5)) (some (x + 1 + 78 + nD D 5)) r (mkH n st S (up2 μA (x + 1 + 78 + nD D 5) 4 a5))) ?_
    simp (disch := omega) only [b_X11_sherd_139, oSheZ hC h5 (j := 5) (by omega) hrd, some_bind, oSheP hC, xR0 hX, cck hC]
    rw [← hB, g1]
    rfl
  have hD1 : μ1 (x + 175 + 1) = D := by funext q; rw [gn _ _ (by omega) (by omega) (by omega), hD]
  obtain ⟨μ2, f1, f2, f3, f4, f5⟩ := r_makes (n := n) (st := st) hS hD1 hI h5 a1 a2 a3 a4 a5 a6
  have fm : f_X12_sherd (some (x + 175)) a1 a2 a3 a4 a5 a6 (mkH n st S μ1) = some (nI (nD D 5), mkH n st S μ2) := by
    rw [hmB μ1 hD1]
    simp (disch := omega) only [b_X12_sherd_54, some_bind, ite_bI0, if_true, rck hS, s_in, c6, mR0 hS, lit_aI, mA0 hS, hD1, e5, lit_eq, natN, if_false, f1, f5, nI_m1]
  refine Res.core hRest _ fx fm ?_ (fun a j h => by unfold oth at h; rw [f2 _ _ (by omega), gn _ _ (by omega) (by omega) (by omega)])
  suffices hfin : Sim μ2 (x + 1) (μ2 (x + 175 + 1)) ∧ Inv (μ2 (x + 175 + 1)) by
    exact Core.mk' (μ := μ) hX hS hL0 (fun a j h => by rw [f2 _ _ (by omega), gn _ _ (by omega) (by omega) (by omega)]) hfin.1 hfin.2
  refine sherd_sim (a1 := a1) (a2 := a2) (a3 := a3) (a4 := a4) (a5 := a5) (rd := rd) (hd := iRem a6 10000) hs hI h5 ?_ ?_ ?_ ?_ ?_ f3 (by rw [← hm]; exact f4) f5 c1 ?_ ?_ (inS_o (M := 4) (by omega) c4) ?_ krd (rem_n (M := 19999) (by omega) c6)
  · intro a j q1 q2 q3 q4
    rw [f2 _ _ (by omega), gn _ _ q1 q2 q3]
  · rw [f2 _ _ (by omega), g12]
  · intro j hj
    rw [f2 _ _ (by omega)]
    by_cases h7 : j = 7
    · subst h7; rw [g7]; rfl
    · rw [gv j hj h7, hB]
      rcases (by omega : j = 0 ∨ j = 1 ∨ j = 2 ∨ j = 3 ∨ j = 4 ∨ j = 5 ∨ j = 6 ∨ j = 8) with rfl | rfl | rfl | rfl | rfl | rfl | rfl | rfl
      all_goals simp (disch := omega) only [up2_ne, up2_same, aV]; rfl
  · rw [f2 _ _ (by omega), g9]
    congr 1
    refine biN_congr _ fun i hi => ?_
    simp (disch := omega) only [exM, hisM, f2, gv, aN', gn]
  · rw [f2 _ _ (by omega), g10]
    congr 1
    refine biN_congr _ fun i hi => ?_
    simp (disch := omega) only [neM, hisM, f2, gv, aN', gn]
  · rcases Bool.or_eq_true_iff.mp c2 with h | h
    · exact Or.inl (of_decide_eq_true h)
    · exact Or.inr h
  · rcases Bool.or_eq_true_iff.mp c3 with h | h
    · exact Or.inl (of_decide_eq_true h)
    · obtain ⟨i, hi, q⟩ := ixB_ex (by omega) h
      exact Or.inr ⟨i, by omega, q⟩
  · rcases Bool.or_eq_true_iff.mp c5 with h | h
    · exact Or.inl (of_decide_eq_true h)
    · exact Or.inr h
end SHERD
