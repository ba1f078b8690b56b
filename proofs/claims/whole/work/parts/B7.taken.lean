-- ===== taken =====
/-- a kind and what it is under -/
def chN (v : Nat) : List Nat := match v with
  | 0 => [0]
  | 1 => [1, 0]
  | 2 => [2, 1, 0]
  | 3 => [3, 1, 0]
  | 4 => [4, 0]
  | 5 => [5, 0]
  | _ => [6, 5, 0]
def unB (v t : Nat) : Bool := (chN v).contains t
section TAKEN
variable {n n' : Nat} {st : Nat → Nat} {S S' : SH} {μ μ' : MU} {x b m c l : Nat} {D : DR}
theorem un_step (hB : BaseOK st S μ x b) {v : Nat} {p : Int32} (hv : (stV 2)[v]? = some p) (hv7 : v < 7) {t : Nat} (ht : t < 2 ^ 31) (fu : Nat) {x3 : Int32} (h3 : x3 < 3) : b_X11_isUnder_4 (mkH n st S μ) (fu + 1) (nI t) (nI v) x3 = if v = t then some 1 else b_X11_isUnder_4 (mkH n st S μ) fu (nI t) p (x3 + 1) := by
  have v0 : ¬ nI v < (0 : Int32) := nI_pos (by omega)
  have hI := st_aI (n := n) hB (j := 2) (by omega) hv
  have h22 : (mkH n st S μ).2.2 2 = st 2 := rfl
  simp (disch := omega) only [b_X11_isUnder_4, h3, if_true, v0, if_false, h22, hI, some_bind, nI_eq]
theorem un_end (fu : Nat) {t : Int32} {h : AH} {x3 p : Int32} (h3 : ¬ x3 < 3 ∨ p < 0) : b_X11_isUnder_4 h (fu + 1) t p x3 = some 0 := by
  by_cases h' : x3 < 3
  · have hp : p < 0 := by
      rcases h3 with h | h
      · exact absurd h' h
      · exact h
    simp only [b_X11_isUnder_4, h', if_true, hp]
  · simp only [b_X11_isUnder_4, h', if_false]
theorem k_isUnder (hB : BaseOK st S μ x b) {v t : Nat} (hv : v < 7) (ht : t < 2 ^ 31) : f_X11_isUnder (nI v) (nI t) (mkH n st S μ) = some (bI (unB v t)) := by
  obtain ⟨fu, hfu, hfl⟩ : ∃ q, FU = q + 4 ∧ 200 < q := ⟨FU - 4, by decide, by decide⟩
  unfold f_X11_isUnder
  rw [hfu]
  have a01 : (0 : Int32) + 1 = 1 := by decide
  have a12 : (1 : Int32) + 1 = 2 := by decide
  have a23 : (2 : Int32) + 1 = 3 := by decide
  have s0 : (0 : Int32) < 3 := by decide
  have s1 : (1 : Int32) < 3 := by decide
  have s2 : (2 : Int32) < 3 := by decide
  have e3 : ∀ (f : Nat) (p : Int32), b_X11_isUnder_4 (mkH n st S μ) (f + 1) (nI t) p 3 = some 0 := fun f p => un_end f (Or.inl (by decide))
  have em : ∀ (f : Nat) (z : Int32), b_X11_isUnder_4 (mkH n st S μ) (f + 1) (nI t) (-1) z = some 0 := fun f z => un_end f (Or.inr (by decide))
  have q0 : ∀ (f : Nat) (z : Int32), z < 3 → b_X11_isUnder_4 (mkH n st S μ) (f + 2) (nI t) (nI 0) z = if 0 = t then some 1 else some 0 := fun f z hz => by
    rw [un_step hB (p := -1) rfl (by omega) ht (f + 1) hz, em]
  have q1 : ∀ (f : Nat) (z : Int32), z < 3 → z + 1 < 3 → b_X11_isUnder_4 (mkH n st S μ) (f + 3) (nI t) (nI 1) z = if 1 = t then some 1 else if 0 = t then some 1 else some 0 := fun f z hz hz' => by
    rw [un_step hB (p := nI 0) rfl (by omega) ht (f + 2) hz, q0 f _ hz']
  have q5 : ∀ (f : Nat) (z : Int32), z < 3 → z + 1 < 3 → b_X11_isUnder_4 (mkH n st S μ) (f + 3) (nI t) (nI 5) z = if 5 = t then some 1 else if 0 = t then some 1 else some 0 := fun f z hz hz' => by
    rw [un_step hB (p := nI 0) rfl (by omega) ht (f + 2) hz, q0 f _ hz']
  have fin2 : ∀ a, (if a = t then some 1 else if 0 = t then some (1 : Int32) else some 0) = some (bI ([a, 0].contains t)) := by
    intro a
    by_cases h1 : a = t
    · subst h1; simp [bI]
    · have h1' : ¬ t = a := fun q => h1 q.symm
      by_cases h2 : 0 = t
      · subst h2; simp [bI]
      · have h2' : ¬ t = 0 := fun q => h2 q.symm
        simp [h1, h2, h1', h2', bI]
  have fin3 : ∀ a c, (if a = t then some 1 else if c = t then some 1 else if 0 = t then some (1 : Int32) else some 0) = some (bI ([a, c, 0].contains t)) := by
    intro a c
    by_cases h1 : a = t
    · subst h1; simp [bI]
    · have h1' : ¬ t = a := fun q => h1 q.symm
      by_cases h3 : c = t
      · subst h3; simp [bI]
      · have h3' : ¬ t = c := fun q => h3 q.symm
        by_cases h2 : 0 = t
        · subst h2; simp [bI]
        · have h2' : ¬ t = 0 := fun q => h2 q.symm
          simp [h1, h2, h3, h1', h2', h3', bI]
  rcases (by omega : v = 0 ∨ v = 1 ∨ v = 2 ∨ v = 3 ∨ v = 4 ∨ v = 5 ∨ v = 6) with rfl | rfl | rfl | rfl | rfl | rfl | rfl
  · rw [q0 (fu + 2) 0 s0]
    by_cases h2 : 0 = t
    · subst h2; simp [bI, unB, chN]
    · have h2' : ¬ t = 0 := fun q => h2 q.symm
      simp [h2, h2', bI, unB, chN]
  · rw [q1 (fu + 1) 0 s0 (by decide)]; exact fin2 1
  · rw [un_step hB (p := nI 1) rfl (by omega) ht (fu + 3) s0, q1 fu (0 + 1) (by decide) (by decide)]; exact fin3 2 1
  · rw [un_step hB (p := nI 1) rfl (by omega) ht (fu + 3) s0, q1 fu (0 + 1) (by decide) (by decide)]; exact fin3 3 1
  · rw [un_step hB (p := nI 0) rfl (by omega) ht (fu + 3) s0, q0 (fu + 1) (0 + 1) (by decide)]; exact fin2 4
  · rw [q5 (fu + 1) 0 s0 (by decide)]; exact fin2 5
  · rw [un_step hB (p := nI 5) rfl (by omega) ht (fu + 3) s0, q5 fu (0 + 1) (by decide) (by decide)]; exact fin3 6 5
theorem kiD_rng (D : DR) {w q : Nat} : kiD D w q = -1 ∨ ∃ v, 1 ≤ v ∧ v < 7 ∧ kiD D w q = nI v := by
  unfold kiD
  split
  · split
    · split
      · exact Or.inr ⟨3, by omega, by omega, rfl⟩
      · split
        · exact Or.inr ⟨3, by omega, by omega, rfl⟩
        · split
          · exact Or.inr ⟨2, by omega, by omega, rfl⟩
          · exact Or.inr ⟨1, by omega, by omega, rfl⟩
    · exact Or.inl rfl
  · split
    · split
      · exact Or.inr ⟨4, by omega, by omega, rfl⟩
      · exact Or.inl rfl
    · split
      · split
        · exact Or.inl rfl
        · split
          · exact Or.inr ⟨6, by omega, by omega, rfl⟩
          · exact Or.inr ⟨5, by omega, by omega, rfl⟩
      · exact Or.inl rfl
/-- the reference's word for it -/
theorem r_under {v t : Nat} (hv1 : 1 ≤ v) (hv : v < 7) (ht : t < 15) (k130 : Int32 → Option (Int32 × AH)) (m114 : Option (Int32 × AH)) (h114 : m114 = if nI t = 5 then (if nI v = 6 then k130 1 else k130 0) else k130 0) : (if nI t = 0 then k130 1 else if nI t = nI v then k130 1 else if nI t = 1 then (if bI (inS (nI v) 1 3) = 0 then m114 else k130 1) else m114) = k130 (bI (decide (t < 7) && unB v t)) := by
  subst h114
  have key : ∀ v, v < 7 → 1 ≤ v → ∀ t, t < 15 → (if nI t = 0 then true else if nI t = nI v then true else if nI t = 1 then (if bI (inS (nI v) 1 3) = 0 then (if nI t = 5 then (if nI v = 6 then true else false) else false) else true) else (if nI t = 5 then (if nI v = 6 then true else false) else false)) = (decide (t < 7) && unB v t) := by decide +kernel
  rw [← key v hv hv1 t ht]
  have b1 : bI true = 1 := rfl
  have b0 : bI false = 0 := rfl
  by_cases c1 : nI t = 0
  · rw [if_pos c1, if_pos c1]; rfl
  · rw [if_neg c1, if_neg c1]
    by_cases c2 : nI t = nI v
    · rw [if_pos c2, if_pos c2]; rfl
    · rw [if_neg c2, if_neg c2]
      by_cases c3 : nI t = 1
      · rw [if_pos c3, if_pos c3]
        by_cases c4 : bI (inS (nI v) 1 3) = 0
        · rw [if_pos c4, if_pos c4]
          by_cases c5 : nI t = 5
          · rw [if_pos c5, if_pos c5]
            by_cases c6 : nI v = 6
            · rw [if_pos c6, if_pos c6]; rfl
            · rw [if_neg c6, if_neg c6]; rfl
          · rw [if_neg c5, if_neg c5]; rfl
        · rw [if_neg c4, if_neg c4]; rfl
      · rw [if_neg c3, if_neg c3]
        by_cases c5 : nI t = 5
        · rw [if_pos c5, if_pos c5]
          by_cases c6 : nI v = 6
          · rw [if_pos c6, if_pos c6]; rfl
          · rw [if_neg c6, if_neg c6]; rfl
        · rw [if_neg c5, if_neg c5]; rfl
theorem op_taken (hR : R n st S μ x b) (a1 a2 : Int32) : Res (fun h => (f_X11_taken (some x) a1 a2 h).bind fun v => some (v, h)) (f_X12_taken (some (x + 175)) a1 a2) n st S μ x b := by
  have hR' := hR
  obtain ⟨⟨hX, hS, hs, hI, hL0⟩, hRest⟩ := hR
  have hC := hX.city
  have hBase := hRest.2.2.2.1
  obtain ⟨D, hD⟩ : ∃ D, μ (x + 175 + 1) = D := ⟨_, rfl⟩
  replace hs : Sim μ (x + 1) (μ (x + 175 + 1)) := hs
  replace hI : Inv (μ (x + 175 + 1)) := hI
  rw [hD] at hs hI
  obtain ⟨e0, b0⟩ := hI.today
  obtain ⟨e1, b1⟩ := hI.wards
  obtain ⟨e2, b2⟩ := hI.men
  obtain ⟨e3, b3⟩ := hI.words
  obtain ⟨e4, b4⟩ := hI.bars
  obtain ⟨e5, b5⟩ := hI.shes
  obtain ⟨e6, b6⟩ := hI.wets
  obtain ⟨e8, b8⟩ := hI.heaped
  have z0 := hs.today
  have z1 := hs.wardN
  have z2 := hs.manN
  have z3 := hs.wordN
  have z4 := hs.barN
  have z5 := hs.sheN
  have z6 := hs.wetN
  have z8 := hs.heapN
  obtain ⟨-, -, -, -, hn, K, ρ, hK, hSh⟩ := hRest
  by_cases c1 : inS a1 0 3 = true
  case neg => exact Res.same hR' (-1) (by simp only [f_X11_taken, k_within, some_bind, c1, ite_bI0, if_false, Bool.false_eq_true]) (by simp only [f_X12_taken, s_isFour, some_bind, c1, ite_bI0, if_false, Bool.false_eq_true])
  obtain ⟨k, hk, rfl⟩ := inS_n (M := 3) (by omega) c1
  have hk4 : k < 4 := by omega
  by_cases c0 : inS a2 0 6 = true ∨ inS a2 10 14 = true
  case neg =>
    have c2 : ¬ inS a2 10 14 = true := fun h => c0 (Or.inr h)
    have c3 : ¬ inS a2 0 6 = true := fun h => c0 (Or.inl h)
    exact Res.same hR' (-1) (by simp only [f_X11_taken, k_within, some_bind, c1, c2, c3, ite_bI0, if_true, if_false, Bool.false_eq_true]) (by simp only [f_X12_taken, s_isFour, s_in, some_bind, c1, c2, c3, ite_bI0, if_true, if_false, Bool.false_eq_true])
  obtain ⟨t, ht, rfl, ht2⟩ : ∃ t, t < 15 ∧ a2 = nI t ∧ (t < 7 ∨ 10 ≤ t) := by
    rcases c0 with h | h
    · obtain ⟨t, ht, rfl⟩ := inS_n (M := 6) (by omega) h
      exact ⟨t, by omega, rfl, by omega⟩
    · obtain ⟨t, t1, t2, rfl⟩ := inS_lo (a := 10) (c := 14) (by omega) (by omega) h
      exact ⟨t, by omega, rfl, by omega⟩
  have f14 : inS (nI t) 10 14 = decide (10 ≤ t) := by
    have : ∀ t, t < 15 → inS (nI t) 10 14 = decide (10 ≤ t) := by decide +kernel
    exact this t ht
  have f6 : inS (nI t) 0 6 = decide (t < 7) := by
    have : ∀ t, t < 15 → inS (nI t) 0 6 = decide (t < 7) := by decide +kernel
    exact this t ht
  have cx : f_X11_taken (some x) (nI k) (nI t) (mkH n st S μ) = b_X11_taken_36 (mkH n st S μ) (some x) (nI k) (nI t) (bI (decide (10 ≤ t))) := by
    simp only [f_X11_taken, k_within, some_bind, c1, ite_bI0, if_true, f14, f6]
    by_cases h : 10 ≤ t
    · rw [if_pos (decide_eq_true h)]
    · rw [if_neg (by simpa using h), if_pos (decide_eq_true (show t < 7 by omega))]
  have cm : f_X12_taken (some (x + 175)) (nI k) (nI t) (mkH n st S μ) = b_X12_taken_30 (some (x + 175)) (nI k) (nI t) (mkH n st S μ) := by
    simp only [f_X12_taken, s_isFour, s_in, some_bind, c1, ite_bI0, if_true, f14, f6]
    by_cases h : 10 ≤ t
    · rw [if_neg (show ¬ decide (t < 7) = true by simp; omega), if_pos (decide_eq_true h)]
    · rw [if_pos (decide_eq_true (show t < 7 by omega))]
  obtain ⟨kn, kt⟩ := k_kindOn (n := n) (st := st) hX hs hI hk4
  obtain ⟨rn, rr, rt⟩ := r_kindOn (n := n) (st := st) (μ := μ) hS hD hI hk4
  have hkr : kRef (S (x + 171)).1 = true := by rw [hX.shelfRow.1]; rfl
  have hkl : k < (S (x + 171)).2.1 := by rw [hX.shelfRow.2]; exact hk4
  have hk3 : (S (x + 171)).2.1 < 2 ^ 31 := by rw [hX.shelfRow.2]; omega
  have m1 : (-1 : Int32) < 0 := by decide
  rcases hSh.2.1 k hk4 with ⟨h1, h2, h3⟩ | ⟨w, q, hw, hq, h1, h2, h3, h4, h5⟩ | ⟨r, hr, h1, h2, h3, h4⟩
  · have aR' : aR (mkH n st S μ) (some (x + 171)) (nI k) = some none := aR_mk hkr hkl hk3 h2
    have kk := kn h3
    have rk := rn h1
    refine Res.same hR' (-11) ?_ ?_
    · simp only [cx, b_X11_taken_36, xR13 hX, some_bind, aR', xck hX, kk, if_true, m1]
    · simp only [cm, b_X12_taken_30, rck hS, rk, some_bind, if_true]
  · have aR' : aR (mkH n st S μ) (some (x + 171)) (nI k) = some none := aR_mk hkr hkl hk3 h3
    have kk := kt w q hw hq h4 h5
    obtain ⟨μ1, rk, rF⟩ := rt w q hw hq h1 h2
    have hR1 : R n st S μ1 x b := hR'.congr fun a j h => by
      unfold scr at h
      exact rF a j (by omega)
    have a70 : aI (mkH n st S μ) (some (x + 170)) (nI k) = some (nI q) := by rw [← h5]; exact xASNu hX hk4
    have a36 : aI (mkH n st S μ1) (some (x + 175 + 21)) (nI k) = some (nI q) := by
      rw [← h2, ← rF (x + 196) k (by omega)]
      exact mA36 hS hk4
    rcases kiD_rng D (w := w) (q := q) with hki | ⟨v, v1, v2, hki⟩
    · rw [hki] at kk rk
      refine ⟨-11, mkH n st S μ, n, S, μ1, ?_, ?_, hR1⟩
      · simp only [cx, b_X11_taken_36, xR13 hX, some_bind, aR', xck hX, kk, if_true, m1]
      · simp only [cm, b_X12_taken_30, rck hS, rk, some_bind, if_true]
    · rw [hki] at kk rk
      have v0 : ¬ nI v < (0 : Int32) := nI_pos (by omega)
      have vn1 : ¬ nI v = (-1 : Int32) := n1_ne (by omega)
      have vn2 : ¬ nI v = (-2 : Int32) := fun h => by rw [h] at v0; exact v0 (by decide)
      have hU := k_isUnder (n := n) hBase (v := v) (t := t) v2 (by omega)
      refine ⟨if (decide (t < 7) && unB v t) = true then nI q else -13, mkH n st S μ, n, S, μ1, ?_, ?_, hR1⟩
      · simp only [cx, b_X11_taken_36, b_X11_taken_64, xR13 hX, some_bind, aR', xck hX, kk, if_true, v0, if_false, hU, ite_bI0, xR12 hX, a70]
        by_cases h : 10 ≤ t
        · rw [if_pos (decide_eq_true h), decide_eq_false (show ¬ t < 7 by omega)]
          rfl
        · rw [if_neg (by simpa using h), decide_eq_true (show t < 7 by omega), Bool.true_and]
          by_cases hu : unB v t = true
          · rw [if_pos hu, if_pos hu]; rfl
          · rw [if_neg hu, if_neg hu]; rfl
      · rw [cm]
        simp only [b_X12_taken_30, rck hS, rk, some_bind, vn1, vn2, if_false, s_in]
        have := r_under (v := v) (t := t) v1 v2 ht (fun s => b_X12_taken_130 (some (x + 175)) (nI k) s (mkH n st S μ1)) (b_X12_taken_114 (some (x + 175)) (nI k) (nI t) (nI v) (mkH n st S μ1)) (by unfold b_X12_taken_114; rfl)
        refine Eq.trans this ?_
        simp only [b_X12_taken_130, ite_bI0, mR36 hS, some_bind, a36]
        by_cases hu : (decide (t < 7) && unB v t) = true
        · rw [if_pos hu, if_pos hu]
        · rw [if_neg hu, if_neg hu]
  · have aR' : aR (mkH n st S μ) (some (x + 171)) (nI k) = some (some (ρ r)) := aR_mk hkr hkl hk3 h3
    have kk := kn (Or.inl h4)
    have rk := rr h1
    have hrow := (hSh.2.2.1 r hr ⟨k, hk4, Or.inr ⟨h1, h2⟩⟩).1
    have g0 := row_gI (n := n) (st := st) hrow
    have g1 := row_gR (n := n) (st := st) hrow
    obtain ⟨-, len, l1, l2, l3, l4, ⟨ty, hty, l5⟩, l6⟩ := hrow
    have aLn : aL (mkH n st S μ) (some (ρ r + 1)) = some (nI len) := ob_aL l2 (by omega)
    rw [l5] at g0 l4
    have a36 : aI (mkH n st S μ) (some (x + 175 + 21)) (nI k) = some (nI r) := by rw [← h2]; exact mA36 hS hk4
    have a32 : aI (mkH n st S μ) (some (x + 175 + 17)) (nI r) = some (nI ty) := by rw [l4]; exact mA32 hS hr
    have a33 : aI (mkH n st S μ) (some (x + 175 + 18)) (nI r) = some (nI len) := by rw [← l3]; exact mA33 hS hr
    have nn : ∀ v : Nat, ¬ (some v : Option Nat) = none := fun v h => by cases h
    have z1 : ¬ (-2 : Int32) = -1 := by decide
    refine Res.same hR' (if 10 ≤ t ∧ nI ty = nI t - 10 then nI len else -13) ?_ ?_
    · simp only [cx, b_X11_taken_36, b_X11_taken_64, xR13 hX, some_bind, aR', xck hX, kk, nn, if_false, ite_bI0, g0, g1, aLn]
      by_cases h : 10 ≤ t
      · rw [if_pos (decide_eq_true h)]
        by_cases h' : nI ty = nI t - 10
        · rw [if_pos h', if_pos ⟨h, h'⟩]; rfl
        · rw [if_neg h', if_neg (fun q => h' q.2)]; rfl
      · rw [if_neg (by simpa using h), if_neg (fun q => h q.1)]; rfl
    · simp (disch := omega) only [cm, b_X12_taken_30, rck hS, rk, some_bind, z1, if_false, if_true, mR32 hS, mR36 hS, a36, a32, mR33 hS, a33, lit_lt]
      by_cases h : 10 ≤ t
      · rw [if_neg (show ¬ t < 10 by omega)]
        by_cases h' : nI ty = nI t - 10
        · rw [if_pos h', if_pos ⟨h, h'⟩]
        · rw [if_neg h', if_neg (fun q => h' q.2)]
      · rw [if_pos (show t < 10 by omega), if_neg (fun q => h q.1)]
end TAKEN
