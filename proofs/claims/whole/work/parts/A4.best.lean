-- ===== best =====
def fwF (V : Nat → Int32) (y : Nat) (s : Int32) : Int32 := if V y < 0 then s else if V y < s then V y else s
/-- the text of law i and its size -/
def lwT (D : DR) (i : Nat) : Nat → Int32 := fun k => D (1024 + 300 * i + k)
def fwS (D : DR) (day : Int32) (i : Nat) : Int32 := itS (fwF (clV D (lwT D i) (nD D (1020 + i)) day)) (nD D 2) 0 7
def beF (D : DR) (day : Int32) (i : Nat) (s : Int32 × Int32) : Int32 × Int32 := if D (1020 + i) < 0 then s else if s.2 < fwS D day i then (nI i, fwS D day i) else s
section BEST
variable {n : Nat} {st : Nat → Nat} {S : SH} {μ : MU} {x b m c l j : Nat} {D E : DR} {T : Nat → Int32} {Nt : Nat}
theorem tuP_c (hI : Inv D) (h : AgS D E) (T : Nat → Int32) (Nt : Nat) (day : Int32) {y : Nat} (hy : y < nD D 2) (s : Nat) : tuP E T Nt day y s = tuP D T Nt day y s := by
  have b2 := hI.men.2
  have n2 : nD E 2 = nD D 2 := h.n (by omega)
  have hC : ∀ i, i < nD D 2 → tuC E day y s i = tuC D day y s i := by
    intro i hi
    have h91 : E (91 + i) = D (91 + i) := h _ (by omega) (by omega)
    have e1 : tuB E day y s i = tuB D day y s i := by
      unfold tuB
      rw [comB_c hI h hi, h91, nD_eq h91]
    have e2 : drS E i day (-1) false = drS D i day (-1) false := by
      unfold drS thrS
      rw [comB_c hI h hi]
      have : ∀ F : DR, payS F i day (-1) (if false = true then bouS F (F (91 + i)) day else -1) = casS F i day (-1) := fun F => by
        simp only [Bool.false_eq_true, if_false, payS]
        rw [if_pos (by decide)]
      rw [this, this, casS_c hI h hi]
    unfold tuC
    rw [e1, e2, sntB_c h (by omega)]
  have e3 : caS E T Nt (tuC E day y s) = caS D T Nt (tuC D day y s) := by
    rw [← caS_c (C := tuC E day y s) hC]
    have : aGs E (tuC E day y s) (nD D 2) = aGs D (tuC E day y s) (nD D 2) := funext fun w => orK_c _ fun i hi => by
      have hw := (wdS_of hI hi).2
      have b1 := hI.wards.2
      have : trS E i = trS D i := by
        unfold trS
        rw [wdS_c h (by omega)]
        exact nD_eq (h _ (by omega) (by omega))
      rw [this]
    unfold caS
    rw [n2, this]
  unfold tuP
  rw [e3]
theorem clV_c (hI : Inv D) (h : AgS D E) (T : Nat → Int32) (Nt : Nat) (day : Int32) {y : Nat} (hy : y < nD D 2) : clV E T Nt day y = clV D T Nt day y := by
  have : tuV E T Nt day y = tuV D T Nt day y := by
    unfold tuV
    rw [show tuP E T Nt day y = tuP D T Nt day y from funext fun s => tuP_c hI h T Nt day hy s]
  unfold clV
  rw [this]
theorem inv7 (hI : Inv D) {i : Nat} (hi : i < 4) (hr : ¬ D (1020 + i) < 0) {D' : DR} (h7 : D' 7 = nI i) (hd : ∀ q, ¬ q = 7 → D' q = D q) : Inv D' := by
  obtain ⟨e0, b0⟩ := hI.today
  obtain ⟨e1, b1⟩ := hI.wards
  obtain ⟨e2, b2⟩ := hI.men
  obtain ⟨e3, b3⟩ := hI.words
  obtain ⟨e4, b4⟩ := hI.bars
  obtain ⟨e5, b5⟩ := hI.shes
  obtain ⟨e6, b6⟩ := hI.wets
  obtain ⟨e8, b8⟩ := hI.heaped
  refine ⟨IA.congr hI (fun q h => by exact hd q (by omega)), Iw.congr hI (fun q h => by exact hd q (by omega)), Im.congr hI (fun q h => by exact hd q (by omega)), Iv.congr hI (fun q h => by exact hd q (by omega)), Ib.congr hI (fun q h => by exact hd q (by omega)), Is.congr hI (fun q h => by exact hd q (by omega)), Ix.congr hI (fun q h => by exact hd q (by omega)), Ih.congr hI (fun q h => by exact hd q (by omega)), ?_, Ir.congr hI (fun q h => by exact hd q (by omega))⟩
  have nl : ∀ l, nD D' (1020 + l) = nD D (1020 + l) := fun l => nD_eq (hd _ (by omega))
  refine ⟨by rw [h7]; exact Or.inr ⟨i, hi, rfl⟩, ?_, ?_, ?_⟩
  · intro l hl h
    rw [h7] at h
    have := (nI_eq (by omega) (by omega)).mp h
    subst this
    rw [hd _ (by omega)]; exact hr
  · intro l hl; have := hI.size l hl; rw [hd _ (by omega)]; exact this
  · intro l k hl hk; rw [nl] at hk; have := hI.byte l k hl hk; rw [hd _ (by omega)]; exact this
theorem law7 {i : Nat} (hi : i < 4) (h7 : E 7 = nI i) (hd : ∀ q, ¬ q = 7 → E q = D q) : lawT E = lwT D i ∧ lawN E = nD D (1020 + i) := by
  have p7 : ¬ E 7 < 0 := by rw [h7]; exact nI_pos (by omega)
  have n7 : nD E 7 = i := nD_of h7 (by omega)
  have li : lawI E = i := by rw [lawI, if_neg p7, n7]
  refine ⟨?_, ?_⟩
  · funext k
    unfold lawT lwT
    rw [li, hd _ (by omega)]
  · unfold lawN
    rw [if_neg p7, n7]
    exact nD_eq (hd _ (by omega))
theorem lawU_at (hs : Sim μ c D) {i : Nat} (hi : i < 4) (hr : ¬ D (1020 + i) < 0) : LawU μ (c + 118 + 6 * i) (lwT D i) (nD D (1020 + i)) := by
  rcases hs.law i hi with ⟨q, -⟩ | ⟨q, -, hok⟩
  · exact absurd q hr
  · exact hok.u
theorem size_at (hI : Inv D) {i : Nat} (hi : i < 4) (hr : ¬ D (1020 + i) < 0) : nD D (1020 + i) ≤ 300 := by
  rcases hI.size i hi with h | ⟨k, hk, h⟩
  · rw [h] at hr; exact absurd (by decide) hr
  · rw [nD_of h (by omega)]; omega
theorem clV_val (D : DR) (T : Nat → Int32) (Nt : Nat) (day : Int32) (y : Nat) : (tuV D T Nt day y < 0 ↔ clV D T Nt day y < 0) := by
  unfold clV
  rcases tuV_val D T Nt day y with h | ⟨t, ht, h⟩
  · rw [h, if_pos (by decide)]
  · have := popN_64 t ht
    rw [h, if_neg (nI_pos (by omega)), nI_clamp (by omega)]
    exact ⟨fun q => absurd q (nI_pos (by omega)), fun q => absurd q (nI_pos (by omega))⟩
theorem k_fewL (hX : ShX S x) (hI : Inv D) (day : Int32) {i : Nat} (hi : i < 4) (hr : ¬ D (1020 + i) < 0) : ∀ k j fu (s : Int32) (μ : MU), j + k = nD D 2 → k < fu → Sim μ (x + 1) D → BaseOK st S μ x b → DrOK μ x D day → ∃ μ', b_X11_fewestClubs_6 fu (some x) day (some (x + 1 + 118 + 6 * i)) s (nI j) (mkH n st S μ) = some (itS (fwF (clV D (lwT D i) (nD D (1020 + i)) day)) k j s, mkH n st S μ') ∧ ∀ a q, ¬ (x + 158 ≤ a ∧ a ≤ x + 162) → ¬ a = x + 1 + 118 + 6 * i + 4 → ¬ a = x + 1 + 118 + 6 * i + 5 → μ' a q = μ a q := by
  have hCy := hX.city
  obtain ⟨e2, b2⟩ := hI.men
  have hNt := size_at hI hi hr
  intro k
  induction k with
  | zero =>
    intro j fu s μ hj hf hs hBs hd
    obtain ⟨fu, rfl⟩ : ∃ q, fu = q + 1 := ⟨fu - 1, by omega⟩
    obtain rfl : j = nD D 2 := by omega
    have h6 : μ (x + 1) 6 = nI (nD D 2) := by rw [hs.manN, e2]
    exact ⟨μ, by simp (disch := omega) only [b_X11_fewestClubs_6, xR0 hX, some_bind, cI6 hCy, h6, nn_lt, natF, if_false, itS], fun _ _ _ _ _ => rfl⟩
  | succ k ih =>
    intro j fu s μ hj hf hs hBs hd
    obtain ⟨fu, rfl⟩ : ∃ q, fu = q + 1 := ⟨fu - 1, by omega⟩
    have h6 : μ (x + 1) 6 = nI (nD D 2) := by rw [hs.manN, e2]
    obtain ⟨μ1, t1, t2⟩ := k_tu (n := n) (st := st) (b := b) hX hs hI hBs (show j < nD D 2 by omega) (show i < 5 by omega) (lawU_at hs hi hr) hNt hd
    obtain ⟨μ', r1, r2⟩ := ih (j + 1) fu (fwF (clV D (lwT D i) (nD D (1020 + i)) day) j s) μ1 (by omega) (by omega) (Sim.frX hI hs (fun a q h q1 q2 => t2 a q (by omega) (by omega) (by omega))) (hBs.congr (fun _ _ => rfl) (fun a q h => t2 a q (by omega) (by omega) (by omega))) (hd.congr (fun i => t2 _ _ (by omega) (by omega) (by omega)) (t2 _ _ (by omega) (by omega) (by omega)))
    refine ⟨μ', ?_, fun a q q1 q2 q3 => by rw [r2 a q q1 q2 q3, t2 a q q1 q2 q3]⟩
    rw [show itS (fwF (clV D (lwT D i) (nD D (1020 + i)) day)) (k + 1) j s = itS (fwF (clV D (lwT D i) (nD D (1020 + i)) day)) k (j + 1) (fwF (clV D (lwT D i) (nD D (1020 + i)) day) j s) from rfl, ← r1]
    have hiff := clV_val D (lwT D i) (nD D (1020 + i)) day j
    have hval := tuV_val D (lwT D i) (nD D (1020 + i)) day j
    have hcl : clV D (lwT D i) (nD D (1020 + i)) day j = if tuV D (lwT D i) (nD D (1020 + i)) day j < 0 then -1 else nI (popN 16 (tuV D (lwT D i) (nD D (1020 + i)) day j).toNatClampNeg) := rfl
    unfold fwF
    obtain ⟨w, hw⟩ : ∃ w, w = clV D (lwT D i) (nD D (1020 + i)) day j := ⟨_, rfl⟩
    obtain ⟨v, hv⟩ : ∃ v, v = tuV D (lwT D i) (nD D (1020 + i)) day j := ⟨_, rfl⟩
    rw [← hv] at t1 hval hiff hcl
    rw [← hw] at hiff hcl ⊢
    simp (disch := omega) only [b_X11_fewestClubs_6, xR0 hX, some_bind, cI6 hCy, h6, nn_lt, natT, if_true, xck hX, t1, nI_1]
    by_cases h0 : v < 0
    · rw [if_pos h0, if_pos (hiff.mp h0)]
    · rw [if_neg h0, if_neg (fun q => h0 (hiff.mpr q))]
      rw [if_neg h0] at hcl
      rcases hval with h | ⟨t, ht, h⟩
      · rw [h] at h0; exact absurd (by decide) h0
      · rw [h, nI_clamp (by omega)] at hcl
        rw [h, k_bitCount (by omega), some_bind, ← hcl]
        rfl
theorem k_bestL (hX : ShX S x) (hI : Inv D) (day : Int32) : ∀ k j fu (s : Int32 × Int32) (μ : MU), j + k = 4 → k < fu → Sim μ (x + 1) D → BaseOK st S μ x b → DrOK μ x D day → ∃ μ', b_X11_best_24 fu (some x) day s.1 s.2 (nI j) (mkH n st S μ) = some ((itS (beF D day) k j s).1, mkH n st S μ') ∧ ∀ a q, ¬ (x + 158 ≤ a ∧ a ≤ x + 162) → ¬ (x + 119 ≤ a ∧ a < x + 149 ∧ 4 ≤ (a - (x + 119)) % 6) → μ' a q = μ a q := by
  have hCy := hX.city
  obtain ⟨e2, b2⟩ := hI.men
  obtain ⟨fq, hfq, hfl⟩ : ∃ q, FU = q ∧ 301 < q := ⟨FU, rfl, by decide⟩
  intro k
  induction k with
  | zero =>
    intro j fu s μ hj hf hs hBs hd
    obtain ⟨fu, rfl⟩ : ∃ q, fu = q + 1 := ⟨fu - 1, by omega⟩
    obtain rfl : j = 4 := by omega
    exact ⟨μ, by simp (disch := omega) only [b_X11_best_24, lit_lt, natF, if_false, itS], fun _ _ _ _ => rfl⟩
  | succ k ih =>
    intro j fu s μ hj hf hs hBs hd
    obtain ⟨fu, rfl⟩ : ∃ q, fu = q + 1 := ⟨fu - 1, by omega⟩
    have hL := hCy.law j (by omega)
    have g2 : μ (x + 1 + 118 + 6 * j) 0 = if D (1020 + j) < 0 then 0 else 1 := by
      rcases hs.law j (by omega) with ⟨q, h⟩ | ⟨q, h, -⟩
      · rw [if_pos q]; exact h
      · rw [if_neg q]; exact h
    rw [show itS (beF D day) (k + 1) j s = itS (beF D day) k (j + 1) (beF D day j s) from rfl]
    by_cases hr : D (1020 + j) < 0
    · obtain ⟨μ', r1, r2⟩ := ih (j + 1) fu s μ (by omega) (by omega) hs hBs hd
      refine ⟨μ', ?_, r2⟩
      rw [show beF D day j s = s from by rw [beF, if_pos hr], ← r1]
      rw [if_pos hr] at g2
      simp (disch := omega) only [b_X11_best_24, lit_lt, natT, if_true, xR0 hX, some_bind, cR13 hCy, cElaws hCy, lI0 hL, g2, nI_1]
    · rw [if_neg hr] at g2
      obtain ⟨μ1, t1, t2⟩ := k_fewL (n := n) (st := st) (b := b) hX hI day (show j < 4 by omega) hr (nD D 2) 0 fq 7 μ (by omega) (by omega) hs hBs hd
      have kF : f_X11_fewestClubs (some x) day (some (x + 1 + 118 + 6 * j)) (mkH n st S μ) = some (fwS D day j, mkH n st S μ1) := by
        unfold f_X11_fewestClubs
        rw [hfq]
        exact t1
      obtain ⟨μ', r1, r2⟩ := ih (j + 1) fu (beF D day j s) μ1 (by omega) (by omega) (Sim.frX hI hs (fun a q h q1 q2 => t2 a q (by omega) (by omega) (by omega))) (hBs.congr (fun _ _ => rfl) (fun a q h => t2 a q (by omega) (by omega) (by omega))) (hd.congr (fun i => t2 _ _ (by omega) (by omega) (by omega)) (t2 _ _ (by omega) (by omega) (by omega)))
      refine ⟨μ', ?_, fun a q q1 q2 => by rw [r2 a q q1 q2, t2 a q q1 (by omega) (by omega)]⟩
      rw [← r1, beF, if_neg hr]
      have i10 : ¬ (1 : Int32) = 0 := by decide
      simp (disch := omega) only [b_X11_best_24, lit_lt, natT, if_true, xR0 hX, some_bind, cR13 hCy, cElaws hCy, lI0 hL, g2, i10, if_false, xck hX, kF, nI_1]
      by_cases h : s.2 < fwS D day j
      · rw [if_pos h, if_pos h]
      · rw [if_neg h, if_neg h]
theorem r_best62 (hS : ShM S m) (hm : x ≤ m) (hI : Inv D) {i : Nat} (hi : i < 4) (hr : ¬ D (1020 + i) < 0) {μc : MU} {Lw : Nat} (hU : LawU μc Lw (lwT D i) (nD D (1020 + i))) (h7 : E 7 = nI i) (hE : ∀ q, ¬ q = 7 → E q = D q) (k26 : Option Nat → Int32 → Int32 → Int32 → Int32 → Int32 → AH → Option (Int32 × AH)) (day x2 x3 x4 : Int32) : ∀ k j fu (s : Int32) (μ : MU), j + k = nD D 2 → k < fu → BaseOK st S μ x b → μ (m + 1) = E → ∃ μ', b_X12_best_62 k26 fu (some m) day x2 x3 x4 (nI i) s (nI j) (mkH n st S μ) = (if x4 < itS (fwF (clV D (lwT D i) (nD D (1020 + i)) day)) k j s then k26 (some m) day x2 (nI i) (itS (fwF (clV D (lwT D i) (nD D (1020 + i)) day)) k j s) (nI (i + 1)) (mkH n st S μ') else k26 (some m) day x2 x3 x4 (nI (i + 1)) (mkH n st S μ')) ∧ FrTu m μ μ' := by
  obtain ⟨e2, b2⟩ := hI.men
  have hIE := inv7 hI hi hr h7 hE
  have hag : AgS D E := fun q q1 _ => hE q (by omega)
  obtain ⟨l1, l2⟩ := law7 (D := D) hi h7 hE
  have n2 : nD E 2 = nD D 2 := hag.n (by omega)
  have h2 : E 2 = nI (nD D 2) := by rw [hE _ (by omega)]; exact e2
  intro k
  induction k with
  | zero =>
    intro j fu s μ hj hf hBs hD
    obtain ⟨fu, rfl⟩ : ∃ q, fu = q + 1 := ⟨fu - 1, by omega⟩
    obtain rfl : j = nD D 2 := by omega
    refine ⟨μ, ?_, fun _ _ _ _ => rfl⟩
    simp (disch := omega) only [b_X12_best_62, b_X12_best_122, mR0 hS, some_bind, lit_aI, mA0 hS, hD, h2, nn_lt, natF, if_false, itS, nI_1]
    by_cases h : x4 < s
    · simp only [h, if_true]
    · simp only [h, if_false]
  | succ k ih =>
    intro j fu s μ hj hf hBs hD
    obtain ⟨fu, rfl⟩ : ∃ q, fu = q + 1 := ⟨fu - 1, by omega⟩
    obtain ⟨μ1, t1, t2⟩ := r_clubs (n := n) (st := st) (x := x) (b := b) (D := E) hS hm hIE (by rw [l1, l2]; exact hU) hBs hD day (y := j) (by omega)
    rw [l1, l2, clV_c hI hag _ _ _ (show j < nD D 2 by omega)] at t1
    obtain ⟨μ', r1, r2⟩ := ih (j + 1) fu (fwF (clV D (lwT D i) (nD D (1020 + i)) day) j s) μ1 (by omega) (by omega) (hBs.congr (fun _ _ => rfl) (fun a q h => t2 a q (by omega) (by omega))) (by funext q; rw [t2 _ _ (by omega) (by omega), hD])
    refine ⟨μ', ?_, fun a q q1 q2 => by rw [r2 a q q1 q2, t2 a q q1 q2]⟩
    rw [show itS (fwF (clV D (lwT D i) (nD D (1020 + i)) day)) (k + 1) j s = itS (fwF (clV D (lwT D i) (nD D (1020 + i)) day)) k (j + 1) (fwF (clV D (lwT D i) (nD D (1020 + i)) day) j s) from rfl, ← r1]
    unfold fwF
    obtain ⟨w, hw⟩ : ∃ w, w = clV D (lwT D i) (nD D (1020 + i)) day j := ⟨_, rfl⟩
    rw [← hw] at t1 ⊢
    simp (disch := omega) only [b_X12_best_62, b_X12_best_99, mR0 hS, some_bind, lit_aI, mA0 hS, hD, h2, nn_lt, natT, if_true, rck hS, t1, nI_1]
    by_cases c1 : w < 0
    · rw [if_pos c1, if_pos c1]
    · rw [if_neg c1, if_neg c1]
      by_cases c2 : w < s
      · rw [if_pos c2, if_pos c2]
      · rw [if_neg c2, if_neg c2]
theorem r_bestL (hS : ShM S m) (hm : x ≤ m) (hI : Inv D) {μc : MU} {Lw : Nat} (hU : ∀ i, i < 4 → ¬ D (1020 + i) < 0 → LawU μc (Lw + 6 * i) (lwT D i) (nD D (1020 + i))) (day : Int32) : ∀ k j fu (s : Int32 × Int32) (μ : MU), j + k = 4 → k < fu → BaseOK st S μ x b → (∀ q, ¬ q = 7 → μ (m + 1) q = D q) → ∃ μ', b_X12_best_26 fu (some m) day (D 7) s.1 s.2 (nI j) (mkH n st S μ) = some ((itS (beF D day) k j s).1, mkH n st S μ') ∧ μ' (m + 1) = D ∧ ∀ a q, ¬ (a = m ∧ ((11 ≤ q ∧ q ≤ 18) ∨ (22 ≤ q ∧ q ≤ 26))) → ¬ (m + 7 ≤ a ∧ a ≤ m + 13) → ¬ a = m + 1 → μ' a q = μ a q := by
  have b2 := hI.men.2
  obtain ⟨fq, hfq, hfl⟩ : ∃ q, FU = q ∧ 301 < q := ⟨FU, rfl, by decide⟩
  intro k
  induction k with
  | zero =>
    intro j fu s μ hj hf hBs hD
    obtain ⟨fu, rfl⟩ : ∃ q, fu = q + 1 := ⟨fu - 1, by omega⟩
    obtain rfl : j = 4 := by omega
    refine ⟨up2 μ (m + 1) 7 (D 7), by simp (disch := omega) only [b_X12_best_26, lit_lt, natF, if_false, mR0 hS, some_bind, lit_sI, mS0 hS, itS], ?_, fun a q _ _ h => by rw [up2_ne (by omega)]⟩
    funext q
    by_cases h : q = 7
    · subst h; rw [up2_same]
    · rw [up2_ne (by omega), hD q h]
  | succ k ih =>
    intro j fu s μ hj hf hBs hD
    obtain ⟨fu, rfl⟩ : ∃ q, fu = q + 1 := ⟨fu - 1, by omega⟩
    have hj20 := hD (1020 + j) (by omega)
    rw [show itS (beF D day) (k + 1) j s = itS (beF D day) k (j + 1) (beF D day j s) from rfl]
    by_cases hr : D (1020 + j) < 0
    · obtain ⟨μ', r1, r2⟩ := ih (j + 1) fu s μ (by omega) (by omega) hBs hD
      refine ⟨μ', ?_, r2⟩
      rw [show beF D day j s = s from by rw [beF, if_pos hr], ← r1]
      simp (disch := omega) only [b_X12_best_26, lit_lt, natT, if_true, mR0 hS, some_bind, lit_add, mA0 hS, hj20, hr, nI_1]
    · obtain ⟨μ1, hμ1⟩ : ∃ q, q = up2 μ (m + 1) 7 (nI j) := ⟨_, rfl⟩
      have h1 : ∀ a q, ¬ (a = m + 1 ∧ q = 7) → μ1 a q = μ a q := fun a q h => by rw [hμ1, up2_ne h]
      have hE : ∀ q, ¬ q = 7 → μ1 (m + 1) q = D q := fun q h => by rw [h1 _ _ (by omega), hD q h]
      obtain ⟨μ2, t1, t2⟩ := r_best62 (n := n) (st := st) (x := x) (b := b) (E := μ1 (m + 1)) hS hm hI (show j < 4 by omega) hr (hU j (by omega) hr) (by rw [hμ1, up2_same]) hE (b_X12_best_26 fu) day (D 7) s.1 s.2 (nD D 2) 0 fq 7 μ1 (by omega) (by omega) (hBs.congr (fun _ _ => rfl) (fun a q h => h1 a q (by omega))) rfl
      obtain ⟨μ', r1, r2, r3⟩ := ih (j + 1) fu (beF D day j s) μ2 (by omega) (by omega) (hBs.congr (fun _ _ => rfl) (fun a q h => by rw [t2 a q (by omega) (by omega), h1 a q (by omega)])) (fun q h => by rw [t2 _ _ (by omega) (by omega), hE q h])
      refine ⟨μ', ?_, r2, fun a q q1 q2 q3 => by rw [r3 a q q1 q2 q3, t2 a q q1 q2, h1 a q (by omega)]⟩
      have e : b_X12_best_26 (fu + 1) (some m) day (D 7) s.1 s.2 (nI j) (mkH n st S μ) = b_X12_best_62 (b_X12_best_26 fu) fq (some m) day (D 7) s.1 s.2 (nI j) 7 (nI 0) (mkH n st S μ1) := by
        rw [← hfq, hμ1]
        simp (disch := omega) only [b_X12_best_26, lit_lt, natT, if_true, mR0 hS, some_bind, lit_add, mA0 hS, hj20, hr, if_false, lit_sI, mS0 hS]
        rfl
      rw [e, t1, ← r1, beF, if_neg hr]
      have ef : itS (fwF (clV D (lwT D j) (nD D (1020 + j)) day)) (nD D 2) 0 7 = fwS D day j := rfl
      rw [ef]
      by_cases h : s.2 < fwS D day j
      · rw [if_pos h, if_pos h]
      · rw [if_neg h, if_neg h]
theorem op_best (hR : R n st S μ x b) (a1 : Int32) : Res (f_X11_best (some x) a1) (f_X12_best (some (x + 175)) a1) n st S μ x b := by
  have hR' := hR
  obtain ⟨⟨hX, hS, hs, hI, hL0⟩, hRest⟩ := hR
  have hC := hX.city
  have hBase := hRest.2.2.2.1
  obtain ⟨D, hD⟩ : ∃ D, μ (x + 175 + 1) = D := ⟨_, rfl⟩
  replace hs : Sim μ (x + 1) (μ (x + 175 + 1)) := hs
  replace hI : Inv (μ (x + 175 + 1)) := hI
  rw [hD] at hs hI
  obtain ⟨e0, b0⟩ := hI.today
  obtain ⟨e1, b1⟩ := hI.wards
  obtain ⟨e2, b2⟩ := hI.men
  obtain ⟨e3, b3⟩ := hI.words
  obtain ⟨e4, b4⟩ := hI.bars
  obtain ⟨e5, b5⟩ := hI.shes
  obtain ⟨e6, b6⟩ := hI.wets
  obtain ⟨e8, b8⟩ := hI.heaped
  have z0 := hs.today
  have z1 := hs.wardN
  have z2 := hs.manN
  have z3 := hs.wordN
  have z4 := hs.barN
  have z5 := hs.sheN
  have z6 := hs.wetN
  have z8 := hs.heapN
  by_cases c2 : inS a1 0 9999 = true
  case neg => exact Res.same hR' (-1) (by simp only [f_X11_best, some_bind, ite_bI0, k_isDay, c2, if_false, Bool.false_eq_true]) (by simp only [f_X12_best, some_bind, ite_bI0, s_isDay, c2, if_false, Bool.false_eq_true])
  have hd : ¬ a1 < 0 := inS_nn c2
  obtain ⟨fu, hfu, hfl⟩ : ∃ q, FU = q ∧ 301 < q := ⟨FU, rfl, by decide⟩
  obtain ⟨μ1, g1, gF, gD⟩ := k_drawn (n := n) (st := st) hX hs hI hd
  have hs1 : Sim μ1 (x + 1) D := Sim.frX hI hs (fun a q h _ _ => gF a q (by omega) (by omega))
  obtain ⟨μ3, p1, p2⟩ := k_bestL (n := n) (st := st) (b := b) hX hI a1 4 0 fu (-3, -1) μ1 (by omega) (by omega) hs1 (hBase.congr (fun _ _ => rfl) (fun a q h => gF a q (by omega) (by omega))) gD
  have h3 : ∀ a i, ¬ a = x + 165 → ¬ (a = x ∧ i = 6) → ¬ (x + 158 ≤ a ∧ a ≤ x + 162) → ¬ (x + 119 ≤ a ∧ a < x + 149 ∧ 4 ≤ (a - (x + 119)) % 6) → μ3 a i = μ a i := fun a i q1 q2 q3 q4 => by rw [p2 a i q3 q4, gF a i q1 q2]
  have hD3 : μ3 (x + 175 + 1) = D := by funext q; rw [h3 _ _ (by omega) (by omega) (by omega) (by omega), hD]
  obtain ⟨μ5, r1, r2, r3⟩ := r_bestL (n := n) (st := st) (x := x) (b := b) (μc := μ) (Lw := x + 1 + 118) hS (by omega) hI (fun i hi hr => lawU_at hs hi hr) a1 4 0 fu (-3, -1) μ3 (by omega) (by omega) (hBase.congr (fun _ _ => rfl) (fun a q h => h3 a q (by omega) (by omega) (by omega) (by omega))) (fun q _ => by rw [hD3])
  refine ⟨(itS (beF D a1) 4 0 (-3, -1)).1, mkH n st S μ3, n, S, μ5, ?_, ?_, ?_⟩
  · rw [← p1, ← hfu]
    simp only [f_X11_best, k_isDay, some_bind, ite_bI0, c2, if_true, xck hX, g1]
    rfl
  · rw [← r1, ← hfu]
    simp (disch := omega) only [f_X12_best, s_isDay, some_bind, ite_bI0, c2, if_true, mR0 hS, lit_aI, mA0 hS, hD3]
    rfl
  · refine hR'.congr fun a j h => ?_
    unfold scr at h
    by_cases ha : a = x + 175 + 1
    · subst ha
      rw [r2, hD]
    · rw [r3 a j (by omega) (by omega) ha, h3 a j (by omega) (by omega) (by omega) (by omega)]
end BEST
