-- ===== enough, recalls, may; law, recall, may =====
def fk4 (t f s r : Int32) : Nat → Int32 := fun k => if k = 0 then t else if k = 1 then f else if k = 2 then s else r
def enoS (T : Nat → Int32) (N : Nat) (t f s r : Int32) : Bool := decide (ruT T N (fk4 t f s r) 1 (if 0 < f then 1 else 0) ≠ 0)
def recS (T : Nat → Int32) (N : Nat) (yes all : Int32) : Bool := decide (ruT T N (fk4 yes all 0 0) 2 (if all < yes + yes then 1 else 0) ≠ 0)
def mayS (T : Nat → Int32) (N : Nat) (days years : Int32) : Bool := decide (ruT T N (fk4 days years 0 0) 3 0 ≠ 0)
theorem bI_ne0 (q : Bool) : decide (bI q ≠ 0) = q := by cases q <;> decide
section RULE2
variable {n : Nat} {st : Nat → Nat} {S : SH} {μ : MU} {x b m c L : Nat} {T : Nat → Int32} {N : Nat} {D : DR}
theorem k_isEnough (hL : ShL S L) (hU : LawU μ L T N) (hN : N ≤ 300) (t f s r : Int32) : ∃ μ', f_X3_isEnough (some L) t f s r (mkH n st S μ) = some (bI (enoS T N t f s r), mkH n st S μ') ∧ ∀ a j, ¬ a = L + 4 → ¬ a = L + 5 → μ' a j = μ a j := by
  rcases k_ask (n := n) (st := st) hL hU (i := 1) (by omega) with ⟨h1, h2⟩ | ⟨h1, h2, h3⟩
  · have h1' : f_X3_tells (some L) 1 (mkH n st S μ) = some 0 := h1
    refine ⟨μ, ?_, fun _ _ _ _ => rfl⟩
    simp only [f_X3_isEnough, lck hL, h1', some_bind, if_true, enoS, h2]
    by_cases hf : 0 < f
    · simp [hf, bI]
    · simp [hf, bI]
  · have h1' : f_X3_tells (some L) 1 (mkH n st S μ) = some 1 := h1
    obtain ⟨μ1, hμ1⟩ : ∃ q, q = (up2 (up2 (up2 (up2 μ (L + 4) (0) (t)) (L + 4) (1) (f)) (L + 4) (2) (s)) (L + 4) (3) (r)) := ⟨_, rfl⟩
    obtain ⟨q, μ', g1, g2, g3⟩ := h3 μ1 (fun a j q1 q2 => by rw [hμ1]; simp (disch := omega) only [up2_ne])
    have g1' : f_X3_holds (some L) 1 (mkH n st S μ1) = some (bI q, mkH n st S μ') := g1
    have hc := hU.ru_c hN (i := 1) (by omega) (F := μ1 (L + 4)) (F' := fk4 t f s r) (by
      intro k _ hk
      have hk4 : k < 4 := hk
      rw [hμ1]
      rcases (by omega : k = 0 ∨ k = 1 ∨ k = 2 ∨ k = 3) with rfl | rfl | rfl | rfl
      all_goals simp (disch := omega) only [up2_ne, up2_same]; rfl)
    refine ⟨μ', ?_, fun a j q1 q2 => by rw [g3 a j q2, hμ1]; simp (disch := omega) only [up2_ne]⟩
    have n10 : ¬ (1 : Int32) = 0 := by decide
    rw [enoS, ← hc, g2, bI_ne0]
    simp (disch := omega) only [f_X3_isEnough, lck hL, h1', some_bind, n10, if_false, lR6 hL, lit_sI, lS6 hL]
    rw [← hμ1, g1']
    simp only [some_bind, rZ_bI]
theorem k_recalls (hL : ShL S L) (hU : LawU μ L T N) (hN : N ≤ 300) (t f : Int32) : ∃ μ', f_X3_recalls (some L) t f (mkH n st S μ) = some (bI (recS T N t f), mkH n st S μ') ∧ ∀ a j, ¬ a = L + 4 → ¬ a = L + 5 → μ' a j = μ a j := by
  rcases k_ask (n := n) (st := st) hL hU (i := 2) (by omega) with ⟨h1, h2⟩ | ⟨h1, h2, h3⟩
  · have h1' : f_X3_tells (some L) 2 (mkH n st S μ) = some 0 := h1
    refine ⟨μ, ?_, fun _ _ _ _ => rfl⟩
    simp only [f_X3_recalls, lck hL, h1', some_bind, if_true, recS, h2]
    by_cases hf : f < t + t
    · simp [hf, bI]
    · simp [hf, bI]
  · have h1' : f_X3_tells (some L) 2 (mkH n st S μ) = some 1 := h1
    obtain ⟨μ1, hμ1⟩ : ∃ q, q = (up2 (up2 μ (L + 4) (0) (t)) (L + 4) (1) (f)) := ⟨_, rfl⟩
    obtain ⟨q, μ', g1, g2, g3⟩ := h3 μ1 (fun a j q1 q2 => by rw [hμ1]; simp (disch := omega) only [up2_ne])
    have g1' : f_X3_holds (some L) 2 (mkH n st S μ1) = some (bI q, mkH n st S μ') := g1
    have hc := hU.ru_c hN (i := 2) (by omega) (F := μ1 (L + 4)) (F' := fk4 t f 0 0) (by
      intro k _ hk
      have hk4 : k < 2 := hk
      rw [hμ1]
      rcases (by omega : k = 0 ∨ k = 1) with rfl | rfl
      all_goals simp (disch := omega) only [up2_ne, up2_same]; rfl)
    refine ⟨μ', ?_, fun a j q1 q2 => by rw [g3 a j q2, hμ1]; simp (disch := omega) only [up2_ne]⟩
    have n10 : ¬ (1 : Int32) = 0 := by decide
    rw [recS, ← hc, g2, bI_ne0]
    simp (disch := omega) only [f_X3_recalls, lck hL, h1', some_bind, n10, if_false, lR6 hL, lit_sI, lS6 hL]
    rw [← hμ1, g1']
    simp only [some_bind, rZ_bI]
theorem k_allows (hL : ShL S L) (hU : LawU μ L T N) (hN : N ≤ 300) (t : Int32) : ∃ μ', f_X3_allows (some L) t (mkH n st S μ) = some (bI (mayS T N t (μ L 1)), mkH n st S μ') ∧ ∀ a j, ¬ a = L + 4 → ¬ a = L + 5 → μ' a j = μ a j := by
  obtain ⟨μ1, hμ1⟩ : ∃ q, q = (up2 (up2 μ (L + 4) (0) (t)) (L + 4) (1) (μ L 1)) := ⟨_, rfl⟩
  have hfr : ∀ a j, ¬ a = L + 4 → ¬ a = L + 5 → μ1 a j = μ a j := fun a j q1 q2 => by rw [hμ1]; simp (disch := omega) only [up2_ne]
  have hU1 : LawU μ1 L T N := hU.congr (fun a j q => hfr a j (by omega) (by omega))
  have hx : f_X3_allows (some L) t (mkH n st S μ) = (f_X3_tells (some L) 3 (mkH n st S μ1)).bind fun v6 => if v6 = 0 then some (0, mkH n st S μ1) else (f_X3_holds (some L) 3 (mkH n st S μ1)).bind fun p7 => if p7.1 = 0 then some (0, p7.2) else some (1, p7.2) := by
    rw [hμ1]
    simp (disch := omega) only [f_X3_allows, lck hL, some_bind, lR6 hL, lit_sI, lS6 hL, lI1 hL, up2_ne]
  rw [hx]
  rcases k_ask (n := n) (st := st) hL hU1 (i := 3) (by omega) with ⟨h1, h2⟩ | ⟨h1, h2, h3⟩
  · have h1' : f_X3_tells (some L) 3 (mkH n st S μ1) = some 0 := h1
    refine ⟨μ1, ?_, hfr⟩
    simp only [h1', some_bind, if_true, mayS, h2]
    rfl
  · have h1' : f_X3_tells (some L) 3 (mkH n st S μ1) = some 1 := h1
    obtain ⟨q, μ', g1, g2, g3⟩ := h3 μ1 (fun _ _ _ _ => rfl)
    have g1' : f_X3_holds (some L) 3 (mkH n st S μ1) = some (bI q, mkH n st S μ') := g1
    have hc := hU1.ru_c hN (i := 3) (by omega) (F := μ1 (L + 4)) (F' := fk4 t (μ L 1) 0 0) (by
      intro k _ hk
      have hk4 : k < 2 := hk
      rw [hμ1]
      rcases (by omega : k = 0 ∨ k = 1) with rfl | rfl
      all_goals simp (disch := omega) only [up2_ne, up2_same]; rfl)
    refine ⟨μ', ?_, fun a j q1 q2 => by rw [g3 a j q2, hfr a j q1 q2]⟩
    have n10 : ¬ (1 : Int32) = 0 := by decide
    rw [mayS, ← hc, g2, bI_ne0]
    simp only [h1', some_bind, n10, if_false, g1']
    cases q <;> rfl
def FrH (m : Nat) (μ μ' : MU) : Prop := ∀ a j, ¬ (a = m ∧ 11 ≤ j ∧ j ≤ 18) → ¬ (m + 7 ≤ a ∧ a ≤ m + 9) → μ' a j = μ a j
/-- the reference asks with facts set -/
theorem r_ask (hS : ShM S m) (hm : x ≤ m) (hB : BaseOK st S μ x b) (hD : μ (m + 1) = D) (hI : Inv D) {μc : MU} (hU : LawU μc L (lawT D) (lawN D)) {i : Nat} (hi : i < 5) (wo : Int32) {F' : Nat → Int32} (hF : ∀ k, i < 4 → k < nfS i → μ (m + 7) k = F' k) : ∃ μ', f_X12_ruled (some m) (nI i) wo (mkH n st S μ) = some (ruT (lawT D) (lawN D) F' i wo, mkH n st S μ') ∧ FrG m μ μ' ∧ ∀ j, j < 5 → μ' (m + 8) j = bI (decide (ruT (lawT D) (lawN D) F' j 0 = ruT (lawT D) (lawN D) F' j 1 ∧ ruT (lawT D) (lawN D) F' j 1 = ruT (lawT D) (lawN D) F' j 2)) := by
  obtain ⟨k, z, q1, q2⟩ := hU.ex (μ (m + 7))
  obtain ⟨μ', r1, r2, r3⟩ := r_ruled (n := n) (st := st) hS hm hB hD hI hi wo q1
  refine ⟨μ', ?_, r2, ?_⟩
  · rw [r1, ← q2 i wo, hU.ru_c (law_in hI).2 hi hF]
  · intro j hj
    rw [r3.1 j hj]
    obtain ⟨k', z', p1, p2⟩ := hU.ex F'
    rw [p2, p2, p2]
    obtain ⟨H, h1, -⟩ := hU
    obtain ⟨k1, z1, a1, a2, -⟩ := h1 (μ (m + 7))
    obtain ⟨k2, z2, c1, c2, -⟩ := h1 F'
    rw [q1] at a1
    rw [p1] at c1
    have ez : z = z1 := (Prod.mk.inj (Sum.inr.inj a1)).2
    have ez' : z' = z2 := (Prod.mk.inj (Sum.inr.inj c1)).2
    rw [ez, a2 j hj, ez', ← c2 j hj]
    cases z2 j with
    | none =>
      simp only [Option.isSome_none, Option.getD_none]
      decide
    | some v =>
      simp only [Option.isSome_some, Option.getD_some, and_self, decide_true]
theorem r_isEnough (hS : ShM S m) (hm : x ≤ m) (hB : BaseOK st S μ x b) (hD : μ (m + 1) = D) (hI : Inv D) {μc : MU} (hU : LawU μc L (lawT D) (lawN D)) (t f s r : Int32) : ∃ μ', f_X12_isEnough (some m) t f s r (mkH n st S μ) = some (bI (enoS (lawT D) (lawN D) t f s r), mkH n st S μ') ∧ FrH m μ μ' := by
  obtain ⟨μ1, hμ1⟩ : ∃ q, q = (up2 (up2 (up2 (up2 μ (m + 7) (0) (t)) (m + 7) (1) (f)) (m + 7) (2) (s)) (m + 7) (3) (r)) := ⟨_, rfl⟩
  have hfr : ∀ a j, ¬ a = m + 7 → μ1 a j = μ a j := fun a j q1 => by rw [hμ1]; simp (disch := omega) only [up2_ne]
  obtain ⟨μ', r1, r2, -⟩ := r_ask (n := n) (st := st) (x := x) (b := b) hS hm (hB.congr (fun _ _ => rfl) (fun a j q => hfr a j (by omega))) (show μ1 (m + 1) = D by funext q; rw [hfr _ _ (by omega), hD]) hI hU (i := 1) (by omega) (if 0 < f then 1 else 0) (F' := fk4 t f s r) (by
      intro k _ hk
      have hk4 : k < 4 := hk
      rw [hμ1]
      rcases (by omega : k = 0 ∨ k = 1 ∨ k = 2 ∨ k = 3) with rfl | rfl | rfl | rfl
      all_goals simp (disch := omega) only [up2_ne, up2_same]; rfl)
  have r1' : f_X12_ruled (some m) 1 (if 0 < f then 1 else 0) (mkH n st S μ1) = some (ruT (lawT D) (lawN D) (fk4 t f s r) 1 (if 0 < f then 1 else 0), mkH n st S μ') := r1
  refine ⟨μ', ?_, fun a j q1 q2 => by rw [r2 a j q1 (by omega) (by omega), hfr a j (by omega)]⟩
  have h40 : b_X12_isEnough_40 (some m) 1 (if 0 < f then 1 else 0) (mkH n st S μ1) = some (bI (enoS (lawT D) (lawN D) t f s r), mkH n st S μ') := by
    simp only [b_X12_isEnough_40, rck hS, r1', some_bind, enoS]
    by_cases h0 : ruT (lawT D) (lawN D) (fk4 t f s r) 1 (if 0 < f then 1 else 0) = 0
    · rw [if_pos h0]; simp [h0, bI]
    · rw [if_neg h0]; simp [h0, bI]
  rw [← h40, hμ1]
  simp (disch := omega) only [f_X12_isEnough, mR8 hS, some_bind, lit_sI, mS8 hS]
  by_cases hf : 0 < f
  · rw [if_pos hf, if_pos hf]
  · rw [if_neg hf, if_neg hf]
/-- scratch of both, when a law was asked -/
theorem R.ask (hR : R n st S μ x b) {μ' : MU} {l : Nat} (hl : l < 5) (hf : ∀ a j, ¬ (a = x + 1 + 118 + 6 * l + 4) → ¬ (a = x + 1 + 118 + 6 * l + 5) → ¬ (a = x + 175 ∧ 11 ≤ j ∧ j ≤ 18) → ¬ (x + 175 + 7 ≤ a ∧ a ≤ x + 175 + 9) → μ' a j = μ a j) : R n st S μ' x b := by
  refine hR.congr fun a j h => ?_
  unfold scr at h
  exact hf a j (by omega) (by omega) (by omega) (by omega)
theorem op_law (hR : R n st S μ x b) (a1 : Int32) : Res (fun h => (f_X11_law (some x) a1 h).bind fun v => some (v, h)) (f_X12_law (some (x + 175)) a1) n st S μ x b := by
  have hR' := hR
  obtain ⟨⟨hX, hS, hs, hI, hL0⟩, hRest⟩ := hR
  have hC := hX.city
  have hBase := hRest.2.2.2.1
  obtain ⟨D, hD⟩ : ∃ D, μ (x + 175 + 1) = D := ⟨_, rfl⟩
  replace hs : Sim μ (x + 1) (μ (x + 175 + 1)) := hs
  replace hI : Inv (μ (x + 175 + 1)) := hI
  rw [hD] at hs hI
  obtain ⟨e0, b0⟩ := hI.today
  obtain ⟨e1, b1⟩ := hI.wards
  obtain ⟨e2, b2⟩ := hI.men
  obtain ⟨e3, b3⟩ := hI.words
  obtain ⟨e4, b4⟩ := hI.bars
  obtain ⟨e5, b5⟩ := hI.shes
  obtain ⟨e6, b6⟩ := hI.wets
  obtain ⟨e8, b8⟩ := hI.heaped
  have z0 := hs.today
  have z1 := hs.wardN
  have z2 := hs.manN
  have z3 := hs.wordN
  have z4 := hs.barN
  have z5 := hs.sheN
  have z6 := hs.wetN
  have z8 := hs.heapN
  have hU := lawU_now hs hI hL0
  have hLw := hC.law (lawA D) (lawA_lt hI)
  have hlN := k_lawNow (n := n) (st := st) hC hs hI
  by_cases c1 : inS a1 0 4 = true
  case neg =>
    have h0 : ¬ a1 = 0 := fun h => by rw [h] at c1; exact c1 (by decide)
    have c2 : ¬ inS a1 1 4 = true := by
      intro h
      apply c1
      simp only [inS, decide_eq_true_eq] at h ⊢
      refine ⟨fun q => h.1 ?_, h.2⟩
      rw [i32_lt] at q ⊢
      rw [i32_0] at q
      have : (1 : Int32).toInt = 1 := by decide
      omega
    exact Res.same hR' (-1) (by simp only [f_X11_law, h0, if_false, k_within, c2, some_bind, ite_bI0, Bool.false_eq_true]) (by simp only [f_X12_law, s_in, c1, some_bind, ite_bI0, if_false, Bool.false_eq_true])
  obtain ⟨i, hi, rfl⟩ := inS_n (M := 4) (by omega) c1
  obtain ⟨μ', r1, r2, r3⟩ := r_ask (n := n) (st := st) (x := x) (b := b) (μ := μ) hS (by omega) hBase hD hI hU (i := 4) (by omega) 10 (F' := fun _ => 0) (by intro k h; omega)
  have r1' : f_X12_ruled (some (x + 175)) 4 10 (mkH n st S μ) = some (ruT (lawT D) (lawN D) (fun _ => 0) 4 10, mkH n st S μ') := r1
  rw [hU.years] at r1'
  have hRR : R n st S μ' x b := hR'.ask (l := 0) (by omega) (fun a j _ _ q1 q2 => r2 a j q1 (by omega) (by omega))
  by_cases h0 : i = 0
  · subst h0
    have hz : nI 0 = (0 : Int32) := rfl
    refine ⟨μ (x + 1 + 118 + 6 * lawA D) 1, mkH n st S μ, n, S, μ', ?_, ?_, hRR⟩
    · simp only [f_X11_law, hz, if_true, xR0 hX, some_bind, cck hC, hlN, lI1 hLw]
    · have c0 : inS 0 0 4 = true := by decide
      simp only [f_X12_law, s_in, hz, c0, some_bind, ite_bI0, if_true, rck hS, f_X12_years, r1']
  · have h0' : ¬ nI i = (0 : Int32) := fun h => h0 ((nI_eq (a := i) (b := 0) (by omega) (by omega)).mp h)
    obtain ⟨j, rfl⟩ : ∃ j, i = j + 1 := ⟨i - 1, by omega⟩
    have c2 : inS (nI (j + 1)) 1 4 = true := by
      simp only [inS, decide_eq_true_eq] at c1 ⊢
      refine ⟨fun q => ?_, c1.2⟩
      rw [lit_lt (by omega) (by decide)] at q
      have : j + 1 < 1 := q
      omega
    have e1 : nI (j + 1) - 1 = nI j := nI_m1 j
    have h8 := r3 j (by omega)
    rcases k_ask (n := n) (st := st) hLw hU (i := j) (by omega) with ⟨h1, h2⟩ | ⟨h1, h2, -⟩
    · have : (decide (ruT (lawT D) (lawN D) (fun _ => 0) j 0 = ruT (lawT D) (lawN D) (fun _ => 0) j 1 ∧ ruT (lawT D) (lawN D) (fun _ => 0) j 1 = ruT (lawT D) (lawN D) (fun _ => 0) j 2)) = false := by
        simp [h2]
      rw [this] at h8
      refine ⟨0, mkH n st S μ, n, S, μ', ?_, ?_, hRR⟩
      · simp only [f_X11_law, h0', if_false, k_within, c2, some_bind, ite_bI0, if_true, xR0 hX, cck hC, hlN, lck hLw, e1, h1]
        rfl
      · simp (disch := omega) only [f_X12_law, s_in, c1, some_bind, ite_bI0, if_true, rck hS, f_X12_years, r1', h0', if_false, mR9 hS, e1, mA9 hS, h8, Bool.false_eq_true]
    · have : (decide (ruT (lawT D) (lawN D) (fun _ => 0) j 0 = ruT (lawT D) (lawN D) (fun _ => 0) j 1 ∧ ruT (lawT D) (lawN D) (fun _ => 0) j 1 = ruT (lawT D) (lawN D) (fun _ => 0) j 2)) = true := decide_eq_true ⟨h2 _ _ _, h2 _ _ _⟩
      rw [this] at h8
      refine ⟨1, mkH n st S μ, n, S, μ', ?_, ?_, hRR⟩
      · simp only [f_X11_law, h0', if_false, k_within, c2, some_bind, ite_bI0, if_true, xR0 hX, cck hC, hlN, lck hLw, e1, h1]
        rfl
      · simp (disch := omega) only [f_X12_law, s_in, c1, some_bind, ite_bI0, if_true, rck hS, f_X12_years, r1', h0', if_false, mR9 hS, e1, mA9 hS, h8]
theorem op_recall (hR : R n st S μ x b) (a1 a2 a3 : Int32) : Res (f_X11_recall (some x) a1 a2 a3) (f_X12_recall (some (x + 175)) a1 a2 a3) n st S μ x b := by
  have hR' := hR
  obtain ⟨⟨hX, hS, hs, hI, hL0⟩, hRest⟩ := hR
  have hC := hX.city
  have hBase := hRest.2.2.2.1
  obtain ⟨D, hD⟩ : ∃ D, μ (x + 175 + 1) = D := ⟨_, rfl⟩
  replace hs : Sim μ (x + 1) (μ (x + 175 + 1)) := hs
  replace hI : Inv (μ (x + 175 + 1)) := hI
  rw [hD] at hs hI
  obtain ⟨e0, b0⟩ := hI.today
  obtain ⟨e1, b1⟩ := hI.wards
  obtain ⟨e2, b2⟩ := hI.men
  obtain ⟨e3, b3⟩ := hI.words
  obtain ⟨e4, b4⟩ := hI.bars
  obtain ⟨e5, b5⟩ := hI.shes
  obtain ⟨e6, b6⟩ := hI.wets
  obtain ⟨e8, b8⟩ := hI.heaped
  have z0 := hs.today
  have z1 := hs.wardN
  have z2 := hs.manN
  have z3 := hs.wordN
  have z4 := hs.barN
  have z5 := hs.sheN
  have z6 := hs.wetN
  have z8 := hs.heapN
  have hU := lawU_now hs hI hL0
  have hLw := hC.law (lawA D) (lawA_lt hI)
  have hlA := lawA_lt hI
  have hlN := k_lawNow (n := n) (st := st) hC hs hI
  by_cases c1 : ixB a1 (nD D 2) = true
  case neg => exact Res.same hR' (-1) (by simp (disch := omega) only [some_bind, ite_bI0, lit_add, lit_addr, lit_mul, lit_aI, lit_aZ, lit_aR, lit_sI, lit_sZ, nI_add, pk_mul, nn_lt, up2_same, up2_ne, ↓reduceIte, natT, natF, natE, natN, Nat.reduceAdd, Nat.reduceMul, Option.bind_some, if_true, if_false, Bool.false_eq_true, xR0 hX, xR2 hX, xR3 hX, xR4 hX, xR5 hX, xR7 hX, xR8 hX, xR10 hX, xR11 hX, xR12 hX, xR13 hX, xR14 hX, xR15 hX, xR16 hX, xI6 hX, xP6 hX, xI9 hX, xP9 hX, xck hX, xATap hX, xSTap hX, xAWai hX, xSWai hX, xALea hX, xSLea hX, xAMos hX, xSMos hX, xAGat hX, xSGat hX, xAThr hX, xSThr hX, xATra hX, xSTra hX, xACas hX, xSCas hX, xARMa hX, xSRMa hX, xARCl hX, xSRCl hX, xASWh hX, xSSWh hX, xASNu hX, xSSNu hX, xAPOf hX, xSPOf hX, xAPMe hX, xSPMe hX, xAAli hX, xSAli hX, rdR0 hX, rdI1 hX, rdP1 hX, rdR2 hX, rdI3 hX, rdP3 hX, rdI4 hX, rdP4 hX, rdI5 hX, rdP5 hX, rdI6 hX, rdP6 hX, rdI7 hX, rdP7 hX, rdZ7_0 hX, rdZ7_1 hX, rdI8 hX, rdP8 hX, rdI9 hX, rdP9 hX, rdI10 hX, rdP10 hX, rdR11 hX, rdI12 hX, rdP12 hX, rdck hX, poI0 hX, poP0 hX, poI1 hX, poP1 hX, poR2 hX, poR3 hX, poR4 hX, poR5 hX, pock hX, acI0 hX, acP0 hX, acI1 hX, acP1 hX, acI2 hX, acP2 hX, acR3 hX, acI4 hX, acP4 hX, acI5 hX, acP5 hX, acZ5_0 hX, acZ5_1 hX, acck hX, cI0 hX.city, cP0 hX.city, cR1 hX.city, cI2 hX.city, cP2 hX.city, cR3 hX.city, cI4 hX.city, cP4 hX.city, cR5 hX.city, cI6 hX.city, cP6 hX.city, cR7 hX.city, cI8 hX.city, cP8 hX.city, cR9 hX.city, cI10 hX.city, cP10 hX.city, cR11 hX.city, cI12 hX.city, cP12 hX.city, cR13 hX.city, cI14 hX.city, cP14 hX.city, cR15 hX.city, cR16 hX.city, cR17 hX.city, cI18 hX.city, cP18 hX.city, cR19 hX.city, cck hX.city, cAWet hX.city, cSWet hX.city, cARul hX.city, cSRul hX.city, cAHea hX.city, cSHea hX.city, cALin hX.city, cSLin hX.city, cATal hX.city, cSTal hX.city, cEwards hX.city, cEmen hX.city, cEwords hX.city, cEbargains hX.city, cEsherds hX.city, cElaws hX.city, cEtallies hX.city, oWardI hX.city, oWardP hX.city, oWardZ0 hX.city, oWardZ1 hX.city, oWardK hX.city, oBarI hX.city, oBarP hX.city, oBarZ0 hX.city, oBarZ1 hX.city, oBarK hX.city, oSheI hX.city, oSheP hX.city, oSheZ0 hX.city, oSheZ1 hX.city, oSheK hX.city, oManI hX.city, oManP hX.city, oManZ0 hX.city, oManZ1 hX.city, oManK hX.city, oManR hX.city, oManA hX.city, oManS hX.city, oWordI hX.city, oWordP hX.city, oWordZ0 hX.city, oWordZ1 hX.city, oWordK hX.city, oWordR hX.city, oWordA hX.city, oWordS hX.city, f_X11_recall, k_within, k_isDay, k_isClub, k_isName, k_hasMan hC hs hI, k_hasWard hC hs hI, k_hasSherd hC hs hI, k_hasBargain hC hs hI, k_areTwoMen hC hs hI, k_isWet hC hs hI, z0, z1, z2, z3, z4, z5, z6, z8, e0, e1, e2, e3, e4, e5, e6, e8, lit_lt, lit_eq, if_true, if_false, ite_self, Bool.true_and, Bool.and_true, decide_true, decide_false, Bool.false_eq_true, Bool.false_and, Bool.and_false,  c1]) (by simp (disch := omega) only [some_bind, ite_bI0, lit_add, lit_addr, lit_mul, lit_aI, lit_aZ, lit_aR, lit_sI, lit_sZ, nI_add, pk_mul, nn_lt, up2_same, up2_ne, ↓reduceIte, natT, natF, natE, natN, Nat.reduceAdd, Nat.reduceMul, Option.bind_some, if_true, if_false, Bool.false_eq_true, mR0 hS, mA0 hS, mS0 hS, mR1 hS, mA1 hS, mS1 hS, mI2 hS, mP2 hS, mZ2_0 hS, mZ2_1 hS, mR3 hS, mA3 hS, mS3 hS, mI4 hS, mP4 hS, mR5 hS, mA5 hS, mS5 hS, mR6 hS, mA6 hS, mS6 hS, mR7 hS, mA7 hS, mS7 hS, mR8 hS, mA8 hS, mS8 hS, mR9 hS, mA9 hS, mS9 hS, mR10 hS, mA10 hS, mS10 hS, mI11 hS, mP11 hS, mI12 hS, mP12 hS, mI13 hS, mP13 hS, mI14 hS, mP14 hS, mI15 hS, mP15 hS, mI16 hS, mP16 hS, mI17 hS, mP17 hS, mI18 hS, mP18 hS, mR19 hS, mA19 hS, mS19 hS, mR20 hS, mA20 hS, mS20 hS, mR21 hS, mA21 hS, mS21 hS, mI22 hS, mP22 hS, mI23 hS, mP23 hS, mI24 hS, mP24 hS, mI25 hS, mP25 hS, mI26 hS, mP26 hS, mR27 hS, mA27 hS, mS27 hS, mR28 hS, mA28 hS, mS28 hS, mI29 hS, mP29 hS, mR30 hS, mA30 hS, mS30 hS, mR31 hS, mA31 hS, mS31 hS, mR32 hS, mA32 hS, mS32 hS, mR33 hS, mA33 hS, mS33 hS, mR34 hS, mA34 hS, mS34 hS, mR35 hS, mA35 hS, mS35 hS, mR36 hS, mA36 hS, mS36 hS, mR37 hS, mA37 hS, mS37 hS, mI38 hS, mP38 hS, mI39 hS, mP39 hS, mI40 hS, mP40 hS, mI41 hS, mP41 hS, mI42 hS, mP42 hS, mZ42_0 hS, mZ42_1 hS, rck hS, f_X12_recall, s_in, s_isDay, s_isClub, r_isName, e0, e1, e2, e3, e4, e5, e6, e8, lit_lt, lit_eq, if_true, if_false, ite_self, hD, hD, r_isMan hS hD hI, r_isWard hS hD hI, r_isSherd hS hD hI, r_isWet hS hD hI, Bool.false_eq_true,  c1])
  by_cases c2 : inS a3 0 9999 = true
  case neg => exact Res.same hR' (-1) (by simp (disch := omega) only [some_bind, ite_bI0, lit_add, lit_addr, lit_mul, lit_aI, lit_aZ, lit_aR, lit_sI, lit_sZ, nI_add, pk_mul, nn_lt, up2_same, up2_ne, ↓reduceIte, natT, natF, natE, natN, Nat.reduceAdd, Nat.reduceMul, Option.bind_some, if_true, if_false, Bool.false_eq_true, xR0 hX, xR2 hX, xR3 hX, xR4 hX, xR5 hX, xR7 hX, xR8 hX, xR10 hX, xR11 hX, xR12 hX, xR13 hX, xR14 hX, xR15 hX, xR16 hX, xI6 hX, xP6 hX, xI9 hX, xP9 hX, xck hX, xATap hX, xSTap hX, xAWai hX, xSWai hX, xALea hX, xSLea hX, xAMos hX, xSMos hX, xAGat hX, xSGat hX, xAThr hX, xSThr hX, xATra hX, xSTra hX, xACas hX, xSCas hX, xARMa hX, xSRMa hX, xARCl hX, xSRCl hX, xASWh hX, xSSWh hX, xASNu hX, xSSNu hX, xAPOf hX, xSPOf hX, xAPMe hX, xSPMe hX, xAAli hX, xSAli hX, rdR0 hX, rdI1 hX, rdP1 hX, rdR2 hX, rdI3 hX, rdP3 hX, rdI4 hX, rdP4 hX, rdI5 hX, rdP5 hX, rdI6 hX, rdP6 hX, rdI7 hX, rdP7 hX, rdZ7_0 hX, rdZ7_1 hX, rdI8 hX, rdP8 hX, rdI9 hX, rdP9 hX, rdI10 hX, rdP10 hX, rdR11 hX, rdI12 hX, rdP12 hX, rdck hX, poI0 hX, poP0 hX, poI1 hX, poP1 hX, poR2 hX, poR3 hX, poR4 hX, poR5 hX, pock hX, acI0 hX, acP0 hX, acI1 hX, acP1 hX, acI2 hX, acP2 hX, acR3 hX, acI4 hX, acP4 hX, acI5 hX, acP5 hX, acZ5_0 hX, acZ5_1 hX, acck hX, cI0 hX.city, cP0 hX.city, cR1 hX.city, cI2 hX.city, cP2 hX.city, cR3 hX.city, cI4 hX.city, cP4 hX.city, cR5 hX.city, cI6 hX.city, cP6 hX.city, cR7 hX.city, cI8 hX.city, cP8 hX.city, cR9 hX.city, cI10 hX.city, cP10 hX.city, cR11 hX.city, cI12 hX.city, cP12 hX.city, cR13 hX.city, cI14 hX.city, cP14 hX.city, cR15 hX.city, cR16 hX.city, cR17 hX.city, cI18 hX.city, cP18 hX.city, cR19 hX.city, cck hX.city, cAWet hX.city, cSWet hX.city, cARul hX.city, cSRul hX.city, cAHea hX.city, cSHea hX.city, cALin hX.city, cSLin hX.city, cATal hX.city, cSTal hX.city, cEwards hX.city, cEmen hX.city, cEwords hX.city, cEbargains hX.city, cEsherds hX.city, cElaws hX.city, cEtallies hX.city, oWardI hX.city, oWardP hX.city, oWardZ0 hX.city, oWardZ1 hX.city, oWardK hX.city, oBarI hX.city, oBarP hX.city, oBarZ0 hX.city, oBarZ1 hX.city, oBarK hX.city, oSheI hX.city, oSheP hX.city, oSheZ0 hX.city, oSheZ1 hX.city, oSheK hX.city, oManI hX.city, oManP hX.city, oManZ0 hX.city, oManZ1 hX.city, oManK hX.city, oManR hX.city, oManA hX.city, oManS hX.city, oWordI hX.city, oWordP hX.city, oWordZ0 hX.city, oWordZ1 hX.city, oWordK hX.city, oWordR hX.city, oWordA hX.city, oWordS hX.city, f_X11_recall, k_within, k_isDay, k_isClub, k_isName, k_hasMan hC hs hI, k_hasWard hC hs hI, k_hasSherd hC hs hI, k_hasBargain hC hs hI, k_areTwoMen hC hs hI, k_isWet hC hs hI, z0, z1, z2, z3, z4, z5, z6, z8, e0, e1, e2, e3, e4, e5, e6, e8, lit_lt, lit_eq, if_true, if_false, ite_self, Bool.true_and, Bool.and_true, decide_true, decide_false, Bool.false_eq_true, Bool.false_and, Bool.and_false,  c1, c2]) (by simp (disch := omega) only [some_bind, ite_bI0, lit_add, lit_addr, lit_mul, lit_aI, lit_aZ, lit_aR, lit_sI, lit_sZ, nI_add, pk_mul, nn_lt, up2_same, up2_ne, ↓reduceIte, natT, natF, natE, natN, Nat.reduceAdd, Nat.reduceMul, Option.bind_some, if_true, if_false, Bool.false_eq_true, mR0 hS, mA0 hS, mS0 hS, mR1 hS, mA1 hS, mS1 hS, mI2 hS, mP2 hS, mZ2_0 hS, mZ2_1 hS, mR3 hS, mA3 hS, mS3 hS, mI4 hS, mP4 hS, mR5 hS, mA5 hS, mS5 hS, mR6 hS, mA6 hS, mS6 hS, mR7 hS, mA7 hS, mS7 hS, mR8 hS, mA8 hS, mS8 hS, mR9 hS, mA9 hS, mS9 hS, mR10 hS, mA10 hS, mS10 hS, mI11 hS, mP11 hS, mI12 hS, mP12 hS, mI13 hS, mP13 hS, mI14 hS, mP14 hS, mI15 hS, mP15 hS, mI16 hS, mP16 hS, mI17 hS, mP17 hS, mI18 hS, mP18 hS, mR19 hS, mA19 hS, mS19 hS, mR20 hS, mA20 hS, mS20 hS, mR21 hS, mA21 hS, mS21 hS, mI22 hS, mP22 hS, mI23 hS, mP23 hS, mI24 hS, mP24 hS, mI25 hS, mP25 hS, mI26 hS, mP26 hS, mR27 hS, mA27 hS, mS27 hS, mR28 hS, mA28 hS, mS28 hS, mI29 hS, mP29 hS, mR30 hS, mA30 hS, mS30 hS, mR31 hS, mA31 hS, mS31 hS, mR32 hS, mA32 hS, mS32 hS, mR33 hS, mA33 hS, mS33 hS, mR34 hS, mA34 hS, mS34 hS, mR35 hS, mA35 hS, mS35 hS, mR36 hS, mA36 hS, mS36 hS, mR37 hS, mA37 hS, mS37 hS, mI38 hS, mP38 hS, mI39 hS, mP39 hS, mI40 hS, mP40 hS, mI41 hS, mP41 hS, mI42 hS, mP42 hS, mZ42_0 hS, mZ42_1 hS, rck hS, f_X12_recall, s_in, s_isDay, s_isClub, r_isName, e0, e1, e2, e3, e4, e5, e6, e8, lit_lt, lit_eq, if_true, if_false, ite_self, hD, hD, r_isMan hS hD hI, r_isWard hS hD hI, r_isSherd hS hD hI, r_isWet hS hD hI, Bool.false_eq_true,  c1, c2])
  by_cases c3 : inS a2 0 a3 = true
  case neg => exact Res.same hR' (-1) (by simp (disch := omega) only [some_bind, ite_bI0, lit_add, lit_addr, lit_mul, lit_aI, lit_aZ, lit_aR, lit_sI, lit_sZ, nI_add, pk_mul, nn_lt, up2_same, up2_ne, ↓reduceIte, natT, natF, natE, natN, Nat.reduceAdd, Nat.reduceMul, Option.bind_some, if_true, if_false, Bool.false_eq_true, xR0 hX, xR2 hX, xR3 hX, xR4 hX, xR5 hX, xR7 hX, xR8 hX, xR10 hX, xR11 hX, xR12 hX, xR13 hX, xR14 hX, xR15 hX, xR16 hX, xI6 hX, xP6 hX, xI9 hX, xP9 hX, xck hX, xATap hX, xSTap hX, xAWai hX, xSWai hX, xALea hX, xSLea hX, xAMos hX, xSMos hX, xAGat hX, xSGat hX, xAThr hX, xSThr hX, xATra hX, xSTra hX, xACas hX, xSCas hX, xARMa hX, xSRMa hX, xARCl hX, xSRCl hX, xASWh hX, xSSWh hX, xASNu hX, xSSNu hX, xAPOf hX, xSPOf hX, xAPMe hX, xSPMe hX, xAAli hX, xSAli hX, rdR0 hX, rdI1 hX, rdP1 hX, rdR2 hX, rdI3 hX, rdP3 hX, rdI4 hX, rdP4 hX, rdI5 hX, rdP5 hX, rdI6 hX, rdP6 hX, rdI7 hX, rdP7 hX, rdZ7_0 hX, rdZ7_1 hX, rdI8 hX, rdP8 hX, rdI9 hX, rdP9 hX, rdI10 hX, rdP10 hX, rdR11 hX, rdI12 hX, rdP12 hX, rdck hX, poI0 hX, poP0 hX, poI1 hX, poP1 hX, poR2 hX, poR3 hX, poR4 hX, poR5 hX, pock hX, acI0 hX, acP0 hX, acI1 hX, acP1 hX, acI2 hX, acP2 hX, acR3 hX, acI4 hX, acP4 hX, acI5 hX, acP5 hX, acZ5_0 hX, acZ5_1 hX, acck hX, cI0 hX.city, cP0 hX.city, cR1 hX.city, cI2 hX.city, cP2 hX.city, cR3 hX.city, cI4 hX.city, cP4 hX.city, cR5 hX.city, cI6 hX.city, cP6 hX.city, cR7 hX.city, cI8 hX.city, cP8 hX.city, cR9 hX.city, cI10 hX.city, cP10 hX.city, cR11 hX.city, cI12 hX.city, cP12 hX.city, cR13 hX.city, cI14 hX.city, cP14 hX.city, cR15 hX.city, cR16 hX.city, cR17 hX.city, cI18 hX.city, cP18 hX.city, cR19 hX.city, cck hX.city, cAWet hX.city, cSWet hX.city, cARul hX.city, cSRul hX.city, cAHea hX.city, cSHea hX.city, cALin hX.city, cSLin hX.city, cATal hX.city, cSTal hX.city, cEwards hX.city, cEmen hX.city, cEwords hX.city, cEbargains hX.city, cEsherds hX.city, cElaws hX.city, cEtallies hX.city, oWardI hX.city, oWardP hX.city, oWardZ0 hX.city, oWardZ1 hX.city, oWardK hX.city, oBarI hX.city, oBarP hX.city, oBarZ0 hX.city, oBarZ1 hX.city, oBarK hX.city, oSheI hX.city, oSheP hX.city, oSheZ0 hX.city, oSheZ1 hX.city, oSheK hX.city, oManI hX.city, oManP hX.city, oManZ0 hX.city, oManZ1 hX.city, oManK hX.city, oManR hX.city, oManA hX.city, oManS hX.city, oWordI hX.city, oWordP hX.city, oWordZ0 hX.city, oWordZ1 hX.city, oWordK hX.city, oWordR hX.city, oWordA hX.city, oWordS hX.city, f_X11_recall, k_within, k_isDay, k_isClub, k_isName, k_hasMan hC hs hI, k_hasWard hC hs hI, k_hasSherd hC hs hI, k_hasBargain hC hs hI, k_areTwoMen hC hs hI, k_isWet hC hs hI, z0, z1, z2, z3, z4, z5, z6, z8, e0, e1, e2, e3, e4, e5, e6, e8, lit_lt, lit_eq, if_true, if_false, ite_self, Bool.true_and, Bool.and_true, decide_true, decide_false, Bool.false_eq_true, Bool.false_and, Bool.and_false,  c1, c2, c3]) (by simp (disch := omega) only [some_bind, ite_bI0, lit_add, lit_addr, lit_mul, lit_aI, lit_aZ, lit_aR, lit_sI, lit_sZ, nI_add, pk_mul, nn_lt, up2_same, up2_ne, ↓reduceIte, natT, natF, natE, natN, Nat.reduceAdd, Nat.reduceMul, Option.bind_some, if_true, if_false, Bool.false_eq_true, mR0 hS, mA0 hS, mS0 hS, mR1 hS, mA1 hS, mS1 hS, mI2 hS, mP2 hS, mZ2_0 hS, mZ2_1 hS, mR3 hS, mA3 hS, mS3 hS, mI4 hS, mP4 hS, mR5 hS, mA5 hS, mS5 hS, mR6 hS, mA6 hS, mS6 hS, mR7 hS, mA7 hS, mS7 hS, mR8 hS, mA8 hS, mS8 hS, mR9 hS, mA9 hS, mS9 hS, mR10 hS, mA10 hS, mS10 hS, mI11 hS, mP11 hS, mI12 hS, mP12 hS, mI13 hS, mP13 hS, mI14 hS, mP14 hS, mI15 hS, mP15 hS, mI16 hS, mP16 hS, mI17 hS, mP17 hS, mI18 hS, mP18 hS, mR19 hS, mA19 hS, mS19 hS, mR20 hS, mA20 hS, mS20 hS, mR21 hS, mA21 hS, mS21 hS, mI22 hS, mP22 hS, mI23 hS, mP23 hS, mI24 hS, mP24 hS, mI25 hS, mP25 hS, mI26 hS, mP26 hS, mR27 hS, mA27 hS, mS27 hS, mR28 hS, mA28 hS, mS28 hS, mI29 hS, mP29 hS, mR30 hS, mA30 hS, mS30 hS, mR31 hS, mA31 hS, mS31 hS, mR32 hS, mA32 hS, mS32 hS, mR33 hS, mA33 hS, mS33 hS, mR34 hS, mA34 hS, mS34 hS, mR35 hS, mA35 hS, mS35 hS, mR36 hS, mA36 hS, mS36 hS, mR37 hS, mA37 hS, mS37 hS, mI38 hS, mP38 hS, mI39 hS, mP39 hS, mI40 hS, mP40 hS, mI41 hS, mP41 hS, mI42 hS, mP42 hS, mZ42_0 hS, mZ42_1 hS, rck hS, f_X12_recall, s_in, s_isDay, s_isClub, r_isName, e0, e1, e2, e3, e4, e5, e6, e8, lit_lt, lit_eq, if_true, if_false, ite_self, hD, hD, r_isMan hS hD hI, r_isWard hS hD hI, r_isSherd hS hD hI, r_isWet hS hD hI, Bool.false_eq_true,  c1, c2, c3])
  obtain ⟨i, hi, rfl⟩ := ixB_ex (by omega) c1
  have n1 := n1_ne (show i < 2 ^ 31 by omega)
  have kS := k_isSent (n := n) (st := st) hC hs hI hi (D 0) (-1)
  have rS := fun (μ1 : MU) (h : μ1 (x + 175 + 1) = D) => r_isSent (n := n) (st := st) hS h (i := i) (by omega) (D 0)
  rw [show (decide (nI i = (-1 : Int32)) || sntB D i (D 0)) = sntB D i (D 0) by simp [n1]] at kS
  have fx0 : f_X11_recall (some x) (nI i) a2 a3 (mkH n st S μ) = if sntB D i (D 0) = true then ((f_X3_recalls (some (x + 1 + 118 + 6 * lawA D)) a2 a3 (mkH n st S μ)).bind fun p11 => if p11.1 = 0 then some (0, p11.2) else (gR 11 0 p11.2 (some x)).bind fun v12 => (gR 2 5 p11.2 v12).bind fun v13 => (aR p11.2 v13 (nI i)).bind fun v14 => (gR 11 0 p11.2 (some x)).bind fun v15 => (gI 2 0 p11.2 v15).bind fun v16 => (pI 5 7 p11.2 v14 (v16 - 1)).bind fun h17 => (gR 11 0 h17 (some x)).bind fun v18 => (gR 2 5 h17 v18).bind fun v19 => (aR h17 v19 (nI i)).bind fun v20 => (pZ 5 8 h17 v20 1).bind fun h21 => some (1, h21)) else some (-4, mkH n st S μ) := by
    simp only [f_X11_recall, xR0 hX, some_bind, cck hC, k_hasMan hC hs hI, c1, ite_bI0, if_true, k_within, c2, c3, cI0 hC, z0, kS, hlN, lck hLw]
  have fm0 : ∀ μ1 : MU, μ1 (x + 175 + 1) = D → f_X12_recall (some (x + 175)) (nI i) a2 a3 (mkH n st S μ1) = if sntB D i (D 0) = true then b_X12_recall_75 (some (x + 175)) (nI i) (some (x + 175)) 2 (if a3 < a2 + a2 then 1 else 0) (mkH n st S (up2 (up2 μ1 (x + 175 + 7) (0) (a2)) (x + 175 + 7) (1) (a3))) else some (-4, mkH n st S μ1) := by
    intro μ1 h
    simp (disch := omega) only [f_X12_recall, rck hS, some_bind, r_isMan hS h hI, c1, ite_bI0, if_true, s_in, c2, c3, mR0 hS, lit_aI, mA0 hS, h, rS μ1 h, mR8 hS, lit_sI, mS8 hS]
    by_cases hh : a3 < a2 + a2
    · simp only [hh, if_true]
    · simp only [hh, if_false]
  by_cases hsn : sntB D i (D 0) = true
  case neg => exact Res.same hR' (-4) (by rw [fx0, if_neg hsn]) (by rw [fm0 μ hD, if_neg hsn])
  rw [if_pos hsn] at fx0
  obtain ⟨μ1, k1, k2⟩ := k_recalls (n := n) (st := st) hLw hU (law_in hI).2 a2 a3
  rw [k1, some_bind] at fx0
  have rk : ∀ μA : MU, (∀ a j, x + 175 ≤ a → μA a j = μ a j) → (∀ a j, a < x → μA a j = μ a j) → ∃ μ2, b_X12_recall_75 (some (x + 175)) (nI i) (some (x + 175)) 2 (if a3 < a2 + a2 then 1 else 0) (mkH n st S (up2 (up2 μA (x + 175 + 7) (0) (a2)) (x + 175 + 7) (1) (a3))) = (if recS (lawT D) (lawN D) a2 a3 = true then some (1, mkH n st S ((up2 (up2 μ2 (x + 175 + 1) (187 + i) (D 0 - 1)) (x + 175 + 1) (203 + i) (1)))) else some (0, mkH n st S μ2)) ∧ FrH (x + 175) μA μ2 := by
    intro μA hA hA0
    obtain ⟨μB, hμB⟩ : ∃ q, q = (up2 (up2 μA (x + 175 + 7) (0) (a2)) (x + 175 + 7) (1) (a3)) := ⟨_, rfl⟩
    have hfr : ∀ a j, ¬ a = x + 175 + 7 → μB a j = μA a j := fun a j q1 => by rw [hμB]; simp (disch := omega) only [up2_ne]
    have hDB : μB (x + 175 + 1) = D := by funext q; rw [hfr _ _ (by omega), hA _ _ (by omega), hD]
    obtain ⟨μ2, r1, r2, -⟩ := r_ask (n := n) (st := st) (x := x) (b := b) hS (by omega) (hBase.congr (fun _ _ => rfl) (fun a j q => by rw [hfr a j (by omega), hA0 a j q])) hDB hI hU (i := 2) (by omega) (if a3 < a2 + a2 then 1 else 0) (F' := fk4 a2 a3 0 0) (by
      intro k _ hk
      have hk4 : k < 2 := hk
      rw [hμB]
      rcases (by omega : k = 0 ∨ k = 1) with rfl | rfl
      all_goals simp (disch := omega) only [up2_ne, up2_same]; rfl)
    have r1' : f_X12_ruled (some (x + 175)) 2 (if a3 < a2 + a2 then 1 else 0) (mkH n st S μB) = some (ruT (lawT D) (lawN D) (fk4 a2 a3 0 0) 2 (if a3 < a2 + a2 then 1 else 0), mkH n st S μ2) := r1
    have hD2 : μ2 (x + 175 + 1) = D := by funext q; rw [r2 _ _ (by omega) (by omega) (by omega), hDB]
    refine ⟨μ2, ?_, fun a j q1 q2 => by rw [r2 a j q1 (by omega) (by omega), hfr a j (by omega)]⟩
    rw [← hμB]
    simp (disch := omega) only [b_X12_recall_75, rck hS, r1', some_bind, mR0 hS, lit_aI, mA0 hS, hD2, lit_add, mS0 hS, recS]
    by_cases h0 : ruT (lawT D) (lawN D) (fk4 a2 a3 0 0) 2 (if a3 < a2 + a2 then 1 else 0) = 0
    · rw [if_pos h0]; simp [h0]
    · rw [if_neg h0]; simp [h0]
  by_cases hrec : recS (lawT D) (lawN D) a2 a3 = true
  · rw [hrec] at fx0
    obtain ⟨μX, hμX⟩ : ∃ q, q = (up2 (up2 μ1 (x + 1 + 22 + 2 * i) (7) (D 0 - 1)) (x + 1 + 22 + 2 * i) (8) (1)) := ⟨_, rfl⟩
    have hX1 : ∀ a j, ¬ a = x + 1 + 118 + 6 * lawA D + 4 → ¬ a = x + 1 + 118 + 6 * lawA D + 5 → ¬ (a = x + 1 + 22 + 2 * i ∧ (j = 7 ∨ j = 8)) → μX a j = μ a j := fun a j q1 q2 q3 => by rw [hμX, up2_ne (by omega), up2_ne (by omega), k2 a j q1 q2]
    obtain ⟨μ2, r1, r2⟩ := rk μX (fun a j h => hX1 a j (by omega) (by omega) (by omega)) (fun a j h => hX1 a j (by omega) (by omega) (by omega))
    rw [if_pos hrec] at r1
    have hDX : μX (x + 175 + 1) = D := by funext q; rw [hX1 _ _ (by omega) (by omega) (by omega), hD]
    have hD2 : μ2 (x + 175 + 1) = D := by funext q; rw [r2 _ _ (by omega) (by omega), hDX]
    have c0 : μ1 (x + 1) 0 = D 0 := by rw [k2 _ _ (by omega) (by omega), z0]
    obtain ⟨μ3, hμ3⟩ : ∃ q, q = (up2 (up2 μ2 (x + 175 + 1) (187 + i) (D 0 - 1)) (x + 175 + 1) (203 + i) (1)) := ⟨_, rfl⟩
    rw [← hμ3] at r1
    have h3n : ∀ a j, ¬ a = x + 175 + 1 → ¬ (a = x + 175 ∧ 11 ≤ j ∧ j ≤ 18) → ¬ (x + 175 + 7 ≤ a ∧ a ≤ x + 175 + 9) → ¬ a = x + 1 + 118 + 6 * lawA D + 4 → ¬ a = x + 1 + 118 + 6 * lawA D + 5 → ¬ (a = x + 1 + 22 + 2 * i ∧ (j = 7 ∨ j = 8)) → μ3 a j = μ a j := fun a j q1 q2 q3 q4 q5 q6 => by rw [hμ3, up2_ne (by omega), up2_ne (by omega), r2 a j q2 q3, hX1 a j q4 q5 q6]
    have h3D : ∀ q, ¬ q = 187 + i → ¬ q = 203 + i → μ3 (x + 175 + 1) q = D q := fun q q1 q2 => by rw [hμ3, up2_ne (by omega), up2_ne (by omega), hD2]
    have n2 : nD (μ3 (x + 175 + 1)) 2 = nD D 2 := nD_eq (h3D 2 (by omega) (by omega))
    refine ⟨1, mkH n st S μX, n, S, μ3, ?_, ?_, ?_, hRest.congr ?_⟩
    · rw [fx0, hμX]
      have n10 : ¬ bI true = 0 := by decide
      simp (disch := omega) only [n10, if_false, xR0 hX, some_bind, cR5 hC, cEmen hC, cI0 hC, c0, oManP hC, oManZ1 hC]
    · rw [fm0 μX hDX, if_pos hsn, r1]
    · refine Core.mk' (μ := μ) hX hS hL0 (fun a j h => h3n a j (by omega) (by omega) (by omega) (by omega) (by omega) (by omega)) ?_ ?_
      · refine ⟨GA.congr hI hs (fun a j h => by exact h3n a j (by omega) (by omega) (by omega) (by omega) (by omega) (by omega)) (fun q h => by exact h3D q (by omega) (by omega)), Gx.congr hI hs (fun a j h => by exact h3n a j (by omega) (by omega) (by omega) (by omega) (by omega) (by omega)) (fun q h => by exact h3D q (by omega) (by omega)), Gw.congr hI hs (fun a j h => by exact h3n a j (by omega) (by omega) (by omega) (by omega) (by omega) (by omega)) (fun q h => by exact h3D q (by omega) (by omega)), ?_, Gv.congr hI hs (fun a j h => by exact h3n a j (by omega) (by omega) (by omega) (by omega) (by omega) (by omega)) (fun q h => by exact h3D q (by omega) (by omega)), Gb.congr hI hs (fun a j h => by exact h3n a j (by omega) (by omega) (by omega) (by omega) (by omega) (by omega)) (fun q h => by exact h3D q (by omega) (by omega)), Gs.congr hI hs (fun a j h => by exact h3n a j (by omega) (by omega) (by omega) (by omega) (by omega) (by omega)) (fun q h => by exact h3D q (by omega) (by omega)), Ge.congr hI hs (fun a j h => by exact h3n a j (by omega) (by omega) (by omega) (by omega) (by omega) (by omega)) (fun q h => by exact h3D q (by omega) (by omega)), Gr.congr hI hs (fun a j h => by exact h3n a j (by omega) (by omega) (by omega) (by omega) (by omega) (by omega)) (fun q h => by exact h3D q (by omega) (by omega)), Gh.congr hI hs (fun a j h => by exact h3n a j (by omega) (by omega) (by omega) (by omega) (by omega) (by omega)) (fun q h => by exact h3D q (by omega) (by omega)), Gl.congr hI hs (fun a j h => by exact h3n a j (by omega) (by omega) (by omega) (by omega) (by omega) (by omega)) (fun q h => by exact h3D q (by omega) (by omega))⟩
        refine ⟨by rw [h3n _ _ (by omega) (by omega) (by omega) (by omega) (by omega) (by omega), h3D _ (by omega) (by omega), z2], ?_, ?_⟩
        · rw [n2]
          intro k q hk hq
          by_cases h7 : k = i ∧ q = 7
          · obtain ⟨rfl, rfl⟩ := h7
            rw [hμ3]
            simp (disch := omega) only [up2_ne, show 75 + 16 * 7 + k = 187 + k from by omega, up2_same]
            rw [r2 _ _ (by omega) (by omega), hμX, up2_ne (by omega), up2_same]
          · by_cases h8 : k = i ∧ q = 8
            · obtain ⟨rfl, rfl⟩ := h8
              rw [hμ3]
              simp (disch := omega) only [up2_ne, show 75 + 16 * 8 + k = 203 + k from by omega, up2_same]
              rw [r2 _ _ (by omega) (by omega), hμX, up2_same]
            · rw [h3n _ _ (by omega) (by omega) (by omega) (by omega) (by omega) (by omega), h3D _ (by omega) (by omega)]
              exact hs.man k q hk hq
        · rw [n2]
          intro k q hk hq
          rw [h3n _ _ (by omega) (by omega) (by omega) (by omega) (by omega) (by omega), h3D _ (by omega) (by omega)]
          exact hs.fear k q hk hq
      · refine ⟨IA.congr hI (fun q h => by exact h3D q (by omega) (by omega)), Iw.congr hI (fun q h => by exact h3D q (by omega) (by omega)), ?_, Iv.congr hI (fun q h => by exact h3D q (by omega) (by omega)), Ib.congr hI (fun q h => by exact h3D q (by omega) (by omega)), Is.congr hI (fun q h => by exact h3D q (by omega) (by omega)), Ix.congr hI (fun q h => by exact h3D q (by omega) (by omega)), Ih.congr hI (fun q h => by exact h3D q (by omega) (by omega)), Il.congr hI (fun q h => by exact h3D q (by omega) (by omega)), Ir.congr hI (fun q h => by exact h3D q (by omega) (by omega))⟩
        refine ⟨isC_of (by rw [h3D _ (by omega) (by omega)]; exact e2) b2 (by omega), ?_, ?_, ?_, ?_, ?_, ?_, ?_, ?_⟩
        all_goals rw [n2]; intro k hk
        · rw [nD_eq (D := D) (j := 1) (h3D _ (by omega) (by omega)), h3D _ (by omega) (by omega)]; exact hI.mWard k hk
        · rw [h3D _ (by omega) (by omega)]; exact hI.mClub k hk
        · rw [h3D _ (by omega) (by omega)]; exact hI.mName k hk
        · rw [h3D _ (by omega) (by omega)]; exact hI.mFat k hk
        · rw [h3D _ (by omega) (by omega)]; exact hI.mHand k hk
        · rw [h3D _ (by omega) (by omega)]; exact hI.mHow k hk
        · rw [h3D _ (by omega) (by omega)]; exact hI.mSent k hk
        · by_cases hki : k = i
          · subst hki; rw [hμ3, up2_same]; exact ⟨1, by omega, rfl⟩
          · rw [h3D _ (by omega) (by omega)]; exact hI.mRec k hk
    · intro a j h
      unfold oth at h
      exact h3n a j (by omega) (by omega) (by omega) (by omega) (by omega) (by omega)
  · have hrf : recS (lawT D) (lawN D) a2 a3 = false := by simpa using hrec
    rw [hrf] at fx0
    have hD1 : μ1 (x + 175 + 1) = D := by funext q; rw [k2 _ _ (by omega) (by omega), hD]
    obtain ⟨μ2, r1, r2⟩ := rk μ1 (fun a j h => k2 a j (by omega) (by omega)) (fun a j h => k2 a j (by omega) (by omega))
    rw [if_neg hrec] at r1
    refine ⟨0, mkH n st S μ1, n, S, μ2, ?_, ?_, hR'.ask hlA ?_⟩
    · rw [fx0]
      rfl
    · rw [fm0 μ1 hD1, if_pos hsn, r1]
    · intro a j q1 q2 q3 q4
      rw [r2 a j q3 q4, k2 a j q1 q2]
end RULE2
