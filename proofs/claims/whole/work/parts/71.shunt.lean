-- ===== the class's reader as a machine over tokens =====
section SHUNT
variable (T : Nat → Int32) (N : Nat)
/-- mode, signed, open, what waits (the last first), code -/
abbrev MSt : Type := Nat × Bool × Nat × List Nat × List Int32
def setS (π : Nat) : List Nat → List Int32 → List Nat × List Int32
  | [], c => ([], c)
  | w :: ws, c => if π ≤ w / 4 then setS π ws (c ++ [opw w]) else (w :: ws, c)
def terM (line : Int32) (p : Nat) : Option Int32 :=
  if tK T N p = 3 then some (wrd 24 (tV T N p).toNatClampNeg)
  else if tK T N p = 2 ∧ ¬ facS line (tV T N p) < 0 then some (wrd 25 (facS line (tV T N p)).toNatClampNeg)
  else none
def oneW (o : Nat) (wt : List Nat) (c : List Int32) (p : Nat) : Option MSt :=
  if isW T N p 6 then some (2, false, o, 8 :: (setS 2 wt c).1, (setS 2 wt c).2)
  else if isW T N p 5 then some (2, false, o, 4 :: (setS 1 wt c).1, (setS 1 wt c).2)
  else if tK T N p = 41 ∧ 0 < o then some (5, false, o - 1, (setS 1 wt c).1.tail, (setS 1 wt c).2)
  else if o = 0 ∧ tK T N p = 59 then some (0, false, o, (setS 1 wt c).1, (setS 1 wt c).2)
  else none
def stepW (line : Int32) (σ : MSt) (p : Nat) : Option MSt := match σ with
  | (md, sg, o, wt, c) =>
    if md = 2 then (if isW T N p 7 then some (2, false, o, 12 :: wt, c)
      else if tK T N p = 40 then (if o + 1 ≤ 5 then some (2, false, o + 1, 0 :: wt, c) else none)
      else (terM T N line p).map fun w => (4, false, o, wt, c ++ [w]))
    else if md = 3 then (terM T N line p).map fun w => (4, sg, o, wt, c ++ [w])
    else if md = 4 then (if tK T N p = 43 ∨ tK T N p = 45 then some (3, sg, o, (if tK T N p = 43 then 20 else 21) :: (setS 5 wt c).1, (setS 5 wt c).2)
      else if sg = false ∧ (tK T N p = 60 ∨ tK T N p = 61 ∨ tK T N p = 62) then some (3, true, o, (if tK T N p = 60 then 16 else if tK T N p = 61 then 17 else 18) :: (setS 5 wt c).1, (setS 5 wt c).2)
      else oneW T N o (setS 4 wt c).1 (if sg then (setS 4 wt c).2 else (setS 4 wt c).2 ++ [opw 26]) p)
    else oneW T N o wt c p
def runW (line : Int32) : Nat → MSt → Nat → Nat ⊕ (List Int32 × Nat)
  | 0, _, p => .inl (tB T N p)
  | f + 1, σ, p => if tK T N p = 0 then .inl (tB T N p) else match stepW T N line σ p with
    | none => .inl (tB T N p)
    | some τ => if τ.1 = 0 then .inr (τ.2.2.2.2, tA T N p) else runW line f τ (tA T N p)
def rW (line : Int32) (σ : MSt) (p : Nat) : Nat ⊕ (List Int32 × Nat) := runW T N line (N + 1 - p) σ p
end SHUNT
section SHUNT2
variable {T : Nat → Int32} {N : Nat} {F : Nat → Int32} {line : Int32}
theorem runW_fuel : ∀ f g (σ : MSt) p, p ≤ N → N + 1 - p ≤ f → N + 1 - p ≤ g → runW T N line f σ p = runW T N line g σ p := by
  intro f
  induction f with
  | zero => intro g σ p h1 h2; omega
  | succ f ih =>
    intro g σ p h1 h2 h3
    obtain ⟨g, rfl⟩ : ∃ q, g = q + 1 := ⟨g - 1, by omega⟩
    rw [runW, runW]
    by_cases h0 : tK T N p = 0
    · rw [if_pos h0, if_pos h0]
    · rw [if_neg h0, if_neg h0]
      cases stepW T N line σ p with
      | none => rfl
      | some τ =>
        simp only []
        have hp := tok_pos (T := T) h1
        have := hp.2.2.2 h0
        rw [ih g τ (tA T N p) hp.2.2.1 (by omega) (by omega)]
theorem rW_end (σ : MSt) {p : Nat} (h : p ≤ N) (h0 : tK T N p = 0) : rW T N line σ p = .inl (tB T N p) := by
  unfold rW
  rw [show N + 1 - p = (N - p) + 1 from by omega, runW, if_pos h0]
theorem rW_rej {σ : MSt} {p : Nat} (h : p ≤ N) (hs : stepW T N line σ p = none) : rW T N line σ p = .inl (tB T N p) := by
  unfold rW
  rw [show N + 1 - p = (N - p) + 1 from by omega, runW, hs]
  simp only [ite_self]
theorem rW_go {σ τ : MSt} {p : Nat} (h : p ≤ N) (h0 : ¬ tK T N p = 0) (hs : stepW T N line σ p = some τ) (hm : τ.1 ≠ 0) : rW T N line σ p = rW T N line τ (tA T N p) := by
  have hp := tok_pos (T := T) h
  have := hp.2.2.2 h0
  unfold rW
  rw [show N + 1 - p = (N - p) + 1 from by omega, runW, hs, if_neg h0]
  simp only [hm, if_false]
  exact runW_fuel _ _ _ _ hp.2.2.1 (by omega) (by omega)
theorem rW_fin {σ τ : MSt} {p : Nat} (h : p ≤ N) (h0 : ¬ tK T N p = 0) (hs : stepW T N line σ p = some τ) (hm : τ.1 = 0) : rW T N line σ p = .inr (τ.2.2.2.2, tA T N p) := by
  unfold rW
  rw [show N + 1 - p = (N - p) + 1 from by omega, runW, hs, if_neg h0]
  simp only [hm, if_true]
/-- two states that take the same step -/
theorem rW_same {σ τ : MSt} {p : Nat} (h : p ≤ N) (hs : stepW T N line σ p = stepW T N line τ p) : rW T N line σ p = rW T N line τ p := by
  unfold rW
  rw [show N + 1 - p = (N - p) + 1 from by omega, runW, runW, hs]
theorem setS_all {π : Nat} : ∀ (P W : List Nat) (c : List Int32), (∀ w ∈ P, π ≤ w / 4) → (setS π W (c ++ P.map opw)) = (W, c ++ P.map opw) → setS π (P ++ W) c = (W, c ++ P.map opw) := by
  intro P
  induction P with
  | nil => intro W c _ h; simpa using h
  | cons w P ih =>
    intro W c hP h
    have e : c ++ (w :: P).map opw = (c ++ [opw w]) ++ P.map opw := by simp
    show setS π (w :: (P ++ W)) c = _
    rw [setS, if_pos (hP w (List.mem_cons_self ..))]
    rw [e] at h ⊢
    exact ih W _ (fun v hv => hP v (List.mem_cons_of_mem _ hv)) h
/-- below a strength: nothing of it is settled -/
def lowW (π : Nat) : List Nat → Prop
  | [] => True
  | w :: _ => w / 4 < π
theorem setS_low {π : Nat} {W : List Nat} (h : lowW π W) (c : List Int32) : setS π W c = (W, c) := by
  cases W with
  | nil => rfl
  | cons w W => rw [setS, if_neg (by have : w / 4 < π := h; omega)]
theorem setS_app {π : Nat} {P W : List Nat} (hP : ∀ w ∈ P, π ≤ w / 4) (hW : lowW π W) (c : List Int32) : setS π (P ++ W) c = (W, c ++ P.map opw) := setS_all P W c hP (setS_low hW _)
theorem lowW_mono {π π' : Nat} {W : List Nat} (h : lowW π W) (hp : π ≤ π') : lowW π' W := by
  cases W with
  | nil => trivial
  | cons w W => have : w / 4 < π := h; show w / 4 < π'; omega
theorem dig_ex {c : Int32} (h : digB c = true) : ∃ d, d < 10 ∧ c = nI (48 + d) := by
  unfold digB inS at h
  rw [decide_eq_true_eq] at h
  have h48 : (48 : Int32).toInt = 48 := by decide
  have h57 : (57 : Int32).toInt = 57 := by decide
  obtain ⟨k, hk, rfl⟩ := nI_of (x := c) (by
    intro h0
    apply h.1
    rw [i32_lt] at h0 ⊢
    rw [i32_0] at h0
    omega)
  have a1 := h.1
  have a2 := h.2
  rw [lit_lt (by omega) (by decide)] at a1
  rw [lit_gt (by omega) (by decide)] at a2
  have a1 : ¬ k < 48 := a1
  have a2 : ¬ 57 < k := a2
  exact ⟨k - 48, by omega, by rw [show 48 + (k - 48) = k from by omega]⟩
theorem nuS_rng {b : Nat} : ∀ f p k, b ≤ p → k < 10000 → (p - b < 4 → k < 10 ^ (p - b)) → ∃ k', k' < 10000 ∧ nuS T N b f p (nI k) = nI k' := by
  intro f
  induction f with
  | zero => intro p k _ h _; exact ⟨k, h, rfl⟩
  | succ f ih =>
    intro p k hp hk hb
    rw [nuS]
    by_cases hd : digB (byS T N p) = true
    · rw [if_pos hd]
      obtain ⟨d, hd10, ed⟩ := dig_ex hd
      by_cases h4 : p - b < 4
      · rw [if_pos h4, ed, lit_mul, nI_add, show nI (10 * k + (48 + d)) - 48 = nI (10 * k + (48 + d) - 48) from pk_sub (b := 48) (by omega), show 10 * k + (48 + d) - 48 = 10 * k + d from by omega]
        have := hb h4
        rcases (by omega : p - b = 0 ∨ p - b = 1 ∨ p - b = 2 ∨ p - b = 3) with h | h | h | h
        all_goals (rw [h] at this; refine ih (p + 1) (10 * k + d) (by omega) (by omega) (fun h5 => ?_))
        · rw [show p + 1 - b = 1 from by omega]; omega
        · rw [show p + 1 - b = 2 from by omega]; omega
        · rw [show p + 1 - b = 3 from by omega]; omega
        · omega
      · rw [if_neg h4]
        exact ih (p + 1) k (by omega) hk (fun h5 => by omega)
    · rw [if_neg hd]; exact ⟨k, hk, rfl⟩
theorem tV_num {p : Nat} (h : tK T N p = 3) : ∃ k, k < 10000 ∧ tV T N p = nI k := by
  rcases nxS_cases T N p with ⟨-, -, -, h4⟩ | ⟨-, -, -, -, h4, h5⟩ | ⟨-, -, -, -, -, ⟨k, w1, w2, w3⟩ | ⟨w1, w2⟩⟩ | ⟨-, -, -, -, -, h4⟩
  · rw [h4] at h; exact absurd h (by decide)
  · rw [h5]
    exact nuS_rng (T := T) (N := N) (b := skS T N 400 p) 400 (skS T N 400 p) 0 (Nat.le_refl _) (by omega) (fun _ => by rw [Nat.sub_self]; omega)
  · rw [w2] at h; exact absurd h (by decide)
  · rw [w2] at h; exact absurd h (by decide)
  · rw [h4] at h
    split at h
    · rename_i ho
      rw [h] at ho; exact absurd ho (by decide)
    · exact absurd h (by decide)
theorem inS_lo {w : Int32} {a c : Nat} (hc : c < 2 ^ 31) (ha : a ≤ c) (h : inS w (nI a) (nI c) = true) : ∃ k, a ≤ k ∧ k ≤ c ∧ w = nI k := by
  unfold inS at h
  rw [decide_eq_true_eq] at h
  obtain ⟨k, hk, rfl⟩ := nI_of (x := w) (by
    intro h0
    apply h.1
    rw [i32_lt] at h0 ⊢
    rw [i32_0] at h0
    rw [nI_toInt (by omega)]
    omega)
  have a1 := mt (nI_ltI (a := k) (b := a) (by omega) (by omega)).mpr h.1
  have a2 := mt (nI_ltI (a := c) (b := k) (by omega) (by omega)).mpr h.2
  exact ⟨k, by omega, by omega, rfl⟩
theorem facS_in {line w : Int32} (h : ¬ facS line w < 0) : ∃ k, k < 7 ∧ facS line w = nI k := by
  unfold facS at h ⊢
  by_cases l0 : line = 0
  · rw [if_pos l0] at h ⊢
    by_cases h1 : inS w 8 14 = true
    · rw [if_pos h1]
      obtain ⟨k, k1, k2, rfl⟩ := inS_lo (a := 8) (c := 14) (by omega) (by omega) h1
      exact ⟨k - 8, by omega, pk_sub k1⟩
    · rw [if_neg h1] at h; exact absurd (by decide) h
  · rw [if_neg l0] at h ⊢
    by_cases l1 : line = 1
    · rw [if_pos l1] at h ⊢
      by_cases h1 : inS w 15 18 = true
      · rw [if_pos h1]
        obtain ⟨k, k1, k2, rfl⟩ := inS_lo (a := 15) (c := 18) (by omega) (by omega) h1
        exact ⟨k - 15, by omega, pk_sub k1⟩
      · rw [if_neg h1] at h; exact absurd (by decide) h
    · rw [if_neg l1] at h ⊢
      by_cases l2 : line = 2
      · rw [if_pos l2] at h ⊢
        by_cases h1 : w = 19
        · rw [if_pos h1]; exact ⟨0, by omega, rfl⟩
        · rw [if_neg h1] at h ⊢
          by_cases h2 : w = 15
          · rw [if_pos h2]; exact ⟨1, by omega, rfl⟩
          · rw [if_neg h2] at h; exact absurd (by decide) h
      · rw [if_neg l2] at h ⊢
        by_cases h1 : w = 20
        · rw [if_pos h1]; exact ⟨0, by omega, rfl⟩
        · rw [if_neg h1] at h ⊢
          by_cases h2 : w = 4
          · rw [if_pos h2]; exact ⟨1, by omega, rfl⟩
          · rw [if_neg h2] at h; exact absurd (by decide) h
theorem fac_rng {w : Int32} (h : ¬ facS line w < 0) : (facS line w).toNatClampNeg < 7 := by
  obtain ⟨k, hk, e⟩ := facS_in h
  rw [e, nI_clamp (by omega)]
  exact hk
theorem bin_16 (x y : Int32) : binC (nI 16) x y = if x < y then 1 else 0 := by
  unfold binC; rw [if_neg (by decide), if_neg (by decide), if_pos (by decide)]
theorem bin_17 (x y : Int32) : binC (nI 17) x y = if x = y then 1 else 0 := by
  unfold binC; rw [if_neg (by decide), if_neg (by decide), if_neg (by decide), if_pos (by decide)]
theorem bin_18 (x y : Int32) : binC (nI 18) x y = if y < x then 1 else 0 := by
  unfold binC; rw [if_neg (by decide), if_neg (by decide), if_neg (by decide), if_neg (by decide), if_pos (by decide)]
/-- a term: its word pushes what it tells -/
theorem termM {p : Nat} : match termS T N F line p with
    | .inl e => terM T N line p = none ∧ e = tB T N p
    | .inr q => ∃ w, terM T N line p = some w ∧ PushD F [w] q.1 1 ∧ q.2 = tA T N p ∧ ¬ tK T N p = 0 := by
  unfold termS terM
  by_cases h1 : tK T N p = 3
  · rw [if_pos h1, if_pos h1]
    obtain ⟨k, hk, e⟩ := tV_num h1
    refine ⟨_, rfl, ?_, rfl, by rw [h1]; decide⟩
    rw [e, nI_clamp (by omega)]
    exact push_num (by omega)
  · rw [if_neg h1, if_neg h1]
    by_cases h2 : tK T N p = 2 ∧ ¬ facS line (tV T N p) < 0
    · rw [if_pos h2, if_pos h2]
      exact ⟨_, rfl, push_fac (fac_rng h2.2), rfl, by rw [h2.1]; decide⟩
    · rw [if_neg h2, if_neg h2]
      exact ⟨rfl, rfl⟩
def SumR (sg : Bool) (o : Nat) (W : List Nat) (C : List Int32) (σ : MSt) (p : Nat) (res : Nat ⊕ (Int32 × Nat)) (F : Nat → Int32) (T : Nat → Int32) (N : Nat) (line : Int32) : Prop := match res with
  | .inl e => rW T N line σ p = .inl e
  | .inr q => ∃ (c : List Int32) (P : List Nat), rW T N line σ p = rW T N line (4, sg, o, P ++ W, C ++ c) q.2 ∧ (∀ w ∈ P, 5 ≤ w / 4) ∧ PushD F (c ++ P.map opw) q.1 2 ∧ q.2 ≤ N ∧ p < q.2 ∧ ¬ (tK T N q.2 = 43 ∨ tK T N q.2 = 45)
theorem sumLM {sg : Bool} {o : Nat} {W : List Nat} {C : List Int32} (hW : lowW 5 W) : ∀ k f (v : Int32) (q p0 : Nat) (σ : MSt) (c : List Int32) (P : List Nat), N - q ≤ k → k < f → q ≤ N → p0 < q → (∀ w ∈ P, 5 ≤ w / 4) → PushD F (c ++ P.map opw) v 2 → rW T N line σ p0 = rW T N line (4, sg, o, P ++ W, C ++ c) q → SumR sg o W C σ p0 (sumL T N F line f v q) F T N line := by
  intro k
  induction k with
  | zero =>
    intro f v q p0 σ c P hk hf hq h0 hP hv hr
    obtain ⟨f, rfl⟩ : ∃ j, f = j + 1 := ⟨f - 1, by omega⟩
    rw [sumL]
    have hp := tok_pos (T := T) hq
    by_cases h1 : tK T N q = 43 ∨ tK T N q = 45
    · exfalso
      have : ¬ tK T N q = 0 := by rcases h1 with h | h <;> rw [h] <;> decide
      have := hp.2.2.2 this
      omega
    · rw [if_neg h1]
      exact ⟨c, P, hr, hP, hv, hq, h0, h1⟩
  | succ k ih =>
    intro f v q p0 σ c P hk hf hq h0 hP hv hr
    obtain ⟨f, rfl⟩ : ∃ j, f = j + 1 := ⟨f - 1, by omega⟩
    rw [sumL]
    have hp := tok_pos (T := T) hq
    by_cases h1 : tK T N q = 43 ∨ tK T N q = 45
    · rw [if_pos h1]
      have hn0 : ¬ tK T N q = 0 := by rcases h1 with h | h <;> rw [h] <;> decide
      have hlt := hp.2.2.2 hn0
      have hst : stepW T N line (4, sg, o, P ++ W, C ++ c) q = some (3, sg, o, (if tK T N q = 43 then 20 else 21) :: W, C ++ c ++ P.map opw) := by
        simp only [stepW, h1, if_true, setS_app hP hW]
        rfl
      have hr2 := hr.trans (rW_go hq hn0 hst (by simp))
      have ht := termM (T := T) (N := N) (F := F) (line := line) (p := tA T N q)
      cases hte : termS T N F line (tA T N q) with
      | inl e =>
        rw [hte] at ht
        simp only [] at ht ⊢
        show rW T N line σ p0 = .inl e
        rw [hr2, ht.2]
        refine rW_rej hp.2.2.1 ?_
        simp [stepW, ht.1]
      | inr z =>
        rw [hte] at ht
        simp only [] at ht ⊢
        obtain ⟨w, w1, w2, w3, w4⟩ := ht
        have hp2 := tok_pos (T := T) hp.2.2.1
        have hlt2 := hp2.2.2.2 w4
        have hst2 : stepW T N line (3, sg, o, (if tK T N q = 43 then 20 else 21) :: W, C ++ c ++ P.map opw) (tA T N q) = some (4, sg, o, [if tK T N q = 43 then 20 else 21] ++ W, C ++ (c ++ P.map opw ++ [w])) := by
          simp [stepW, w1]
        have hr3 := hr2.trans (rW_go hp.2.2.1 w4 hst2 (by simp))
        refine ih f _ z.2 p0 σ (c ++ P.map opw ++ [w]) [if tK T N q = 43 then 20 else 21] (by omega) (by omega) (by omega) (by omega) ?_ ?_ (by rw [hr3, w3])
        · intro u hu
          rw [List.mem_singleton] at hu
          subst hu
          split <;> omega
        · by_cases h43 : tK T N q = 43
          · rw [if_pos h43, if_pos h43]
            exact push_bin (op := 20) hv w2 (by omega) (by omega) (by omega) (by omega)
          · rw [if_neg h43, if_neg h43]
            exact push_bin (op := 21) hv w2 (by omega) (by omega) (by omega) (by omega)
    · rw [if_neg h1]
      exact ⟨c, P, hr, hP, hv, hq, h0, h1⟩
theorem sumM {sg : Bool} {o : Nat} {W : List Nat} {C : List Int32} (hW : lowW 5 W) {p : Nat} (hp : p ≤ N) (hN : N ≤ 300) : SumR sg o W C (3, sg, o, W, C) p (sumS T N F line p) F T N line := by
  unfold sumS
  have ht := termM (T := T) (N := N) (F := F) (line := line) (p := p)
  cases hte : termS T N F line p with
  | inl e =>
    rw [hte] at ht
    simp only [] at ht ⊢
    show rW T N line _ p = .inl e
    rw [ht.2]
    refine rW_rej hp ?_
    simp [stepW, ht.1]
  | inr z =>
    rw [hte] at ht
    simp only [] at ht ⊢
    obtain ⟨w, w1, w2, w3, w4⟩ := ht
    have hp2 := tok_pos (T := T) hp
    have hlt2 := hp2.2.2.2 w4
    refine sumLM hW 300 400 z.1 z.2 p _ [w] [] (by omega) (by omega) (by omega) (by omega) (by simp) (by simpa using w2.mono (by omega)) ?_
    rw [w3]
    exact rW_go hp w4 (by simp [stepW, w1]) (by simp)
/-- a comparison, closed -/
theorem cmpM {o : Nat} {W : List Nat} {C : List Int32} (hW : lowW 4 W) {p : Nat} (hp : p ≤ N) (hN : N ≤ 300) : match cmpS T N F line p with
    | .inl e => rW T N line (3, false, o, W, C) p = .inl e
    | .inr q => ∃ c : List Int32, rW T N line (3, false, o, W, C) p = rW T N line (5, false, o, W, C ++ c) q.2 ∧ PushD F c (bI q.1) 3 ∧ q.2 ≤ N ∧ p < q.2 := by
  have s1 := sumM (T := T) (N := N) (F := F) (line := line) (sg := false) (o := o) (W := W) (C := C) (lowW_mono hW (by omega)) hp hN
  have hcl : ∀ (sg : Bool) (P : List Nat) (c : List Int32) (q : Nat), q ≤ N → (∀ w ∈ P, 4 ≤ w / 4) → ¬ (tK T N q = 43 ∨ tK T N q = 45) → (sg = false → ¬ (tK T N q = 60 ∨ tK T N q = 61 ∨ tK T N q = 62)) → rW T N line (4, sg, o, P ++ W, C ++ c) q = rW T N line (5, false, o, W, C ++ (c ++ P.map opw ++ if sg then [] else [opw 26])) q := by
    intro sg P c q hq hP h1 h2
    refine rW_same hq ?_
    have h3 : ¬ (sg = false ∧ (tK T N q = 60 ∨ tK T N q = 61 ∨ tK T N q = 62)) := fun h => h2 h.1 h.2
    have e4 : (4 : Nat) ≠ 2 := by decide
    simp only [stepW, h1, h3, if_false, if_true, setS_app hP hW, Nat.reduceEqDiff]
    cases sg
    · simp
    · simp
  unfold cmpS
  cases hs1 : sumS T N F line p with
  | inl e =>
    rw [hs1] at s1
    exact s1
  | inr q =>
    rw [hs1] at s1
    obtain ⟨c, P, r1, r2, r3, r4, r5, r6⟩ := s1
    simp only []
    by_cases h60 : tK T N q.2 = 60 ∨ tK T N q.2 = 61 ∨ tK T N q.2 = 62
    · rw [if_pos h60]
      have hn0 : ¬ tK T N q.2 = 0 := by rcases h60 with h | h | h <;> rw [h] <;> decide
      have hq2 := tok_pos (T := T) r4
      have hlt := hq2.2.2.2 hn0
      obtain ⟨op, hop⟩ : ∃ op, op = (if tK T N q.2 = 60 then 16 else if tK T N q.2 = 61 then 17 else 18) := ⟨_, rfl⟩
      have op4 : op / 4 = 4 := by rw [hop]; split; rfl; split <;> rfl
      have opl : op < 24 ∧ op ≠ 12 := by rw [hop]; split; omega; split <;> omega
      have hst : stepW T N line (4, false, o, P ++ W, C ++ c) q.2 = some (3, true, o, op :: W, C ++ (c ++ P.map opw)) := by
        simp only [stepW, r6, if_false, h60, and_self, if_true, setS_app r2 (lowW_mono hW (show 4 ≤ 5 by omega)), Nat.reduceEqDiff, hop, List.append_assoc]
      have rr := r1.trans (rW_go r4 hn0 hst (by simp))
      have s2 := sumM (T := T) (N := N) (F := F) (line := line) (sg := true) (o := o) (W := op :: W) (C := C ++ (c ++ P.map opw)) (show op / 4 < 5 by omega) hq2.2.2.1 hN
      cases hs2 : sumS T N F line (tA T N q.2) with
      | inl e =>
        rw [hs2] at s2
        exact rr.trans s2
      | inr z =>
        rw [hs2] at s2
        obtain ⟨c2, P2, t1, t2, t3, t4, t5, t6⟩ := s2
        simp only []
        have t1' : rW T N line (3, true, o, op :: W, C ++ (c ++ P.map opw)) (tA T N q.2) = rW T N line (4, true, o, (P2 ++ [op]) ++ W, C ++ (c ++ P.map opw ++ c2)) z.2 := by
          rw [t1]; simp
        have hc := hcl true (P2 ++ [op]) (c ++ P.map opw ++ c2) z.2 t4 (by
          intro w hw
          rcases List.mem_append.mp hw with h | h
          · have := t2 w h; omega
          · rw [List.mem_singleton] at h; omega) t6 (by intro h; cases h)
        refine ⟨_, rr.trans (t1'.trans hc), ?_, t4, by omega⟩
        have pb := push_bin (op := op) r3 t3 (d := 3) (by omega) (by omega) opl.1 opl.2
        have ev : binC (nI op) q.1 z.1 = bI (if tK T N q.2 = 60 then decide (q.1 < z.1) else if tK T N q.2 = 61 then decide (q.1 = z.1) else decide (z.1 < q.1)) := by
          rw [hop]
          by_cases h1 : tK T N q.2 = 60
          · rw [if_pos h1, if_pos h1]
            rw [bin_16]; by_cases hh : q.1 < z.1 <;> simp [hh, bI]
          · rw [if_neg h1, if_neg h1]
            by_cases h2 : tK T N q.2 = 61
            · rw [if_pos h2, if_pos h2]
              rw [bin_17]; by_cases hh : q.1 = z.1 <;> simp [hh, bI]
            · rw [if_neg h2, if_neg h2]
              rw [bin_18]; by_cases hh : z.1 < q.1 <;> simp [hh, bI]
        rw [ev] at pb
        simpa [List.append_assoc] using pb
    · rw [if_neg h60]
      have hc := hcl false P c q.2 r4 (fun w hw => by have := r2 w hw; omega) r6 (fun _ => h60)
      refine ⟨_, r1.trans hc, ?_, r4, r5⟩
      exact push_tru (r3.mono (by omega))
end SHUNT2
