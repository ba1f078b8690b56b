-- ===== act =====
/-- a code joins the trace -/
def runM (μ : MU) (o f q : Nat) (a : Int32) : MU := if μ o f < 30 then up2 (up2 μ q (μ o f).toNatClampNeg a) o f (μ o f + 1) else μ
def runL (μ : MU) (o f q : Nat) (L : List Int32) : MU := L.foldl (fun μ a => runM μ o f q a) μ
def naV (v : Nat) (nb a : Int32) : Int32 := if v = 2 then (a + nb) * 3 else if v = 4 then (a - 1) + nb else a + nb
def naL (v : Nat) : List Int32 := if v = 2 then [30, 10] else if v = 4 then [51, 10] else [10]
def coV (v : Nat) (nb mk a : Int32) : Int32 := if v = 3 then 0 - ((naV v nb a * 2) ^^^ mk) else if v < 3 then (naV v nb a * 2) ^^^ mk else naV v nb a * 2
def coL (v : Nat) : List Int32 := (if v = 3 then [40, 20, 11] else if v < 3 then [20, 11] else [11]) ++ naL v
def biV (v : Nat) (nb mk a : Int32) : Int32 := if v = 3 then (coV v nb mk a - mk) + naV v nb 2 else if v = 4 then (coV v nb mk a - mk) * 2 else if v = 6 then (coV v nb mk a - mk) - 1 else coV v nb mk a - mk
def biL (v : Nat) : List Int32 := if v = 3 then [41, 12] ++ coL v ++ naL v else if v = 4 then [50, 12] ++ coL v else if v = 6 then [70, 12] ++ coL v else [12] ++ coL v
def teH (v : Nat) : List Int32 := if v = 6 then [71, 60, 13] else if v = 5 then [60, 13] else if v = 4 then [13] else [21, 13]
def teL (v : Nat) : List Int32 := if v < 5 then teH v else teH v ++ naL v
def teV (v : Nat) (nb mk a : Int32) : Int32 := if v = 6 then 0 - ((a + 7) / (mk - nb) - naV v nb a) else if v = 5 then (a + 7) / (mk - nb) - naV v nb a else if v = 4 then a / (mk - nb) else a / (mk - nb) + 1
section ACT
variable {n n' : Nat} {st : Nat → Nat} {S S' : SH} {μ μ' : MU} {x b m c l : Nat} {D : DR}
def StT (μ : MU) (o f q : Nat) (T : List Int32) : Prop := μ o f = nI (min 30 T.length) ∧ ∀ i v, i < 30 → T[i]? = some v → μ q i = v
theorem StT.step {o f q : Nat} (hoq : ¬ o = q) {T : List Int32} (h : StT μ o f q T) (a : Int32) : StT (runM μ o f q a) o f q (T ++ [a]) := by
  obtain ⟨h1, h2⟩ := h
  have hlen : (T ++ [a]).length = T.length + 1 := by simp
  unfold runM
  by_cases hl : T.length < 30
  · have e : min 30 T.length = T.length := by omega
    rw [e] at h1
    have hlt : μ o f < 30 := by rw [h1]; exact nI_lt (b := 30) hl (by omega)
    rw [if_pos hlt, h1, nI_clamp (by omega)]
    refine ⟨by rw [up2_same, hlen, show min 30 (T.length + 1) = T.length + 1 by omega]; exact nI_add T.length 1, fun i v hi hv => ?_⟩
    rw [up2_ne (by omega)]
    by_cases hi2 : i = T.length
    · subst hi2
      rw [up2_same]
      simpa using hv
    · rw [up2_ne (by omega)]
      have hil : i < T.length := by
        rcases Nat.lt_or_ge i (T ++ [a]).length with g | g
        · omega
        · rw [List.getElem?_eq_none g] at hv; cases hv
      rw [List.getElem?_append_left hil] at hv
      exact h2 i v hi hv
  · have e : min 30 T.length = 30 := by omega
    rw [e] at h1
    have hlt : ¬ μ o f < 30 := by rw [h1]; decide
    rw [if_neg hlt]
    refine ⟨by rw [h1, hlen, show min 30 (T.length + 1) = 30 by omega], fun i v hi hv => ?_⟩
    rw [List.getElem?_append_left (by omega)] at hv
    exact h2 i v hi hv
theorem runL_snoc (μ : MU) (o f q : Nat) (L : List Int32) (a : Int32) : runL μ o f q (L ++ [a]) = runM (runL μ o f q L) o f q a := by
  unfold runL
  rw [List.foldl_append]
  rfl
theorem StT.run {o f q : Nat} (hoq : ¬ o = q) : ∀ (L T : List Int32) (μ : MU), StT μ o f q T → StT (runL μ o f q L) o f q (T ++ L) := by
  intro L
  induction L with
  | nil => intro T μ h; rw [List.append_nil]; exact h
  | cons a L ih =>
    intro T μ h
    have := ih (T ++ [a]) (runM μ o f q a) (h.step hoq a)
    rw [List.append_assoc] at this
    exact this
theorem runM_ne {o f q : Nat} {a : Int32} {b i : Nat} (h1 : ¬ (b = o ∧ i = f)) (h2 : ¬ b = q) : runM μ o f q a b i = μ b i := by
  unfold runM
  split
  · rw [up2_ne h1, up2_ne (fun g => h2 g.1)]
  · rfl
theorem runL_ne {o f q : Nat} {b i : Nat} (h1 : ¬ (b = o ∧ i = f)) (h2 : ¬ b = q) : ∀ (L : List Int32) (μ : MU), runL μ o f q L b i = μ b i := by
  intro L
  induction L with
  | nil => intro μ; rfl
  | cons a L ih =>
    intro μ
    exact (ih (runM μ o f q a)).trans (runM_ne h1 h2)
theorem k_runs (hX : ShX S x) {T : List Int32} (h : StT μ (x + 163) 4 (x + 164) T) (a : Int32) : f_X0_runs (some (x + 163)) a (mkH n st S μ) = some (mkH n st S (runM μ (x + 163) 4 (x + 164) a)) := by
  obtain ⟨h1, -⟩ := h
  unfold runM
  by_cases hl : T.length < 30
  · have e : min 30 T.length = T.length := by omega
    rw [e] at h1
    have hlt : nI T.length < 30 := nI_lt (b := 30) hl (by omega)
    have e4 : ∀ v, up2 μ (x + 164) T.length v (x + 163) 4 = nI T.length := fun v => by rw [up2_ne (by omega)]; exact h1
    rw [h1, if_pos hlt, nI_clamp (by omega)]
    simp (disch := omega) only [f_X0_runs, acI4 hX, some_bind, h1, hlt, if_true, acR3 hX, xSTra hX, e4, acP4 hX]
  · have e : min 30 T.length = 30 := by omega
    rw [e] at h1
    have hlt : ¬ nI 30 < (30 : Int32) := by decide
    rw [h1, if_neg hlt]
    simp only [f_X0_runs, acI4 hX, some_bind, h1, hlt, if_false]
theorem r_begins (hS : ShM S m) {T : List Int32} (h : StT μ m 38 (m + 22) T) (a : Int32) : f_X12_begins (some m) a (mkH n st S μ) = some (mkH n st S (runM μ m 38 (m + 22) a)) := by
  obtain ⟨h1, -⟩ := h
  unfold runM
  by_cases hl : T.length < 30
  · have e : min 30 T.length = T.length := by omega
    rw [e] at h1
    have hlt : nI T.length < 30 := nI_lt (b := 30) hl (by omega)
    have e4 : ∀ v, up2 μ (m + 22) T.length v m 38 = nI T.length := fun v => by rw [up2_ne (by omega)]; exact h1
    rw [h1, if_pos hlt, nI_clamp (by omega)]
    simp (disch := omega) only [f_X12_begins, mI38 hS, some_bind, h1, hlt, if_true, mR37 hS, mS37 hS, e4, mP38 hS]
  · have e : min 30 T.length = 30 := by omega
    rw [e] at h1
    have hlt : ¬ nI 30 < (30 : Int32) := by decide
    rw [h1, if_neg hlt]
    simp only [f_X12_begins, mI38 hS, some_bind, h1, hlt, if_false]
end ACT
section ACTK
theorem sub0 {p q : Int32} (h : p - q = 0) : p = q := by
  have : p - q + q = 0 + q := by rw [h]
  rwa [Int32.sub_add_cancel, Int32.zero_add] at this
variable {H : List Int32 → AH} {o : Nat} {nb mk : Int32}

theorem k_names {v : Nat} (h1 : 1 ≤ v) (h6 : v ≤ 6) (hk : ∀ L, gI 0 0 (H L) (some o) = some (nI v)) (hn : ∀ L, gI 0 1 (H L) (some o) = some nb) (hm : ∀ L, gI 0 2 (H L) (some o) = some mk) (hr : ∀ L a, f_X0_runs (some o) a (H L) = some (H (L ++ [a]))) (hc : ∀ (L : List Int32) (α : Type) (f : Option α), ck 0 (H L) (some o) f = f) (L : List Int32) (a : Int32) : f_X0_names (some o) a (H L) = some (naV v nb a, H (L ++ naL v)) := by
  rcases (by omega : v = 1 ∨ v = 2 ∨ v = 3 ∨ v = 4 ∨ v = 5 ∨ v = 6) with rfl | rfl | rfl | rfl | rfl | rfl
  · have hk' : ∀ L, gI 0 0 (H L) (some o) = some (1 : Int32) := hk
    have d2 : ((1 : Int32) = 2) = False := by decide
    have d3 : ((1 : Int32) = 3) = False := by decide
    have d4 : ((1 : Int32) = 4) = False := by decide
    have d5 : ((1 : Int32) = 5) = False := by decide
    have d6 : ((1 : Int32) = 6) = False := by decide
    have dr : ((1 : Int32) < 3 ∨ 6 < (1 : Int32)) = True := by decide
    have di12 : inS (1 : Int32) 1 2 = true := by decide
    have di13 : inS (1 : Int32) 1 3 = true := by decide
    simp only [f_X0_names, b_X0_names_14, b_X0_names_28, b_X0_names_59, hk', hn, hm, hr, hc, some_bind, s_in, bI_if0, ite_bI0, Bool.false_eq_true, ↓reduceIte, d2, d3, d4, d5, d6, dr, di12, di13, List.append_assoc, List.cons_append, List.nil_append]
    rfl
  · have hk' : ∀ L, gI 0 0 (H L) (some o) = some (2 : Int32) := hk
    have d1 : ((2 : Int32) = 1) = False := by decide
    have d3 : ((2 : Int32) = 3) = False := by decide
    have d4 : ((2 : Int32) = 4) = False := by decide
    have d5 : ((2 : Int32) = 5) = False := by decide
    have d6 : ((2 : Int32) = 6) = False := by decide
    have dr : ((2 : Int32) < 3 ∨ 6 < (2 : Int32)) = True := by decide
    have di12 : inS (2 : Int32) 1 2 = true := by decide
    have di13 : inS (2 : Int32) 1 3 = true := by decide
    simp only [f_X0_names, b_X0_names_14, b_X0_names_28, b_X0_names_59, hk', hn, hm, hr, hc, some_bind, s_in, bI_if0, ite_bI0, Bool.false_eq_true, ↓reduceIte, d1, d3, d4, d5, d6, dr, di12, di13, List.append_assoc, List.cons_append, List.nil_append]
    rfl
  · have hk' : ∀ L, gI 0 0 (H L) (some o) = some (3 : Int32) := hk
    have d1 : ((3 : Int32) = 1) = False := by decide
    have d2 : ((3 : Int32) = 2) = False := by decide
    have d4 : ((3 : Int32) = 4) = False := by decide
    have d5 : ((3 : Int32) = 5) = False := by decide
    have d6 : ((3 : Int32) = 6) = False := by decide
    have dr : ((3 : Int32) < 3 ∨ 6 < (3 : Int32)) = False := by decide
    have di12 : inS (3 : Int32) 1 2 = false := by decide
    have di13 : inS (3 : Int32) 1 3 = true := by decide
    simp only [f_X0_names, b_X0_names_14, b_X0_names_28, b_X0_names_59, hk', hn, hm, hr, hc, some_bind, s_in, bI_if0, ite_bI0, Bool.false_eq_true, ↓reduceIte, d1, d2, d4, d5, d6, dr, di12, di13, List.append_assoc, List.cons_append, List.nil_append]
    rfl
  · have hk' : ∀ L, gI 0 0 (H L) (some o) = some (4 : Int32) := hk
    have d1 : ((4 : Int32) = 1) = False := by decide
    have d2 : ((4 : Int32) = 2) = False := by decide
    have d3 : ((4 : Int32) = 3) = False := by decide
    have d5 : ((4 : Int32) = 5) = False := by decide
    have d6 : ((4 : Int32) = 6) = False := by decide
    have dr : ((4 : Int32) < 3 ∨ 6 < (4 : Int32)) = False := by decide
    have di12 : inS (4 : Int32) 1 2 = false := by decide
    have di13 : inS (4 : Int32) 1 3 = false := by decide
    simp only [f_X0_names, b_X0_names_14, b_X0_names_28, b_X0_names_59, hk', hn, hm, hr, hc, some_bind, s_in, bI_if0, ite_bI0, Bool.false_eq_true, ↓reduceIte, d1, d2, d3, d5, d6, dr, di12, di13, List.append_assoc, List.cons_append, List.nil_append]
    rfl
  · have hk' : ∀ L, gI 0 0 (H L) (some o) = some (5 : Int32) := hk
    have d1 : ((5 : Int32) = 1) = False := by decide
    have d2 : ((5 : Int32) = 2) = False := by decide
    have d3 : ((5 : Int32) = 3) = False := by decide
    have d4 : ((5 : Int32) = 4) = False := by decide
    have d6 : ((5 : Int32) = 6) = False := by decide
    have dr : ((5 : Int32) < 3 ∨ 6 < (5 : Int32)) = False := by decide
    have di12 : inS (5 : Int32) 1 2 = false := by decide
    have di13 : inS (5 : Int32) 1 3 = false := by decide
    simp only [f_X0_names, b_X0_names_14, b_X0_names_28, b_X0_names_59, hk', hn, hm, hr, hc, some_bind, s_in, bI_if0, ite_bI0, Bool.false_eq_true, ↓reduceIte, d1, d2, d3, d4, d6, dr, di12, di13, List.append_assoc, List.cons_append, List.nil_append]
    rfl
  · have hk' : ∀ L, gI 0 0 (H L) (some o) = some (6 : Int32) := hk
    have d1 : ((6 : Int32) = 1) = False := by decide
    have d2 : ((6 : Int32) = 2) = False := by decide
    have d3 : ((6 : Int32) = 3) = False := by decide
    have d4 : ((6 : Int32) = 4) = False := by decide
    have d5 : ((6 : Int32) = 5) = False := by decide
    have dr : ((6 : Int32) < 3 ∨ 6 < (6 : Int32)) = False := by decide
    have di12 : inS (6 : Int32) 1 2 = false := by decide
    have di13 : inS (6 : Int32) 1 3 = false := by decide
    simp only [f_X0_names, b_X0_names_14, b_X0_names_28, b_X0_names_59, hk', hn, hm, hr, hc, some_bind, s_in, bI_if0, ite_bI0, Bool.false_eq_true, ↓reduceIte, d1, d2, d3, d4, d5, dr, di12, di13, List.append_assoc, List.cons_append, List.nil_append]
    rfl
theorem k_counts {v : Nat} (h1 : 1 ≤ v) (h6 : v ≤ 6) (hk : ∀ L, gI 0 0 (H L) (some o) = some (nI v)) (hn : ∀ L, gI 0 1 (H L) (some o) = some nb) (hm : ∀ L, gI 0 2 (H L) (some o) = some mk) (hr : ∀ L a, f_X0_runs (some o) a (H L) = some (H (L ++ [a]))) (hc : ∀ (L : List Int32) (α : Type) (f : Option α), ck 0 (H L) (some o) f = f) (L : List Int32) (a : Int32) : f_X0_counts (some o) a (H L) = some (coV v nb mk a, H (L ++ coL v)) := by
  have N := fun L a => k_names h1 h6 hk hn hm hr hc L a
  rcases (by omega : v = 1 ∨ v = 2 ∨ v = 3 ∨ v = 4 ∨ v = 5 ∨ v = 6) with rfl | rfl | rfl | rfl | rfl | rfl
  · have hk' : ∀ L, gI 0 0 (H L) (some o) = some (1 : Int32) := hk
    have d2 : ((1 : Int32) = 2) = False := by decide
    have d3 : ((1 : Int32) = 3) = False := by decide
    have d4 : ((1 : Int32) = 4) = False := by decide
    have d5 : ((1 : Int32) = 5) = False := by decide
    have d6 : ((1 : Int32) = 6) = False := by decide
    have dr : ((1 : Int32) < 3 ∨ 6 < (1 : Int32)) = True := by decide
    have di12 : inS (1 : Int32) 1 2 = true := by decide
    have di13 : inS (1 : Int32) 1 3 = true := by decide
    simp only [f_X0_counts, b_X0_counts_14, b_X0_counts_27, b_X0_counts_55, f_X0_isSherd, N, hk', hn, hm, hr, hc, some_bind, s_in, bI_if0, ite_bI0, Bool.false_eq_true, ↓reduceIte, d2, d3, d4, d5, d6, dr, di12, di13, List.append_assoc, List.cons_append, List.nil_append]
    rfl
  · have hk' : ∀ L, gI 0 0 (H L) (some o) = some (2 : Int32) := hk
    have d1 : ((2 : Int32) = 1) = False := by decide
    have d3 : ((2 : Int32) = 3) = False := by decide
    have d4 : ((2 : Int32) = 4) = False := by decide
    have d5 : ((2 : Int32) = 5) = False := by decide
    have d6 : ((2 : Int32) = 6) = False := by decide
    have dr : ((2 : Int32) < 3 ∨ 6 < (2 : Int32)) = True := by decide
    have di12 : inS (2 : Int32) 1 2 = true := by decide
    have di13 : inS (2 : Int32) 1 3 = true := by decide
    simp only [f_X0_counts, b_X0_counts_14, b_X0_counts_27, b_X0_counts_55, f_X0_isSherd, N, hk', hn, hm, hr, hc, some_bind, s_in, bI_if0, ite_bI0, Bool.false_eq_true, ↓reduceIte, d1, d3, d4, d5, d6, dr, di12, di13, List.append_assoc, List.cons_append, List.nil_append]
    rfl
  · have hk' : ∀ L, gI 0 0 (H L) (some o) = some (3 : Int32) := hk
    have d1 : ((3 : Int32) = 1) = False := by decide
    have d2 : ((3 : Int32) = 2) = False := by decide
    have d4 : ((3 : Int32) = 4) = False := by decide
    have d5 : ((3 : Int32) = 5) = False := by decide
    have d6 : ((3 : Int32) = 6) = False := by decide
    have dr : ((3 : Int32) < 3 ∨ 6 < (3 : Int32)) = False := by decide
    have di12 : inS (3 : Int32) 1 2 = false := by decide
    have di13 : inS (3 : Int32) 1 3 = true := by decide
    simp only [f_X0_counts, b_X0_counts_14, b_X0_counts_27, b_X0_counts_55, f_X0_isSherd, N, hk', hn, hm, hr, hc, some_bind, s_in, bI_if0, ite_bI0, Bool.false_eq_true, ↓reduceIte, d1, d2, d4, d5, d6, dr, di12, di13, List.append_assoc, List.cons_append, List.nil_append]
    rfl
  · have hk' : ∀ L, gI 0 0 (H L) (some o) = some (4 : Int32) := hk
    have d1 : ((4 : Int32) = 1) = False := by decide
    have d2 : ((4 : Int32) = 2) = False := by decide
    have d3 : ((4 : Int32) = 3) = False := by decide
    have d5 : ((4 : Int32) = 5) = False := by decide
    have d6 : ((4 : Int32) = 6) = False := by decide
    have dr : ((4 : Int32) < 3 ∨ 6 < (4 : Int32)) = False := by decide
    have di12 : inS (4 : Int32) 1 2 = false := by decide
    have di13 : inS (4 : Int32) 1 3 = false := by decide
    simp only [f_X0_counts, b_X0_counts_14, b_X0_counts_27, b_X0_counts_55, f_X0_isSherd, N, hk', hn, hm, hr, hc, some_bind, s_in, bI_if0, ite_bI0, Bool.false_eq_true, ↓reduceIte, d1, d2, d3, d5, d6, dr, di12, di13, List.append_assoc, List.cons_append, List.nil_append]
    rfl
  · have hk' : ∀ L, gI 0 0 (H L) (some o) = some (5 : Int32) := hk
    have d1 : ((5 : Int32) = 1) = False := by decide
    have d2 : ((5 : Int32) = 2) = False := by decide
    have d3 : ((5 : Int32) = 3) = False := by decide
    have d4 : ((5 : Int32) = 4) = False := by decide
    have d6 : ((5 : Int32) = 6) = False := by decide
    have dr : ((5 : Int32) < 3 ∨ 6 < (5 : Int32)) = False := by decide
    have di12 : inS (5 : Int32) 1 2 = false := by decide
    have di13 : inS (5 : Int32) 1 3 = false := by decide
    simp only [f_X0_counts, b_X0_counts_14, b_X0_counts_27, b_X0_counts_55, f_X0_isSherd, N, hk', hn, hm, hr, hc, some_bind, s_in, bI_if0, ite_bI0, Bool.false_eq_true, ↓reduceIte, d1, d2, d3, d4, d6, dr, di12, di13, List.append_assoc, List.cons_append, List.nil_append]
    rfl
  · have hk' : ∀ L, gI 0 0 (H L) (some o) = some (6 : Int32) := hk
    have d1 : ((6 : Int32) = 1) = False := by decide
    have d2 : ((6 : Int32) = 2) = False := by decide
    have d3 : ((6 : Int32) = 3) = False := by decide
    have d4 : ((6 : Int32) = 4) = False := by decide
    have d5 : ((6 : Int32) = 5) = False := by decide
    have dr : ((6 : Int32) < 3 ∨ 6 < (6 : Int32)) = False := by decide
    have di12 : inS (6 : Int32) 1 2 = false := by decide
    have di13 : inS (6 : Int32) 1 3 = false := by decide
    simp only [f_X0_counts, b_X0_counts_14, b_X0_counts_27, b_X0_counts_55, f_X0_isSherd, N, hk', hn, hm, hr, hc, some_bind, s_in, bI_if0, ite_bI0, Bool.false_eq_true, ↓reduceIte, d1, d2, d3, d4, d5, dr, di12, di13, List.append_assoc, List.cons_append, List.nil_append]
    rfl
theorem k_binds {v : Nat} (h1 : 1 ≤ v) (h6 : v ≤ 6) (hk : ∀ L, gI 0 0 (H L) (some o) = some (nI v)) (hn : ∀ L, gI 0 1 (H L) (some o) = some nb) (hm : ∀ L, gI 0 2 (H L) (some o) = some mk) (hr : ∀ L a, f_X0_runs (some o) a (H L) = some (H (L ++ [a]))) (hc : ∀ (L : List Int32) (α : Type) (f : Option α), ck 0 (H L) (some o) f = f) (L : List Int32) (a : Int32) : f_X0_binds (some o) a (H L) = some (biV v nb mk a, H (L ++ biL v)) := by
  have N := fun L a => k_names h1 h6 hk hn hm hr hc L a
  have C := fun L a => k_counts h1 h6 hk hn hm hr hc L a
  rcases (by omega : v = 1 ∨ v = 2 ∨ v = 3 ∨ v = 4 ∨ v = 5 ∨ v = 6) with rfl | rfl | rfl | rfl | rfl | rfl
  · have hk' : ∀ L, gI 0 0 (H L) (some o) = some (1 : Int32) := hk
    have d2 : ((1 : Int32) = 2) = False := by decide
    have d3 : ((1 : Int32) = 3) = False := by decide
    have d4 : ((1 : Int32) = 4) = False := by decide
    have d5 : ((1 : Int32) = 5) = False := by decide
    have d6 : ((1 : Int32) = 6) = False := by decide
    have dr : ((1 : Int32) < 3 ∨ 6 < (1 : Int32)) = True := by decide
    have di12 : inS (1 : Int32) 1 2 = true := by decide
    have di13 : inS (1 : Int32) 1 3 = true := by decide
    simp only [f_X0_binds, b_X0_binds_63, N, C, hk', hn, hm, hr, hc, some_bind, s_in, bI_if0, ite_bI0, Bool.false_eq_true, ↓reduceIte, d2, d3, d4, d5, d6, dr, di12, di13, List.append_assoc, List.cons_append, List.nil_append]
    rfl
  · have hk' : ∀ L, gI 0 0 (H L) (some o) = some (2 : Int32) := hk
    have d1 : ((2 : Int32) = 1) = False := by decide
    have d3 : ((2 : Int32) = 3) = False := by decide
    have d4 : ((2 : Int32) = 4) = False := by decide
    have d5 : ((2 : Int32) = 5) = False := by decide
    have d6 : ((2 : Int32) = 6) = False := by decide
    have dr : ((2 : Int32) < 3 ∨ 6 < (2 : Int32)) = True := by decide
    have di12 : inS (2 : Int32) 1 2 = true := by decide
    have di13 : inS (2 : Int32) 1 3 = true := by decide
    simp only [f_X0_binds, b_X0_binds_63, N, C, hk', hn, hm, hr, hc, some_bind, s_in, bI_if0, ite_bI0, Bool.false_eq_true, ↓reduceIte, d1, d3, d4, d5, d6, dr, di12, di13, List.append_assoc, List.cons_append, List.nil_append]
    rfl
  · have hk' : ∀ L, gI 0 0 (H L) (some o) = some (3 : Int32) := hk
    have d1 : ((3 : Int32) = 1) = False := by decide
    have d2 : ((3 : Int32) = 2) = False := by decide
    have d4 : ((3 : Int32) = 4) = False := by decide
    have d5 : ((3 : Int32) = 5) = False := by decide
    have d6 : ((3 : Int32) = 6) = False := by decide
    have dr : ((3 : Int32) < 3 ∨ 6 < (3 : Int32)) = False := by decide
    have di12 : inS (3 : Int32) 1 2 = false := by decide
    have di13 : inS (3 : Int32) 1 3 = true := by decide
    simp only [f_X0_binds, b_X0_binds_63, N, C, hk', hn, hm, hr, hc, some_bind, s_in, bI_if0, ite_bI0, Bool.false_eq_true, ↓reduceIte, d1, d2, d4, d5, d6, dr, di12, di13, List.append_assoc, List.cons_append, List.nil_append]
    rfl
  · have hk' : ∀ L, gI 0 0 (H L) (some o) = some (4 : Int32) := hk
    have d1 : ((4 : Int32) = 1) = False := by decide
    have d2 : ((4 : Int32) = 2) = False := by decide
    have d3 : ((4 : Int32) = 3) = False := by decide
    have d5 : ((4 : Int32) = 5) = False := by decide
    have d6 : ((4 : Int32) = 6) = False := by decide
    have dr : ((4 : Int32) < 3 ∨ 6 < (4 : Int32)) = False := by decide
    have di12 : inS (4 : Int32) 1 2 = false := by decide
    have di13 : inS (4 : Int32) 1 3 = false := by decide
    simp only [f_X0_binds, b_X0_binds_63, N, C, hk', hn, hm, hr, hc, some_bind, s_in, bI_if0, ite_bI0, Bool.false_eq_true, ↓reduceIte, d1, d2, d3, d5, d6, dr, di12, di13, List.append_assoc, List.cons_append, List.nil_append]
    rfl
  · have hk' : ∀ L, gI 0 0 (H L) (some o) = some (5 : Int32) := hk
    have d1 : ((5 : Int32) = 1) = False := by decide
    have d2 : ((5 : Int32) = 2) = False := by decide
    have d3 : ((5 : Int32) = 3) = False := by decide
    have d4 : ((5 : Int32) = 4) = False := by decide
    have d6 : ((5 : Int32) = 6) = False := by decide
    have dr : ((5 : Int32) < 3 ∨ 6 < (5 : Int32)) = False := by decide
    have di12 : inS (5 : Int32) 1 2 = false := by decide
    have di13 : inS (5 : Int32) 1 3 = false := by decide
    simp only [f_X0_binds, b_X0_binds_63, N, C, hk', hn, hm, hr, hc, some_bind, s_in, bI_if0, ite_bI0, Bool.false_eq_true, ↓reduceIte, d1, d2, d3, d4, d6, dr, di12, di13, List.append_assoc, List.cons_append, List.nil_append]
    rfl
  · have hk' : ∀ L, gI 0 0 (H L) (some o) = some (6 : Int32) := hk
    have d1 : ((6 : Int32) = 1) = False := by decide
    have d2 : ((6 : Int32) = 2) = False := by decide
    have d3 : ((6 : Int32) = 3) = False := by decide
    have d4 : ((6 : Int32) = 4) = False := by decide
    have d5 : ((6 : Int32) = 5) = False := by decide
    have dr : ((6 : Int32) < 3 ∨ 6 < (6 : Int32)) = False := by decide
    have di12 : inS (6 : Int32) 1 2 = false := by decide
    have di13 : inS (6 : Int32) 1 3 = false := by decide
    simp only [f_X0_binds, b_X0_binds_63, N, C, hk', hn, hm, hr, hc, some_bind, s_in, bI_if0, ite_bI0, Bool.false_eq_true, ↓reduceIte, d1, d2, d3, d4, d5, dr, di12, di13, List.append_assoc, List.cons_append, List.nil_append]
    rfl
theorem k_tells0 {v : Nat} (h1 : 1 ≤ v) (h6 : v ≤ 6) (hk : ∀ L, gI 0 0 (H L) (some o) = some (nI v)) (hn : ∀ L, gI 0 1 (H L) (some o) = some nb) (hm : ∀ L, gI 0 2 (H L) (some o) = some mk) (hr : ∀ L a, f_X0_runs (some o) a (H L) = some (H (L ++ [a]))) (hc : ∀ (L : List Int32) (α : Type) (f : Option α), ck 0 (H L) (some o) f = f) (hne : ¬ mk = nb) (L : List Int32) (a : Int32) : f_X0_tells (some o) a (H L) = some (teV v nb mk a, H (L ++ teL v)) := by
  have N := fun L a => k_names h1 h6 hk hn hm hr hc L a
  have hd : ∀ s : Int32, dvI s (mk - nb) = some (s / (mk - nb)) := fun s => by rw [dvI, if_neg (fun q => hne (sub0 q))]
  have i10 : ((1 : Int32) = 0) = False := by decide
  rcases (by omega : v = 1 ∨ v = 2 ∨ v = 3 ∨ v = 4 ∨ v = 5 ∨ v = 6) with rfl | rfl | rfl | rfl | rfl | rfl
  · have hk' : ∀ L, gI 0 0 (H L) (some o) = some (1 : Int32) := hk
    have d2 : ((1 : Int32) = 2) = False := by decide
    have d3 : ((1 : Int32) = 3) = False := by decide
    have d4 : ((1 : Int32) = 4) = False := by decide
    have d5 : ((1 : Int32) = 5) = False := by decide
    have d6 : ((1 : Int32) = 6) = False := by decide
    have dr : ((1 : Int32) < 3 ∨ 6 < (1 : Int32)) = True := by decide
    have di12 : inS (1 : Int32) 1 2 = true := by decide
    have di13 : inS (1 : Int32) 1 3 = true := by decide
    simp only [f_X0_tells, b_X0_tells_22, b_X0_tells_38, b_X0_tells_48, b_X0_tells_61, b_X0_tells_97, b_X0_tells_120, b_X0_tells_130, f_X0_isSherd, N, hne, hd, i10, hk', hn, hm, hr, hc, some_bind, s_in, bI_if0, ite_bI0, Bool.false_eq_true, ↓reduceIte, d2, d3, d4, d5, d6, dr, di12, di13, List.append_assoc, List.cons_append, List.nil_append]
    rfl
  · have hk' : ∀ L, gI 0 0 (H L) (some o) = some (2 : Int32) := hk
    have d1 : ((2 : Int32) = 1) = False := by decide
    have d3 : ((2 : Int32) = 3) = False := by decide
    have d4 : ((2 : Int32) = 4) = False := by decide
    have d5 : ((2 : Int32) = 5) = False := by decide
    have d6 : ((2 : Int32) = 6) = False := by decide
    have dr : ((2 : Int32) < 3 ∨ 6 < (2 : Int32)) = True := by decide
    have di12 : inS (2 : Int32) 1 2 = true := by decide
    have di13 : inS (2 : Int32) 1 3 = true := by decide
    simp only [f_X0_tells, b_X0_tells_22, b_X0_tells_38, b_X0_tells_48, b_X0_tells_61, b_X0_tells_97, b_X0_tells_120, b_X0_tells_130, f_X0_isSherd, N, hne, hd, i10, hk', hn, hm, hr, hc, some_bind, s_in, bI_if0, ite_bI0, Bool.false_eq_true, ↓reduceIte, d1, d3, d4, d5, d6, dr, di12, di13, List.append_assoc, List.cons_append, List.nil_append]
    rfl
  · have hk' : ∀ L, gI 0 0 (H L) (some o) = some (3 : Int32) := hk
    have d1 : ((3 : Int32) = 1) = False := by decide
    have d2 : ((3 : Int32) = 2) = False := by decide
    have d4 : ((3 : Int32) = 4) = False := by decide
    have d5 : ((3 : Int32) = 5) = False := by decide
    have d6 : ((3 : Int32) = 6) = False := by decide
    have dr : ((3 : Int32) < 3 ∨ 6 < (3 : Int32)) = False := by decide
    have di12 : inS (3 : Int32) 1 2 = false := by decide
    have di13 : inS (3 : Int32) 1 3 = true := by decide
    simp only [f_X0_tells, b_X0_tells_22, b_X0_tells_38, b_X0_tells_48, b_X0_tells_61, b_X0_tells_97, b_X0_tells_120, b_X0_tells_130, f_X0_isSherd, N, hne, hd, i10, hk', hn, hm, hr, hc, some_bind, s_in, bI_if0, ite_bI0, Bool.false_eq_true, ↓reduceIte, d1, d2, d4, d5, d6, dr, di12, di13, List.append_assoc, List.cons_append, List.nil_append]
    rfl
  · have hk' : ∀ L, gI 0 0 (H L) (some o) = some (4 : Int32) := hk
    have d1 : ((4 : Int32) = 1) = False := by decide
    have d2 : ((4 : Int32) = 2) = False := by decide
    have d3 : ((4 : Int32) = 3) = False := by decide
    have d5 : ((4 : Int32) = 5) = False := by decide
    have d6 : ((4 : Int32) = 6) = False := by decide
    have dr : ((4 : Int32) < 3 ∨ 6 < (4 : Int32)) = False := by decide
    have di12 : inS (4 : Int32) 1 2 = false := by decide
    have di13 : inS (4 : Int32) 1 3 = false := by decide
    simp only [f_X0_tells, b_X0_tells_22, b_X0_tells_38, b_X0_tells_48, b_X0_tells_61, b_X0_tells_97, b_X0_tells_120, b_X0_tells_130, f_X0_isSherd, N, hne, hd, i10, hk', hn, hm, hr, hc, some_bind, s_in, bI_if0, ite_bI0, Bool.false_eq_true, ↓reduceIte, d1, d2, d3, d5, d6, dr, di12, di13, List.append_assoc, List.cons_append, List.nil_append]
    rfl
  · have hk' : ∀ L, gI 0 0 (H L) (some o) = some (5 : Int32) := hk
    have d1 : ((5 : Int32) = 1) = False := by decide
    have d2 : ((5 : Int32) = 2) = False := by decide
    have d3 : ((5 : Int32) = 3) = False := by decide
    have d4 : ((5 : Int32) = 4) = False := by decide
    have d6 : ((5 : Int32) = 6) = False := by decide
    have dr : ((5 : Int32) < 3 ∨ 6 < (5 : Int32)) = False := by decide
    have di12 : inS (5 : Int32) 1 2 = false := by decide
    have di13 : inS (5 : Int32) 1 3 = false := by decide
    simp only [f_X0_tells, b_X0_tells_22, b_X0_tells_38, b_X0_tells_48, b_X0_tells_61, b_X0_tells_97, b_X0_tells_120, b_X0_tells_130, f_X0_isSherd, N, hne, hd, i10, hk', hn, hm, hr, hc, some_bind, s_in, bI_if0, ite_bI0, Bool.false_eq_true, ↓reduceIte, d1, d2, d3, d4, d6, dr, di12, di13, List.append_assoc, List.cons_append, List.nil_append]
    rfl
  · have hk' : ∀ L, gI 0 0 (H L) (some o) = some (6 : Int32) := hk
    have d1 : ((6 : Int32) = 1) = False := by decide
    have d2 : ((6 : Int32) = 2) = False := by decide
    have d3 : ((6 : Int32) = 3) = False := by decide
    have d4 : ((6 : Int32) = 4) = False := by decide
    have d5 : ((6 : Int32) = 5) = False := by decide
    have dr : ((6 : Int32) < 3 ∨ 6 < (6 : Int32)) = False := by decide
    have di12 : inS (6 : Int32) 1 2 = false := by decide
    have di13 : inS (6 : Int32) 1 3 = false := by decide
    simp only [f_X0_tells, b_X0_tells_22, b_X0_tells_38, b_X0_tells_48, b_X0_tells_61, b_X0_tells_97, b_X0_tells_120, b_X0_tells_130, f_X0_isSherd, N, hne, hd, i10, hk', hn, hm, hr, hc, some_bind, s_in, bI_if0, ite_bI0, Bool.false_eq_true, ↓reduceIte, d1, d2, d3, d4, d5, dr, di12, di13, List.append_assoc, List.cons_append, List.nil_append]
    rfl
theorem k_tells1 {v : Nat} (h1 : 1 ≤ v) (h6 : v ≤ 6) (hk : ∀ L, gI 0 0 (H L) (some o) = some (nI v)) (hn : ∀ L, gI 0 1 (H L) (some o) = some nb) (hm : ∀ L, gI 0 2 (H L) (some o) = some mk) (hr : ∀ L a, f_X0_runs (some o) a (H L) = some (H (L ++ [a]))) (hc : ∀ (L : List Int32) (α : Type) (f : Option α), ck 0 (H L) (some o) f = f) (hne : mk = nb) (L : List Int32) (a : Int32) : f_X0_tells (some o) a (H L) = (pZ 0 5 (H (L ++ teH v)) (some o) 1).bind fun h4 => some (0, h4) := by
  have i10 : ((1 : Int32) = 0) = False := by decide
  rcases (by omega : v = 1 ∨ v = 2 ∨ v = 3 ∨ v = 4 ∨ v = 5 ∨ v = 6) with rfl | rfl | rfl | rfl | rfl | rfl
  · have hk' : ∀ L, gI 0 0 (H L) (some o) = some (1 : Int32) := hk
    have d2 : ((1 : Int32) = 2) = False := by decide
    have d3 : ((1 : Int32) = 3) = False := by decide
    have d4 : ((1 : Int32) = 4) = False := by decide
    have d5 : ((1 : Int32) = 5) = False := by decide
    have d6 : ((1 : Int32) = 6) = False := by decide
    have dr : ((1 : Int32) < 3 ∨ 6 < (1 : Int32)) = True := by decide
    have di12 : inS (1 : Int32) 1 2 = true := by decide
    have di13 : inS (1 : Int32) 1 3 = true := by decide
    simp only [f_X0_tells, b_X0_tells_22, b_X0_tells_38, b_X0_tells_48, b_X0_tells_61, f_X0_isSherd, hne, i10, hk', hn, hm, hr, hc, some_bind, s_in, bI_if0, ite_bI0, Bool.false_eq_true, ↓reduceIte, d2, d3, d4, d5, d6, dr, di12, di13, List.append_assoc, List.cons_append, List.nil_append]
    rfl
  · have hk' : ∀ L, gI 0 0 (H L) (some o) = some (2 : Int32) := hk
    have d1 : ((2 : Int32) = 1) = False := by decide
    have d3 : ((2 : Int32) = 3) = False := by decide
    have d4 : ((2 : Int32) = 4) = False := by decide
    have d5 : ((2 : Int32) = 5) = False := by decide
    have d6 : ((2 : Int32) = 6) = False := by decide
    have dr : ((2 : Int32) < 3 ∨ 6 < (2 : Int32)) = True := by decide
    have di12 : inS (2 : Int32) 1 2 = true := by decide
    have di13 : inS (2 : Int32) 1 3 = true := by decide
    simp only [f_X0_tells, b_X0_tells_22, b_X0_tells_38, b_X0_tells_48, b_X0_tells_61, f_X0_isSherd, hne, i10, hk', hn, hm, hr, hc, some_bind, s_in, bI_if0, ite_bI0, Bool.false_eq_true, ↓reduceIte, d1, d3, d4, d5, d6, dr, di12, di13, List.append_assoc, List.cons_append, List.nil_append]
    rfl
  · have hk' : ∀ L, gI 0 0 (H L) (some o) = some (3 : Int32) := hk
    have d1 : ((3 : Int32) = 1) = False := by decide
    have d2 : ((3 : Int32) = 2) = False := by decide
    have d4 : ((3 : Int32) = 4) = False := by decide
    have d5 : ((3 : Int32) = 5) = False := by decide
    have d6 : ((3 : Int32) = 6) = False := by decide
    have dr : ((3 : Int32) < 3 ∨ 6 < (3 : Int32)) = False := by decide
    have di12 : inS (3 : Int32) 1 2 = false := by decide
    have di13 : inS (3 : Int32) 1 3 = true := by decide
    simp only [f_X0_tells, b_X0_tells_22, b_X0_tells_38, b_X0_tells_48, b_X0_tells_61, f_X0_isSherd, hne, i10, hk', hn, hm, hr, hc, some_bind, s_in, bI_if0, ite_bI0, Bool.false_eq_true, ↓reduceIte, d1, d2, d4, d5, d6, dr, di12, di13, List.append_assoc, List.cons_append, List.nil_append]
    rfl
  · have hk' : ∀ L, gI 0 0 (H L) (some o) = some (4 : Int32) := hk
    have d1 : ((4 : Int32) = 1) = False := by decide
    have d2 : ((4 : Int32) = 2) = False := by decide
    have d3 : ((4 : Int32) = 3) = False := by decide
    have d5 : ((4 : Int32) = 5) = False := by decide
    have d6 : ((4 : Int32) = 6) = False := by decide
    have dr : ((4 : Int32) < 3 ∨ 6 < (4 : Int32)) = False := by decide
    have di12 : inS (4 : Int32) 1 2 = false := by decide
    have di13 : inS (4 : Int32) 1 3 = false := by decide
    simp only [f_X0_tells, b_X0_tells_22, b_X0_tells_38, b_X0_tells_48, b_X0_tells_61, f_X0_isSherd, hne, i10, hk', hn, hm, hr, hc, some_bind, s_in, bI_if0, ite_bI0, Bool.false_eq_true, ↓reduceIte, d1, d2, d3, d5, d6, dr, di12, di13, List.append_assoc, List.cons_append, List.nil_append]
    rfl
  · have hk' : ∀ L, gI 0 0 (H L) (some o) = some (5 : Int32) := hk
    have d1 : ((5 : Int32) = 1) = False := by decide
    have d2 : ((5 : Int32) = 2) = False := by decide
    have d3 : ((5 : Int32) = 3) = False := by decide
    have d4 : ((5 : Int32) = 4) = False := by decide
    have d6 : ((5 : Int32) = 6) = False := by decide
    have dr : ((5 : Int32) < 3 ∨ 6 < (5 : Int32)) = False := by decide
    have di12 : inS (5 : Int32) 1 2 = false := by decide
    have di13 : inS (5 : Int32) 1 3 = false := by decide
    simp only [f_X0_tells, b_X0_tells_22, b_X0_tells_38, b_X0_tells_48, b_X0_tells_61, f_X0_isSherd, hne, i10, hk', hn, hm, hr, hc, some_bind, s_in, bI_if0, ite_bI0, Bool.false_eq_true, ↓reduceIte, d1, d2, d3, d4, d6, dr, di12, di13, List.append_assoc, List.cons_append, List.nil_append]
    rfl
  · have hk' : ∀ L, gI 0 0 (H L) (some o) = some (6 : Int32) := hk
    have d1 : ((6 : Int32) = 1) = False := by decide
    have d2 : ((6 : Int32) = 2) = False := by decide
    have d3 : ((6 : Int32) = 3) = False := by decide
    have d4 : ((6 : Int32) = 4) = False := by decide
    have d5 : ((6 : Int32) = 5) = False := by decide
    have dr : ((6 : Int32) < 3 ∨ 6 < (6 : Int32)) = False := by decide
    have di12 : inS (6 : Int32) 1 2 = false := by decide
    have di13 : inS (6 : Int32) 1 3 = false := by decide
    simp only [f_X0_tells, b_X0_tells_22, b_X0_tells_38, b_X0_tells_48, b_X0_tells_61, f_X0_isSherd, hne, i10, hk', hn, hm, hr, hc, some_bind, s_in, bI_if0, ite_bI0, Bool.false_eq_true, ↓reduceIte, d1, d2, d3, d4, d5, dr, di12, di13, List.append_assoc, List.cons_append, List.nil_append]
    rfl
theorem m_names {v : Nat} (h1 : 1 ≤ v) (h6 : v ≤ 6) (hk : ∀ L, gI 12 39 (H L) (some o) = some (nI v)) (hn : ∀ L, gI 12 40 (H L) (some o) = some nb) (hm : ∀ L, gI 12 41 (H L) (some o) = some mk) (hr : ∀ L a, f_X12_begins (some o) a (H L) = some (H (L ++ [a]))) (hc : ∀ (L : List Int32) (α : Type) (f : Option α), ck 12 (H L) (some o) f = f) (L : List Int32) (a : Int32) : f_X12_names (some o) a (H L) = some (naV v nb a, H (L ++ naL v)) := by
  rcases (by omega : v = 1 ∨ v = 2 ∨ v = 3 ∨ v = 4 ∨ v = 5 ∨ v = 6) with rfl | rfl | rfl | rfl | rfl | rfl
  · have hk' : ∀ L, gI 12 39 (H L) (some o) = some (1 : Int32) := hk
    have d2 : ((1 : Int32) = 2) = False := by decide
    have d3 : ((1 : Int32) = 3) = False := by decide
    have d4 : ((1 : Int32) = 4) = False := by decide
    have d5 : ((1 : Int32) = 5) = False := by decide
    have d6 : ((1 : Int32) = 6) = False := by decide
    have dr : ((1 : Int32) < 3 ∨ 6 < (1 : Int32)) = True := by decide
    have di12 : inS (1 : Int32) 1 2 = true := by decide
    have di13 : inS (1 : Int32) 1 3 = true := by decide
    simp only [f_X12_names, f_X12_thingNames, hk', hn, hm, hr, hc, some_bind, s_in, bI_if0, ite_bI0, Bool.false_eq_true, ↓reduceIte, d2, d3, d4, d5, d6, dr, di12, di13, List.append_assoc, List.cons_append, List.nil_append]
    rfl
  · have hk' : ∀ L, gI 12 39 (H L) (some o) = some (2 : Int32) := hk
    have d1 : ((2 : Int32) = 1) = False := by decide
    have d3 : ((2 : Int32) = 3) = False := by decide
    have d4 : ((2 : Int32) = 4) = False := by decide
    have d5 : ((2 : Int32) = 5) = False := by decide
    have d6 : ((2 : Int32) = 6) = False := by decide
    have dr : ((2 : Int32) < 3 ∨ 6 < (2 : Int32)) = True := by decide
    have di12 : inS (2 : Int32) 1 2 = true := by decide
    have di13 : inS (2 : Int32) 1 3 = true := by decide
    simp only [f_X12_names, f_X12_thingNames, hk', hn, hm, hr, hc, some_bind, s_in, bI_if0, ite_bI0, Bool.false_eq_true, ↓reduceIte, d1, d3, d4, d5, d6, dr, di12, di13, List.append_assoc, List.cons_append, List.nil_append]
    rfl
  · have hk' : ∀ L, gI 12 39 (H L) (some o) = some (3 : Int32) := hk
    have d1 : ((3 : Int32) = 1) = False := by decide
    have d2 : ((3 : Int32) = 2) = False := by decide
    have d4 : ((3 : Int32) = 4) = False := by decide
    have d5 : ((3 : Int32) = 5) = False := by decide
    have d6 : ((3 : Int32) = 6) = False := by decide
    have dr : ((3 : Int32) < 3 ∨ 6 < (3 : Int32)) = False := by decide
    have di12 : inS (3 : Int32) 1 2 = false := by decide
    have di13 : inS (3 : Int32) 1 3 = true := by decide
    simp only [f_X12_names, f_X12_thingNames, hk', hn, hm, hr, hc, some_bind, s_in, bI_if0, ite_bI0, Bool.false_eq_true, ↓reduceIte, d1, d2, d4, d5, d6, dr, di12, di13, List.append_assoc, List.cons_append, List.nil_append]
    rfl
  · have hk' : ∀ L, gI 12 39 (H L) (some o) = some (4 : Int32) := hk
    have d1 : ((4 : Int32) = 1) = False := by decide
    have d2 : ((4 : Int32) = 2) = False := by decide
    have d3 : ((4 : Int32) = 3) = False := by decide
    have d5 : ((4 : Int32) = 5) = False := by decide
    have d6 : ((4 : Int32) = 6) = False := by decide
    have dr : ((4 : Int32) < 3 ∨ 6 < (4 : Int32)) = False := by decide
    have di12 : inS (4 : Int32) 1 2 = false := by decide
    have di13 : inS (4 : Int32) 1 3 = false := by decide
    simp only [f_X12_names, f_X12_thingNames, hk', hn, hm, hr, hc, some_bind, s_in, bI_if0, ite_bI0, Bool.false_eq_true, ↓reduceIte, d1, d2, d3, d5, d6, dr, di12, di13, List.append_assoc, List.cons_append, List.nil_append]
    rfl
  · have hk' : ∀ L, gI 12 39 (H L) (some o) = some (5 : Int32) := hk
    have d1 : ((5 : Int32) = 1) = False := by decide
    have d2 : ((5 : Int32) = 2) = False := by decide
    have d3 : ((5 : Int32) = 3) = False := by decide
    have d4 : ((5 : Int32) = 4) = False := by decide
    have d6 : ((5 : Int32) = 6) = False := by decide
    have dr : ((5 : Int32) < 3 ∨ 6 < (5 : Int32)) = False := by decide
    have di12 : inS (5 : Int32) 1 2 = false := by decide
    have di13 : inS (5 : Int32) 1 3 = false := by decide
    simp only [f_X12_names, f_X12_thingNames, hk', hn, hm, hr, hc, some_bind, s_in, bI_if0, ite_bI0, Bool.false_eq_true, ↓reduceIte, d1, d2, d3, d4, d6, dr, di12, di13, List.append_assoc, List.cons_append, List.nil_append]
    rfl
  · have hk' : ∀ L, gI 12 39 (H L) (some o) = some (6 : Int32) := hk
    have d1 : ((6 : Int32) = 1) = False := by decide
    have d2 : ((6 : Int32) = 2) = False := by decide
    have d3 : ((6 : Int32) = 3) = False := by decide
    have d4 : ((6 : Int32) = 4) = False := by decide
    have d5 : ((6 : Int32) = 5) = False := by decide
    have dr : ((6 : Int32) < 3 ∨ 6 < (6 : Int32)) = False := by decide
    have di12 : inS (6 : Int32) 1 2 = false := by decide
    have di13 : inS (6 : Int32) 1 3 = false := by decide
    simp only [f_X12_names, f_X12_thingNames, hk', hn, hm, hr, hc, some_bind, s_in, bI_if0, ite_bI0, Bool.false_eq_true, ↓reduceIte, d1, d2, d3, d4, d5, dr, di12, di13, List.append_assoc, List.cons_append, List.nil_append]
    rfl
theorem m_counts {v : Nat} (h1 : 1 ≤ v) (h6 : v ≤ 6) (hk : ∀ L, gI 12 39 (H L) (some o) = some (nI v)) (hn : ∀ L, gI 12 40 (H L) (some o) = some nb) (hm : ∀ L, gI 12 41 (H L) (some o) = some mk) (hr : ∀ L a, f_X12_begins (some o) a (H L) = some (H (L ++ [a]))) (hc : ∀ (L : List Int32) (α : Type) (f : Option α), ck 12 (H L) (some o) f = f) (L : List Int32) (a : Int32) : f_X12_counts (some o) a (H L) = some (coV v nb mk a, H (L ++ coL v)) := by
  have N := fun L a => m_names h1 h6 hk hn hm hr hc L a
  rcases (by omega : v = 1 ∨ v = 2 ∨ v = 3 ∨ v = 4 ∨ v = 5 ∨ v = 6) with rfl | rfl | rfl | rfl | rfl | rfl
  · have hk' : ∀ L, gI 12 39 (H L) (some o) = some (1 : Int32) := hk
    have d2 : ((1 : Int32) = 2) = False := by decide
    have d3 : ((1 : Int32) = 3) = False := by decide
    have d4 : ((1 : Int32) = 4) = False := by decide
    have d5 : ((1 : Int32) = 5) = False := by decide
    have d6 : ((1 : Int32) = 6) = False := by decide
    have dr : ((1 : Int32) < 3 ∨ 6 < (1 : Int32)) = True := by decide
    have di12 : inS (1 : Int32) 1 2 = true := by decide
    have di13 : inS (1 : Int32) 1 3 = true := by decide
    simp only [f_X12_counts, f_X12_thingCounts, f_X12_sherdCounts, N, hk', hn, hm, hr, hc, some_bind, s_in, bI_if0, ite_bI0, Bool.false_eq_true, ↓reduceIte, d2, d3, d4, d5, d6, dr, di12, di13, List.append_assoc, List.cons_append, List.nil_append]
    rfl
  · have hk' : ∀ L, gI 12 39 (H L) (some o) = some (2 : Int32) := hk
    have d1 : ((2 : Int32) = 1) = False := by decide
    have d3 : ((2 : Int32) = 3) = False := by decide
    have d4 : ((2 : Int32) = 4) = False := by decide
    have d5 : ((2 : Int32) = 5) = False := by decide
    have d6 : ((2 : Int32) = 6) = False := by decide
    have dr : ((2 : Int32) < 3 ∨ 6 < (2 : Int32)) = True := by decide
    have di12 : inS (2 : Int32) 1 2 = true := by decide
    have di13 : inS (2 : Int32) 1 3 = true := by decide
    simp only [f_X12_counts, f_X12_thingCounts, f_X12_sherdCounts, N, hk', hn, hm, hr, hc, some_bind, s_in, bI_if0, ite_bI0, Bool.false_eq_true, ↓reduceIte, d1, d3, d4, d5, d6, dr, di12, di13, List.append_assoc, List.cons_append, List.nil_append]
    rfl
  · have hk' : ∀ L, gI 12 39 (H L) (some o) = some (3 : Int32) := hk
    have d1 : ((3 : Int32) = 1) = False := by decide
    have d2 : ((3 : Int32) = 2) = False := by decide
    have d4 : ((3 : Int32) = 4) = False := by decide
    have d5 : ((3 : Int32) = 5) = False := by decide
    have d6 : ((3 : Int32) = 6) = False := by decide
    have dr : ((3 : Int32) < 3 ∨ 6 < (3 : Int32)) = False := by decide
    have di12 : inS (3 : Int32) 1 2 = false := by decide
    have di13 : inS (3 : Int32) 1 3 = true := by decide
    simp only [f_X12_counts, f_X12_thingCounts, f_X12_sherdCounts, N, hk', hn, hm, hr, hc, some_bind, s_in, bI_if0, ite_bI0, Bool.false_eq_true, ↓reduceIte, d1, d2, d4, d5, d6, dr, di12, di13, List.append_assoc, List.cons_append, List.nil_append]
    rfl
  · have hk' : ∀ L, gI 12 39 (H L) (some o) = some (4 : Int32) := hk
    have d1 : ((4 : Int32) = 1) = False := by decide
    have d2 : ((4 : Int32) = 2) = False := by decide
    have d3 : ((4 : Int32) = 3) = False := by decide
    have d5 : ((4 : Int32) = 5) = False := by decide
    have d6 : ((4 : Int32) = 6) = False := by decide
    have dr : ((4 : Int32) < 3 ∨ 6 < (4 : Int32)) = False := by decide
    have di12 : inS (4 : Int32) 1 2 = false := by decide
    have di13 : inS (4 : Int32) 1 3 = false := by decide
    simp only [f_X12_counts, f_X12_thingCounts, f_X12_sherdCounts, N, hk', hn, hm, hr, hc, some_bind, s_in, bI_if0, ite_bI0, Bool.false_eq_true, ↓reduceIte, d1, d2, d3, d5, d6, dr, di12, di13, List.append_assoc, List.cons_append, List.nil_append]
    rfl
  · have hk' : ∀ L, gI 12 39 (H L) (some o) = some (5 : Int32) := hk
    have d1 : ((5 : Int32) = 1) = False := by decide
    have d2 : ((5 : Int32) = 2) = False := by decide
    have d3 : ((5 : Int32) = 3) = False := by decide
    have d4 : ((5 : Int32) = 4) = False := by decide
    have d6 : ((5 : Int32) = 6) = False := by decide
    have dr : ((5 : Int32) < 3 ∨ 6 < (5 : Int32)) = False := by decide
    have di12 : inS (5 : Int32) 1 2 = false := by decide
    have di13 : inS (5 : Int32) 1 3 = false := by decide
    simp only [f_X12_counts, f_X12_thingCounts, f_X12_sherdCounts, N, hk', hn, hm, hr, hc, some_bind, s_in, bI_if0, ite_bI0, Bool.false_eq_true, ↓reduceIte, d1, d2, d3, d4, d6, dr, di12, di13, List.append_assoc, List.cons_append, List.nil_append]
    rfl
  · have hk' : ∀ L, gI 12 39 (H L) (some o) = some (6 : Int32) := hk
    have d1 : ((6 : Int32) = 1) = False := by decide
    have d2 : ((6 : Int32) = 2) = False := by decide
    have d3 : ((6 : Int32) = 3) = False := by decide
    have d4 : ((6 : Int32) = 4) = False := by decide
    have d5 : ((6 : Int32) = 5) = False := by decide
    have dr : ((6 : Int32) < 3 ∨ 6 < (6 : Int32)) = False := by decide
    have di12 : inS (6 : Int32) 1 2 = false := by decide
    have di13 : inS (6 : Int32) 1 3 = false := by decide
    simp only [f_X12_counts, f_X12_thingCounts, f_X12_sherdCounts, N, hk', hn, hm, hr, hc, some_bind, s_in, bI_if0, ite_bI0, Bool.false_eq_true, ↓reduceIte, d1, d2, d3, d4, d5, dr, di12, di13, List.append_assoc, List.cons_append, List.nil_append]
    rfl
theorem m_binds {v : Nat} (h1 : 1 ≤ v) (h6 : v ≤ 6) (hk : ∀ L, gI 12 39 (H L) (some o) = some (nI v)) (hn : ∀ L, gI 12 40 (H L) (some o) = some nb) (hm : ∀ L, gI 12 41 (H L) (some o) = some mk) (hr : ∀ L a, f_X12_begins (some o) a (H L) = some (H (L ++ [a]))) (hc : ∀ (L : List Int32) (α : Type) (f : Option α), ck 12 (H L) (some o) f = f) (L : List Int32) (a : Int32) : f_X12_binds (some o) a (H L) = some (biV v nb mk a, H (L ++ biL v)) := by
  have N := fun L a => m_names h1 h6 hk hn hm hr hc L a
  have C := fun L a => m_counts h1 h6 hk hn hm hr hc L a
  rcases (by omega : v = 1 ∨ v = 2 ∨ v = 3 ∨ v = 4 ∨ v = 5 ∨ v = 6) with rfl | rfl | rfl | rfl | rfl | rfl
  · have hk' : ∀ L, gI 12 39 (H L) (some o) = some (1 : Int32) := hk
    have d2 : ((1 : Int32) = 2) = False := by decide
    have d3 : ((1 : Int32) = 3) = False := by decide
    have d4 : ((1 : Int32) = 4) = False := by decide
    have d5 : ((1 : Int32) = 5) = False := by decide
    have d6 : ((1 : Int32) = 6) = False := by decide
    have dr : ((1 : Int32) < 3 ∨ 6 < (1 : Int32)) = True := by decide
    have di12 : inS (1 : Int32) 1 2 = true := by decide
    have di13 : inS (1 : Int32) 1 3 = true := by decide
    simp only [f_X12_binds, f_X12_thingBinds, N, C, hk', hn, hm, hr, hc, some_bind, s_in, bI_if0, ite_bI0, Bool.false_eq_true, ↓reduceIte, d2, d3, d4, d5, d6, dr, di12, di13, List.append_assoc, List.cons_append, List.nil_append]
    rfl
  · have hk' : ∀ L, gI 12 39 (H L) (some o) = some (2 : Int32) := hk
    have d1 : ((2 : Int32) = 1) = False := by decide
    have d3 : ((2 : Int32) = 3) = False := by decide
    have d4 : ((2 : Int32) = 4) = False := by decide
    have d5 : ((2 : Int32) = 5) = False := by decide
    have d6 : ((2 : Int32) = 6) = False := by decide
    have dr : ((2 : Int32) < 3 ∨ 6 < (2 : Int32)) = True := by decide
    have di12 : inS (2 : Int32) 1 2 = true := by decide
    have di13 : inS (2 : Int32) 1 3 = true := by decide
    simp only [f_X12_binds, f_X12_thingBinds, N, C, hk', hn, hm, hr, hc, some_bind, s_in, bI_if0, ite_bI0, Bool.false_eq_true, ↓reduceIte, d1, d3, d4, d5, d6, dr, di12, di13, List.append_assoc, List.cons_append, List.nil_append]
    rfl
  · have hk' : ∀ L, gI 12 39 (H L) (some o) = some (3 : Int32) := hk
    have d1 : ((3 : Int32) = 1) = False := by decide
    have d2 : ((3 : Int32) = 2) = False := by decide
    have d4 : ((3 : Int32) = 4) = False := by decide
    have d5 : ((3 : Int32) = 5) = False := by decide
    have d6 : ((3 : Int32) = 6) = False := by decide
    have dr : ((3 : Int32) < 3 ∨ 6 < (3 : Int32)) = False := by decide
    have di12 : inS (3 : Int32) 1 2 = false := by decide
    have di13 : inS (3 : Int32) 1 3 = true := by decide
    simp only [f_X12_binds, f_X12_thingBinds, N, C, hk', hn, hm, hr, hc, some_bind, s_in, bI_if0, ite_bI0, Bool.false_eq_true, ↓reduceIte, d1, d2, d4, d5, d6, dr, di12, di13, List.append_assoc, List.cons_append, List.nil_append]
    rfl
  · have hk' : ∀ L, gI 12 39 (H L) (some o) = some (4 : Int32) := hk
    have d1 : ((4 : Int32) = 1) = False := by decide
    have d2 : ((4 : Int32) = 2) = False := by decide
    have d3 : ((4 : Int32) = 3) = False := by decide
    have d5 : ((4 : Int32) = 5) = False := by decide
    have d6 : ((4 : Int32) = 6) = False := by decide
    have dr : ((4 : Int32) < 3 ∨ 6 < (4 : Int32)) = False := by decide
    have di12 : inS (4 : Int32) 1 2 = false := by decide
    have di13 : inS (4 : Int32) 1 3 = false := by decide
    simp only [f_X12_binds, f_X12_thingBinds, N, C, hk', hn, hm, hr, hc, some_bind, s_in, bI_if0, ite_bI0, Bool.false_eq_true, ↓reduceIte, d1, d2, d3, d5, d6, dr, di12, di13, List.append_assoc, List.cons_append, List.nil_append]
    rfl
  · have hk' : ∀ L, gI 12 39 (H L) (some o) = some (5 : Int32) := hk
    have d1 : ((5 : Int32) = 1) = False := by decide
    have d2 : ((5 : Int32) = 2) = False := by decide
    have d3 : ((5 : Int32) = 3) = False := by decide
    have d4 : ((5 : Int32) = 4) = False := by decide
    have d6 : ((5 : Int32) = 6) = False := by decide
    have dr : ((5 : Int32) < 3 ∨ 6 < (5 : Int32)) = False := by decide
    have di12 : inS (5 : Int32) 1 2 = false := by decide
    have di13 : inS (5 : Int32) 1 3 = false := by decide
    simp only [f_X12_binds, f_X12_thingBinds, N, C, hk', hn, hm, hr, hc, some_bind, s_in, bI_if0, ite_bI0, Bool.false_eq_true, ↓reduceIte, d1, d2, d3, d4, d6, dr, di12, di13, List.append_assoc, List.cons_append, List.nil_append]
    rfl
  · have hk' : ∀ L, gI 12 39 (H L) (some o) = some (6 : Int32) := hk
    have d1 : ((6 : Int32) = 1) = False := by decide
    have d2 : ((6 : Int32) = 2) = False := by decide
    have d3 : ((6 : Int32) = 3) = False := by decide
    have d4 : ((6 : Int32) = 4) = False := by decide
    have d5 : ((6 : Int32) = 5) = False := by decide
    have dr : ((6 : Int32) < 3 ∨ 6 < (6 : Int32)) = False := by decide
    have di12 : inS (6 : Int32) 1 2 = false := by decide
    have di13 : inS (6 : Int32) 1 3 = false := by decide
    simp only [f_X12_binds, f_X12_thingBinds, N, C, hk', hn, hm, hr, hc, some_bind, s_in, bI_if0, ite_bI0, Bool.false_eq_true, ↓reduceIte, d1, d2, d3, d4, d5, dr, di12, di13, List.append_assoc, List.cons_append, List.nil_append]
    rfl
theorem m_tells0 {v : Nat} (h1 : 1 ≤ v) (h6 : v ≤ 6) (hk : ∀ L, gI 12 39 (H L) (some o) = some (nI v)) (hn : ∀ L, gI 12 40 (H L) (some o) = some nb) (hm : ∀ L, gI 12 41 (H L) (some o) = some mk) (hr : ∀ L a, f_X12_begins (some o) a (H L) = some (H (L ++ [a]))) (hc : ∀ (L : List Int32) (α : Type) (f : Option α), ck 12 (H L) (some o) f = f) (hne : ¬ mk = nb) (h42 : ∀ L, gI 12 42 (H L) (some o) = some 0) (hz : ∀ L, pZ 12 42 (H L) (some o) 0 = some (H L)) (L : List Int32) (a : Int32) : f_X12_tells (some o) a (H L) = some (teV v nb mk a, H (L ++ teL v)) := by
  have N := fun L a => m_names h1 h6 hk hn hm hr hc L a
  have hd : ∀ s : Int32, dvI s (mk - nb) = some (s / (mk - nb)) := fun s => by rw [dvI, if_neg (fun q => hne (sub0 q))]
  rcases (by omega : v = 1 ∨ v = 2 ∨ v = 3 ∨ v = 4 ∨ v = 5 ∨ v = 6) with rfl | rfl | rfl | rfl | rfl | rfl
  · have hk' : ∀ L, gI 12 39 (H L) (some o) = some (1 : Int32) := hk
    have d2 : ((1 : Int32) = 2) = False := by decide
    have d3 : ((1 : Int32) = 3) = False := by decide
    have d4 : ((1 : Int32) = 4) = False := by decide
    have d5 : ((1 : Int32) = 5) = False := by decide
    have d6 : ((1 : Int32) = 6) = False := by decide
    have dr : ((1 : Int32) < 3 ∨ 6 < (1 : Int32)) = True := by decide
    have di12 : inS (1 : Int32) 1 2 = true := by decide
    have di13 : inS (1 : Int32) 1 3 = true := by decide
    simp only [f_X12_tells, f_X12_thingTells, b_X12_thingTells_23, f_X12_sentTells, N, hne, hd, h42, hz, hk', hn, hm, hr, hc, some_bind, s_in, bI_if0, ite_bI0, Bool.false_eq_true, ↓reduceIte, d2, d3, d4, d5, d6, dr, di12, di13, List.append_assoc, List.cons_append, List.nil_append]
    rfl
  · have hk' : ∀ L, gI 12 39 (H L) (some o) = some (2 : Int32) := hk
    have d1 : ((2 : Int32) = 1) = False := by decide
    have d3 : ((2 : Int32) = 3) = False := by decide
    have d4 : ((2 : Int32) = 4) = False := by decide
    have d5 : ((2 : Int32) = 5) = False := by decide
    have d6 : ((2 : Int32) = 6) = False := by decide
    have dr : ((2 : Int32) < 3 ∨ 6 < (2 : Int32)) = True := by decide
    have di12 : inS (2 : Int32) 1 2 = true := by decide
    have di13 : inS (2 : Int32) 1 3 = true := by decide
    simp only [f_X12_tells, f_X12_thingTells, b_X12_thingTells_23, f_X12_sentTells, N, hne, hd, h42, hz, hk', hn, hm, hr, hc, some_bind, s_in, bI_if0, ite_bI0, Bool.false_eq_true, ↓reduceIte, d1, d3, d4, d5, d6, dr, di12, di13, List.append_assoc, List.cons_append, List.nil_append]
    rfl
  · have hk' : ∀ L, gI 12 39 (H L) (some o) = some (3 : Int32) := hk
    have d1 : ((3 : Int32) = 1) = False := by decide
    have d2 : ((3 : Int32) = 2) = False := by decide
    have d4 : ((3 : Int32) = 4) = False := by decide
    have d5 : ((3 : Int32) = 5) = False := by decide
    have d6 : ((3 : Int32) = 6) = False := by decide
    have dr : ((3 : Int32) < 3 ∨ 6 < (3 : Int32)) = False := by decide
    have di12 : inS (3 : Int32) 1 2 = false := by decide
    have di13 : inS (3 : Int32) 1 3 = true := by decide
    simp only [f_X12_tells, f_X12_thingTells, b_X12_thingTells_23, f_X12_sentTells, N, hne, hd, h42, hz, hk', hn, hm, hr, hc, some_bind, s_in, bI_if0, ite_bI0, Bool.false_eq_true, ↓reduceIte, d1, d2, d4, d5, d6, dr, di12, di13, List.append_assoc, List.cons_append, List.nil_append]
    rfl
  · have hk' : ∀ L, gI 12 39 (H L) (some o) = some (4 : Int32) := hk
    have d1 : ((4 : Int32) = 1) = False := by decide
    have d2 : ((4 : Int32) = 2) = False := by decide
    have d3 : ((4 : Int32) = 3) = False := by decide
    have d5 : ((4 : Int32) = 5) = False := by decide
    have d6 : ((4 : Int32) = 6) = False := by decide
    have dr : ((4 : Int32) < 3 ∨ 6 < (4 : Int32)) = False := by decide
    have di12 : inS (4 : Int32) 1 2 = false := by decide
    have di13 : inS (4 : Int32) 1 3 = false := by decide
    simp only [f_X12_tells, f_X12_thingTells, b_X12_thingTells_23, f_X12_sentTells, N, hne, hd, h42, hz, hk', hn, hm, hr, hc, some_bind, s_in, bI_if0, ite_bI0, Bool.false_eq_true, ↓reduceIte, d1, d2, d3, d5, d6, dr, di12, di13, List.append_assoc, List.cons_append, List.nil_append]
    rfl
  · have hk' : ∀ L, gI 12 39 (H L) (some o) = some (5 : Int32) := hk
    have d1 : ((5 : Int32) = 1) = False := by decide
    have d2 : ((5 : Int32) = 2) = False := by decide
    have d3 : ((5 : Int32) = 3) = False := by decide
    have d4 : ((5 : Int32) = 4) = False := by decide
    have d6 : ((5 : Int32) = 6) = False := by decide
    have dr : ((5 : Int32) < 3 ∨ 6 < (5 : Int32)) = False := by decide
    have di12 : inS (5 : Int32) 1 2 = false := by decide
    have di13 : inS (5 : Int32) 1 3 = false := by decide
    simp only [f_X12_tells, f_X12_thingTells, b_X12_thingTells_23, f_X12_sentTells, N, hne, hd, h42, hz, hk', hn, hm, hr, hc, some_bind, s_in, bI_if0, ite_bI0, Bool.false_eq_true, ↓reduceIte, d1, d2, d3, d4, d6, dr, di12, di13, List.append_assoc, List.cons_append, List.nil_append]
    rfl
  · have hk' : ∀ L, gI 12 39 (H L) (some o) = some (6 : Int32) := hk
    have d1 : ((6 : Int32) = 1) = False := by decide
    have d2 : ((6 : Int32) = 2) = False := by decide
    have d3 : ((6 : Int32) = 3) = False := by decide
    have d4 : ((6 : Int32) = 4) = False := by decide
    have d5 : ((6 : Int32) = 5) = False := by decide
    have dr : ((6 : Int32) < 3 ∨ 6 < (6 : Int32)) = False := by decide
    have di12 : inS (6 : Int32) 1 2 = false := by decide
    have di13 : inS (6 : Int32) 1 3 = false := by decide
    simp only [f_X12_tells, f_X12_thingTells, b_X12_thingTells_23, f_X12_sentTells, N, hne, hd, h42, hz, hk', hn, hm, hr, hc, some_bind, s_in, bI_if0, ite_bI0, Bool.false_eq_true, ↓reduceIte, d1, d2, d3, d4, d5, dr, di12, di13, List.append_assoc, List.cons_append, List.nil_append]
    rfl
theorem m_tells1 {v : Nat} (h1 : 1 ≤ v) (h6 : v ≤ 6) (hk : ∀ L, gI 12 39 (H L) (some o) = some (nI v)) (hn : ∀ L, gI 12 40 (H L) (some o) = some nb) (hm : ∀ L, gI 12 41 (H L) (some o) = some mk) (hr : ∀ L a, f_X12_begins (some o) a (H L) = some (H (L ++ [a]))) (hc : ∀ (L : List Int32) (α : Type) (f : Option α), ck 12 (H L) (some o) f = f) (hne : mk = nb) (H1 : List Int32 → AH) (h42 : ∀ L, gI 12 42 (H1 L) (some o) = some 1) (hz : ∀ L, pZ 12 42 (H L) (some o) 1 = some (H1 L)) (L : List Int32) (a : Int32) : ∃ w, f_X12_tells (some o) a (H L) = some (w, H1 (L ++ teH v)) := by
  have i10 : ((1 : Int32) = 0) = False := by decide
  rcases (by omega : v = 1 ∨ v = 2 ∨ v = 3 ∨ v = 4 ∨ v = 5 ∨ v = 6) with rfl | rfl | rfl | rfl | rfl | rfl
  · have hk' : ∀ L, gI 12 39 (H L) (some o) = some (1 : Int32) := hk
    have d2 : ((1 : Int32) = 2) = False := by decide
    have d3 : ((1 : Int32) = 3) = False := by decide
    have d4 : ((1 : Int32) = 4) = False := by decide
    have d5 : ((1 : Int32) = 5) = False := by decide
    have d6 : ((1 : Int32) = 6) = False := by decide
    have dr : ((1 : Int32) < 3 ∨ 6 < (1 : Int32)) = True := by decide
    have di12 : inS (1 : Int32) 1 2 = true := by decide
    have di13 : inS (1 : Int32) 1 3 = true := by decide
    simp only [f_X12_tells, f_X12_thingTells, b_X12_thingTells_23, f_X12_sentTells, hne, h42, hz, i10, hk', hn, hm, hr, hc, some_bind, s_in, bI_if0, ite_bI0, Bool.false_eq_true, ↓reduceIte, d2, d3, d4, d5, d6, dr, di12, di13, List.append_assoc, List.cons_append, List.nil_append]
    exact ⟨_, rfl⟩
  · have hk' : ∀ L, gI 12 39 (H L) (some o) = some (2 : Int32) := hk
    have d1 : ((2 : Int32) = 1) = False := by decide
    have d3 : ((2 : Int32) = 3) = False := by decide
    have d4 : ((2 : Int32) = 4) = False := by decide
    have d5 : ((2 : Int32) = 5) = False := by decide
    have d6 : ((2 : Int32) = 6) = False := by decide
    have dr : ((2 : Int32) < 3 ∨ 6 < (2 : Int32)) = True := by decide
    have di12 : inS (2 : Int32) 1 2 = true := by decide
    have di13 : inS (2 : Int32) 1 3 = true := by decide
    simp only [f_X12_tells, f_X12_thingTells, b_X12_thingTells_23, f_X12_sentTells, hne, h42, hz, i10, hk', hn, hm, hr, hc, some_bind, s_in, bI_if0, ite_bI0, Bool.false_eq_true, ↓reduceIte, d1, d3, d4, d5, d6, dr, di12, di13, List.append_assoc, List.cons_append, List.nil_append]
    exact ⟨_, rfl⟩
  · have hk' : ∀ L, gI 12 39 (H L) (some o) = some (3 : Int32) := hk
    have d1 : ((3 : Int32) = 1) = False := by decide
    have d2 : ((3 : Int32) = 2) = False := by decide
    have d4 : ((3 : Int32) = 4) = False := by decide
    have d5 : ((3 : Int32) = 5) = False := by decide
    have d6 : ((3 : Int32) = 6) = False := by decide
    have dr : ((3 : Int32) < 3 ∨ 6 < (3 : Int32)) = False := by decide
    have di12 : inS (3 : Int32) 1 2 = false := by decide
    have di13 : inS (3 : Int32) 1 3 = true := by decide
    simp only [f_X12_tells, f_X12_thingTells, b_X12_thingTells_23, f_X12_sentTells, hne, h42, hz, i10, hk', hn, hm, hr, hc, some_bind, s_in, bI_if0, ite_bI0, Bool.false_eq_true, ↓reduceIte, d1, d2, d4, d5, d6, dr, di12, di13, List.append_assoc, List.cons_append, List.nil_append]
    exact ⟨_, rfl⟩
  · have hk' : ∀ L, gI 12 39 (H L) (some o) = some (4 : Int32) := hk
    have d1 : ((4 : Int32) = 1) = False := by decide
    have d2 : ((4 : Int32) = 2) = False := by decide
    have d3 : ((4 : Int32) = 3) = False := by decide
    have d5 : ((4 : Int32) = 5) = False := by decide
    have d6 : ((4 : Int32) = 6) = False := by decide
    have dr : ((4 : Int32) < 3 ∨ 6 < (4 : Int32)) = False := by decide
    have di12 : inS (4 : Int32) 1 2 = false := by decide
    have di13 : inS (4 : Int32) 1 3 = false := by decide
    simp only [f_X12_tells, f_X12_thingTells, b_X12_thingTells_23, f_X12_sentTells, hne, h42, hz, i10, hk', hn, hm, hr, hc, some_bind, s_in, bI_if0, ite_bI0, Bool.false_eq_true, ↓reduceIte, d1, d2, d3, d5, d6, dr, di12, di13, List.append_assoc, List.cons_append, List.nil_append]
    exact ⟨_, rfl⟩
  · have hk' : ∀ L, gI 12 39 (H L) (some o) = some (5 : Int32) := hk
    have d1 : ((5 : Int32) = 1) = False := by decide
    have d2 : ((5 : Int32) = 2) = False := by decide
    have d3 : ((5 : Int32) = 3) = False := by decide
    have d4 : ((5 : Int32) = 4) = False := by decide
    have d6 : ((5 : Int32) = 6) = False := by decide
    have dr : ((5 : Int32) < 3 ∨ 6 < (5 : Int32)) = False := by decide
    have di12 : inS (5 : Int32) 1 2 = false := by decide
    have di13 : inS (5 : Int32) 1 3 = false := by decide
    simp only [f_X12_tells, f_X12_thingTells, b_X12_thingTells_23, f_X12_sentTells, hne, h42, hz, i10, hk', hn, hm, hr, hc, some_bind, s_in, bI_if0, ite_bI0, Bool.false_eq_true, ↓reduceIte, d1, d2, d3, d4, d6, dr, di12, di13, List.append_assoc, List.cons_append, List.nil_append]
    exact ⟨_, rfl⟩
  · have hk' : ∀ L, gI 12 39 (H L) (some o) = some (6 : Int32) := hk
    have d1 : ((6 : Int32) = 1) = False := by decide
    have d2 : ((6 : Int32) = 2) = False := by decide
    have d3 : ((6 : Int32) = 3) = False := by decide
    have d4 : ((6 : Int32) = 4) = False := by decide
    have d5 : ((6 : Int32) = 5) = False := by decide
    have dr : ((6 : Int32) < 3 ∨ 6 < (6 : Int32)) = False := by decide
    have di12 : inS (6 : Int32) 1 2 = false := by decide
    have di13 : inS (6 : Int32) 1 3 = false := by decide
    simp only [f_X12_tells, f_X12_thingTells, b_X12_thingTells_23, f_X12_sentTells, hne, h42, hz, i10, hk', hn, hm, hr, hc, some_bind, s_in, bI_if0, ite_bI0, Bool.false_eq_true, ↓reduceIte, d1, d2, d3, d4, d5, dr, di12, di13, List.append_assoc, List.cons_append, List.nil_append]
    exact ⟨_, rfl⟩
end ACTK
