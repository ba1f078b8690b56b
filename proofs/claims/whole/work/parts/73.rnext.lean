-- ===== the reference reads a token =====
section WORDS
variable {T : Nat → Int32} {N : Nat}
theorem spS_inj : ∀ (w w' : List Nat) (b e : Nat), (∀ c ∈ w, c < 256) → (∀ c ∈ w', c < 256) → spS T N w b e = true → spS T N w' b e = true → w = w' := by
  intro w
  induction w with
  | nil =>
    intro w' b e _ _ h1 h2
    cases w' with
    | nil => rfl
    | cons c' w' =>
      simp only [spS, decide_eq_true_eq, Bool.and_eq_true] at h1 h2
      omega
  | cons c w ih =>
    intro w' b e hw hw' h1 h2
    cases w' with
    | nil =>
      simp only [spS, decide_eq_true_eq, Bool.and_eq_true] at h1 h2
      omega
    | cons c' w' =>
      simp only [spS, decide_eq_true_eq, Bool.and_eq_true] at h1 h2
      have e1 : nI c = nI c' := h1.1.2.symm.trans h2.1.2
      have hc := hw c (List.mem_cons_self ..)
      have hc' := hw' c' (List.mem_cons_self ..)
      have : c = c' := (nI_eq (by omega) (by omega)).mp e1
      rw [this, ih w' (b + 1) e (fun q h => hw q (List.mem_cons_of_mem _ h)) (fun q h => hw' q (List.mem_cons_of_mem _ h)) h1.2 h2.2]
def lasM (T : Nat → Int32) (N b e : Nat) : Nat → List (List Nat) → Option Nat
  | _, [] => none
  | k, w :: r => match lasM T N b e (k + 1) r with
    | some j => some j
    | none => if spS T N w b e then some k else none
theorem wiS_none {b e : Nat} : ∀ (ws : List (List Nat)) k, (∀ w ∈ ws, spS T N w b e = false) → wiS T N b e k ws = none := by
  intro ws
  induction ws with
  | nil => intro k _; rfl
  | cons w r ih =>
    intro k h
    rw [wiS, if_neg (by rw [h w (List.mem_cons_self ..)]; decide)]
    exact ih (k + 1) fun q hq => h q (List.mem_cons_of_mem _ hq)
def ndB : List (List Nat) → Bool
  | [] => true
  | w :: r => r.all (fun v => !decide (v = w)) && ndB r
theorem lasM_wiS {b e : Nat} : ∀ (ws : List (List Nat)) k, ndB ws = true → (∀ w ∈ ws, ∀ c ∈ w, c < 256) → lasM T N b e k ws = wiS T N b e k ws := by
  intro ws
  induction ws with
  | nil => intro k _ _; rfl
  | cons w r ih =>
    intro k hn hc
    simp only [ndB, Bool.and_eq_true, List.all_eq_true, Bool.not_eq_true', decide_eq_false_iff_not] at hn
    rw [lasM, wiS, ih (k + 1) hn.2 fun q hq => hc q (List.mem_cons_of_mem _ hq)]
    by_cases h : spS T N w b e = true
    · rw [if_pos h, wiS_none r (k + 1) (by
        intro v hv
        cases hs : spS T N v b e with
        | false => rfl
        | true => exact absurd (spS_inj v w b e (hc v (List.mem_cons_of_mem _ hv)) (hc w (List.mem_cons_self ..)) hs h) (hn.1 v hv))]
      simp only [h, if_true]
    · rw [if_neg h]
      cases wiS T N b e (k + 1) r with
      | none => simp only [h, if_false, Bool.false_eq_true]
      | some j => simp only [h, if_false, Bool.false_eq_true]
theorem drop_cons {α : Type} {l r : List α} {a : α} {p : Nat} (h : l.drop p = a :: r) : l[p]? = some a ∧ l.drop (p + 1) = r := by
  have h1 : (l.drop p)[0]? = some a := by rw [h]; rfl
  rw [List.getElem?_drop, Nat.add_zero] at h1
  refine ⟨h1, ?_⟩
  have : (l.drop p).drop 1 = r := by rw [h]; rfl
  rw [List.drop_drop] at this
  exact this
end WORDS
section RNEXT
variable {n : Nat} {st : Nat → Nat} {S : SH} {μ : MU} {x b m : Nat} {T : Nat → Int32} {N : Nat}
def SrcR (μ : MU) (m : Nat) (T : Nat → Int32) (N : Nat) : Prop := μ m 12 = nI N ∧ N ≤ 300 ∧ ((μ m 11 < 0 ∧ ∀ k, k < N → μ (m + 3) k = T k) ∨ ∃ f, μ m 11 = nI f ∧ f + N ≤ 2224 ∧ ∀ k, k < N → μ (m + 1) (f + k) = T k)
def FrK (m : Nat) (μ μ' : MU) : Prop := ∀ a j, ¬ (a = m ∧ 13 ≤ j ∧ j ≤ 16) → μ' a j = μ a j
theorem SrcR.fr {μ' : MU} (h : SrcR μ m T N) (hf : ∀ a j, ¬ (a = m ∧ 13 ≤ j ∧ j ≤ 18) → ¬ a = m + 8 → ¬ a = m + 9 → μ' a j = μ a j) : SrcR μ' m T N := by
  obtain ⟨h1, h2, h3⟩ := h
  refine ⟨by rw [hf _ _ (by omega) (by omega) (by omega)]; exact h1, h2, ?_⟩
  rcases h3 with ⟨h3, h4⟩ | ⟨f, h3, h4, h5⟩
  · left
    exact ⟨by rw [hf _ _ (by omega) (by omega) (by omega)]; exact h3, fun k hk => by rw [hf _ _ (by omega) (by omega) (by omega)]; exact h4 k hk⟩
  · right
    exact ⟨f, by rw [hf _ _ (by omega) (by omega) (by omega)]; exact h3, h4, fun k hk => by rw [hf _ _ (by omega) (by omega) (by omega)]; exact h5 k hk⟩
theorem SrcR.frK {μ' : MU} (h : SrcR μ m T N) (hf : FrK m μ μ') : SrcR μ' m T N := h.fr fun a j q _ _ => hf a j (by omega)
theorem FrK.trans {μ' μ'' : MU} (h : FrK m μ μ') (h' : FrK m μ' μ'') : FrK m μ μ'' := fun a j q => (h' a j q).trans (h a j q)
theorem r_byteAt (hS : ShM S m) (hT : SrcR μ m T N) {k : Nat} (hk : k < 2 ^ 30) : f_X12_byteAt (some m) (nI k) (mkH n st S μ) = some (byS T N k) := by
  obtain ⟨h1, h2, h3⟩ := hT
  unfold byS
  by_cases hN : k < N
  · rw [if_neg (by omega)]
    rcases h3 with ⟨h3, h4⟩ | ⟨f, h3, h4, h5⟩
    · simp (disch := omega) only [f_X12_byteAt, mI12 hS, some_bind, h1, nn_lt, natT, if_true, mI11 hS, h3, mR3 hS, mA3 hS, h4]
    · have : ¬ nI f < (0 : Int32) := nI_pos (by omega)
      simp (disch := omega) only [f_X12_byteAt, mI12 hS, some_bind, h1, nn_lt, natT, if_true, mI11 hS, h3, this, if_false, mR0 hS, nI_add, mA0 hS, h5]
  · rw [if_pos (by omega)]
    simp (disch := omega) only [f_X12_byteAt, mI12 hS, some_bind, h1, nn_lt, natF, if_false]
/-- blanks -/
theorem r_skip (hS : ShM S m) : ∀ k f fu p (μ : MU), SrcR μ m T N → N - p ≤ k → k < f → k < fu → p ≤ N → μ m 13 = nI p → ∃ fu' μ', b_X12_next_0 fu (some m) (mkH n st S μ) = b_X12_next_0 (fu' + 1) (some m) (mkH n st S μ') ∧ μ' m 13 = nI (skS T N f p) ∧ ¬ byS T N (skS T N f p) = 32 ∧ FrK m μ μ' := by
  intro k
  induction k with
  | zero =>
    intro f fu p μ hT hk hf hfu hp h13
    obtain ⟨fu, rfl⟩ : ∃ q, fu = q + 1 := ⟨fu - 1, by omega⟩
    obtain ⟨f, rfl⟩ : ∃ q, f = q + 1 := ⟨f - 1, by omega⟩
    have h32 : ¬ byS T N p = 32 := by rw [byS_end (by omega)]; decide
    refine ⟨fu, μ, rfl, ?_, ?_, fun _ _ _ => rfl⟩
    · rw [skS, if_neg h32]; exact h13
    · rw [skS, if_neg h32]; exact h32
  | succ k ih =>
    intro f fu p μ hT hk hf hfu hp h13
    obtain ⟨fu, rfl⟩ : ∃ q, fu = q + 1 := ⟨fu - 1, by omega⟩
    obtain ⟨f, rfl⟩ : ∃ q, f = q + 1 := ⟨f - 1, by omega⟩
    have hN := hT.2.1
    by_cases h32 : byS T N p = 32
    · have hpN := byS_lt (T := T) (N := N) (k := p) (by rw [h32]; decide)
      have hFr : FrK m μ (up2 μ m 13 (nI (p + 1))) := fun a j q => up2_ne (by omega)
      obtain ⟨fu', μ', g1, g2, g3, g4⟩ := ih f fu (p + 1) (up2 μ m 13 (nI (p + 1))) (hT.frK hFr) (by omega) (by omega) (by omega) (by omega) up2_same
      refine ⟨fu', μ', ?_, by rw [skS, if_pos h32]; exact g2, by rw [skS, if_pos h32]; exact g3, hFr.trans g4⟩
      rw [← g1, b_X12_next_0]
      simp only [mI13 hS, some_bind, h13, rck hS, r_byteAt hS hT (show p < 2 ^ 30 by omega), h32, if_true, nI_1, mP13 hS]
    · refine ⟨fu, μ, rfl, ?_, ?_, fun _ _ _ => rfl⟩
      · rw [skS, if_neg h32]; exact h13
      · rw [skS, if_neg h32]; exact h32
theorem digB_in (v : Int32) : inS v 48 57 = digB v := rfl
theorem letB_in (v : Int32) : inS v 97 122 = letB v := rfl
/-- digits -/
theorem r_digs (hS : ShM S m) {b : Nat} : ∀ k f fu p v (μ : MU), SrcR μ m T N → N - p ≤ k → k < f → k < fu → p ≤ N → b ≤ p → μ m 13 = nI p → μ m 14 = nI b → μ m 16 = v → ∃ μ', b_X12_next_71 fu (some m) (mkH n st S μ) = some (mkH n st S μ') ∧ μ' m 13 = nI (diS T N f p) ∧ μ' m 14 = nI b ∧ μ' m 16 = nuS T N b f p v ∧ μ' m 15 = (if diS T N f p - b > 4 then 1 else 3) ∧ FrK m μ μ' := by
  intro k
  induction k with
  | zero =>
    intro f fu p v μ hT hk hf hfu hp hb h13 h14 h16
    obtain ⟨fu, rfl⟩ : ∃ q, fu = q + 1 := ⟨fu - 1, by omega⟩
    obtain ⟨f, rfl⟩ : ∃ q, f = q + 1 := ⟨f - 1, by omega⟩
    have hd : digB (byS T N p) = false := by rw [byS_end (by omega)]; decide
    have hN := hT.2.1
    rw [diS, nuS]
    simp only [hd, Bool.false_eq_true, if_false]
    by_cases h4 : p - b > 4
    · refine ⟨up2 μ m 15 1, ?_, by rw [up2_ne (by omega)]; exact h13, by rw [up2_ne (by omega)]; exact h14, by rw [up2_ne (by omega)]; exact h16, by rw [up2_same, if_pos h4], fun a j q => up2_ne (by omega)⟩
      simp (disch := omega) only [b_X12_next_71, mI13 hS, some_bind, h13, rck hS, r_byteAt hS hT (show p < 2 ^ 30 by omega), s_in, digB_in, hd, ite_bI0, Bool.false_eq_true, if_false, mI14 hS, h14, pk_sub hb, lit_gt, natT, if_true, b_X12_next_164, mP15 hS]
    · refine ⟨up2 μ m 15 3, ?_, by rw [up2_ne (by omega)]; exact h13, by rw [up2_ne (by omega)]; exact h14, by rw [up2_ne (by omega)]; exact h16, by rw [up2_same, if_neg h4], fun a j q => up2_ne (by omega)⟩
      simp (disch := omega) only [b_X12_next_71, mI13 hS, some_bind, h13, rck hS, r_byteAt hS hT (show p < 2 ^ 30 by omega), s_in, digB_in, hd, ite_bI0, Bool.false_eq_true, if_false, mI14 hS, h14, pk_sub hb, lit_gt, natF, b_X12_next_164, mP15 hS]
  | succ k ih =>
    intro f fu p v μ hT hk hf hfu hp hb h13 h14 h16
    obtain ⟨fu, rfl⟩ : ∃ q, fu = q + 1 := ⟨fu - 1, by omega⟩
    obtain ⟨f, rfl⟩ : ∃ q, f = q + 1 := ⟨f - 1, by omega⟩
    have hN := hT.2.1
    rw [diS, nuS]
    by_cases hd : digB (byS T N p) = true
    · have hpN := byS_lt (T := T) (N := N) (k := p) (by intro h2; rw [h2, dig_m1] at hd; cases hd)
      simp only [hd, if_true]
      obtain ⟨v', hv'⟩ : ∃ v', v' = (if p - b < 4 then 10 * v + byS T N p - 48 else v) := ⟨_, rfl⟩
      have hFr : FrK m μ (up2 (up2 μ m 16 v') m 13 (nI (p + 1))) := fun a j q => by rw [up2_ne (by omega), up2_ne (by omega)]
      obtain ⟨μ', g1, g2⟩ := ih f fu (p + 1) v' (up2 (up2 μ m 16 v') m 13 (nI (p + 1))) (hT.frK hFr) (by omega) (by omega) (by omega) (by omega) (by omega) up2_same (by rw [up2_ne (by omega), up2_ne (by omega)]; exact h14) (by rw [up2_ne (by omega), up2_same])
      rw [← hv']
      obtain ⟨g2, g3, g4, g5, g6⟩ := g2
      refine ⟨μ', ?_, g2, g3, g4, g5, hFr.trans g6⟩
      rw [← g1]
      have h13' : ∀ w, up2 μ m 16 w m 13 = nI p := fun w => by rw [up2_ne (by omega)]; exact h13
      by_cases h4 : p - b < 4
      · rw [if_pos h4] at hv'
        simp (disch := omega) only [b_X12_next_71, mI13 hS, some_bind, h13, rck hS, r_byteAt hS hT (show p < 2 ^ 30 by omega), s_in, digB_in, hd, ite_bI0, if_true, mI14 hS, h14, pk_sub hb, lit_lt, natT, mI16 hS, h16, b_X12_next_129, mP16 hS, h13', nI_1, mP13 hS]
        rw [hv']
      · rw [if_neg h4] at hv'
        simp (disch := omega) only [b_X12_next_71, mI13 hS, some_bind, h13, rck hS, r_byteAt hS hT (show p < 2 ^ 30 by omega), s_in, digB_in, hd, ite_bI0, if_true, mI14 hS, h14, pk_sub hb, lit_lt, natF, if_false, mI16 hS, h16, b_X12_next_129, mP16 hS, h13', nI_1, mP13 hS]
        rw [hv']
    · have hd' : digB (byS T N p) = false := by simpa using hd
      simp only [hd', Bool.false_eq_true, if_false]
      by_cases h4 : p - b > 4
      · refine ⟨up2 μ m 15 1, ?_, by rw [up2_ne (by omega)]; exact h13, by rw [up2_ne (by omega)]; exact h14, by rw [up2_ne (by omega)]; exact h16, by rw [up2_same, if_pos h4], fun a j q => up2_ne (by omega)⟩
        simp (disch := omega) only [b_X12_next_71, mI13 hS, some_bind, h13, rck hS, r_byteAt hS hT (show p < 2 ^ 30 by omega), s_in, digB_in, hd', ite_bI0, Bool.false_eq_true, if_false, mI14 hS, h14, pk_sub hb, lit_gt, natT, if_true, b_X12_next_164, mP15 hS]
      · refine ⟨up2 μ m 15 3, ?_, by rw [up2_ne (by omega)]; exact h13, by rw [up2_ne (by omega)]; exact h14, by rw [up2_ne (by omega)]; exact h16, by rw [up2_same, if_neg h4], fun a j q => up2_ne (by omega)⟩
        simp (disch := omega) only [b_X12_next_71, mI13 hS, some_bind, h13, rck hS, r_byteAt hS hT (show p < 2 ^ 30 by omega), s_in, digB_in, hd', ite_bI0, Bool.false_eq_true, if_false, mI14 hS, h14, pk_sub hb, lit_gt, natF, b_X12_next_164, mP15 hS]
/-- a word of the table is looked at -/
theorem r_wordI (hS : ShM S m) {k bb e : Nat} : ∀ (w : List Nat) (rest : List Int32) (i pos fu : Nat) (same : Bool) (μ : MU), BaseOK st S μ x b → SrcR μ m T N → μ m 13 = nI e → μ m 14 = nI bb → e ≤ N → i + w.length < 1000 → (∀ c ∈ w, 0 < c ∧ c < 256) → (stV 4).drop pos = w.map nI ++ 0 :: rest → w.length < fu → pos + w.length < 112 → b_X12_word__17 fu (some m) (nI k) (nI i) (bI same) (nI pos) (mkH n st S μ) = b_X12_word__17 (fu - w.length - 1) (some m) (nI (k + 1)) (nI bb) 1 (nI (pos + w.length + 1)) (mkH n st S (if same && spS T N w i e then up2 (up2 μ m 15 2) m 16 (nI k) else μ)) := by
  intro w
  induction w with
  | nil =>
    intro rest i pos fu same μ hB hT h13 h14 he hi hw hd hf hpos
    obtain ⟨fu, rfl⟩ : ∃ q, fu = q + 1 := ⟨fu - 1, by omega⟩
    obtain ⟨d1, d2⟩ := drop_cons (show (stV 4).drop pos = 0 :: rest from hd)
    have hN := hT.2.1
    have a1 := st_aI (n := n) hB (j := 4) (by omega) d1
    have aL := st_aL (n := n) hB (j := 4) (by omega)
    rw [show (stV 4).length = 112 from rfl] at aL
    have h4 : (mkH n st S μ).2.2 4 = st 4 := rfl
    rw [b_X12_word__17]
    simp only [h4, aL, some_bind, a1, if_true]
    rw [if_pos ((nI_ltI (by omega) (by omega)).mpr (by simpa using hpos))]
    show _ = b_X12_word__17 (fu + 1 - 0 - 1) _ _ _ _ (nI (pos + 0 + 1)) _
    rw [show fu + 1 - 0 - 1 = fu from by omega, Nat.add_zero]
    cases same with
    | false =>
      simp only [bI, Bool.false_eq_true, if_false, if_true, b_X12_word__57, mI14 hS, some_bind, h14, nI_1, Bool.false_and]
    | true =>
      have b1 : ¬ bI true = 0 := by decide
      simp only [b1, if_false, mI13 hS, some_bind, h13, Bool.true_and, spS]
      by_cases hie : i = e
      · subst hie
        have h14' : up2 (up2 μ m 15 2) m 16 (nI k) m 14 = nI bb := by rw [up2_ne (by omega), up2_ne (by omega)]; exact h14
        simp only [if_true, mP15 hS, some_bind, mP16 hS, b_X12_word__57, mI14 hS, h14', nI_1, decide_true]
      · rw [if_neg (fun h => hie ((nI_eq (by simp only [List.length_nil] at hi; omega) (by omega)).mp h))]
        simp only [b_X12_word__57, mI14 hS, some_bind, h14, nI_1, hie, decide_false, Bool.false_eq_true, if_false]
  | cons c w ih =>
    intro rest i pos fu same μ hB hT h13 h14 he hi hw hd hf hpos
    obtain ⟨fu, rfl⟩ : ∃ q, fu = q + 1 := ⟨fu - 1, by omega⟩
    have hi' : i + (w.length + 1) < 1000 := hi
    have hpos' : pos + (w.length + 1) < 112 := hpos
    have hf' : w.length + 1 < fu + 1 := hf
    obtain ⟨d1, d2⟩ := drop_cons (show (stV 4).drop pos = nI c :: (w.map nI ++ 0 :: rest) from hd)
    have hN := hT.2.1
    have a1 := st_aI (n := n) hB (j := 4) (by omega) d1
    have aL := st_aL (n := n) hB (j := 4) (by omega)
    rw [show (stV 4).length = 112 from rfl] at aL
    have h4 : (mkH n st S μ).2.2 4 = st 4 := rfl
    have hc := hw c (List.mem_cons_self ..)
    have hc0 : ¬ nI c = 0 := fun h => by have := (nI_eq (a := c) (b := 0) (by omega) (by omega)).mp h; omega
    have hgo := fun s' => ih rest (i + 1) (pos + 1) fu s' μ hB hT h13 h14 he (by omega) (fun q hq => hw q (List.mem_cons_of_mem _ hq)) d2 (by omega) (by omega)
    rw [b_X12_word__17]
    simp only [h4, aL, some_bind, a1, hc0, if_false]
    rw [if_pos ((nI_ltI (by omega) (by omega)).mpr (by omega))]
    show _ = b_X12_word__17 (fu + 1 - (w.length + 1) - 1) _ _ _ _ (nI (pos + (w.length + 1) + 1)) _
    rw [show fu + 1 - (w.length + 1) - 1 = fu - w.length - 1 from by omega, show pos + (w.length + 1) + 1 = pos + 1 + w.length + 1 from by omega]
    cases same with
    | false =>
      have h0 := hgo false
      simp only [Bool.false_and, Bool.false_eq_true, if_false] at h0 ⊢
      rw [← h0]
      simp only [bI, Bool.false_eq_true, if_false, if_true, b_X12_word__101, nI_1]
    | true =>
      have b1 : ¬ bI true = 0 := by decide
      simp only [b1, if_false, mI13 hS, some_bind, h13, Bool.true_and, spS]
      by_cases hie : i < e
      · rw [if_pos ((nI_ltI (by omega) (by omega)).mpr hie)]
        simp only [rck hS, r_byteAt hS hT (show i < 2 ^ 30 by omega), some_bind, hie, decide_true, Bool.true_and]
        by_cases hby : byS T N i = nI c
        · have h0 := hgo true
          simp only [Bool.true_and] at h0
          simp only [hby, if_true, decide_true, Bool.true_and]
          rw [← h0]
          simp only [b_X12_word__101, nI_1]
          rfl
        · have h0 := hgo false
          simp only [Bool.false_and, Bool.false_eq_true, if_false] at h0
          simp only [hby, if_false, decide_false, Bool.false_and, Bool.false_eq_true]
          rw [← h0]
          simp only [b_X12_word__101, nI_1]
          rfl
      · have h0 := hgo false
        simp only [Bool.false_and, Bool.false_eq_true, if_false] at h0
        rw [if_neg (fun h => hie ((nI_ltI (by omega) (by omega)).mp h))]
        simp only [hie, decide_false, Bool.false_and, Bool.false_eq_true, if_false]
        rw [← h0]
        simp only [b_X12_word__101, nI_1]
        rfl
end RNEXT
