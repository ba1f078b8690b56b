-- ===== the class's reader: one token =====
def FrAcc (x l : Nat) (μ μ' : MU) : Prop := ∀ a j, ¬ ((a = x + 149 ∧ (j = 3 ∨ j = 6 ∨ j = 7 ∨ j = 12)) ∨ a = x + 157 ∨ (a = x + 151 ∧ j = 3) ∨ a = x + 152 ∨ (a = x + 154 ∧ j = l)) → μ' a j = μ a j
def RdM (μ : MU) (x : Nat) (σ : MSt) : Prop := μ (x + 149) 3 = nI σ.1 ∧ (σ.1 = 3 ∨ σ.1 = 4 → μ (x + 149) 7 = bI σ.2.1) ∧ μ (x + 149) 6 = nI σ.2.2.1 ∧ RdW μ x σ.2.2.2.1 ∧ RdC μ x σ.2.2.2.2 ∧ WI σ.2.2.1 σ.2.2.2.1
def szM (σ : MSt) : Nat := σ.2.2.2.1.length + σ.2.2.2.2.length
section ACCEPT
variable {n : Nat} {st : Nat → Nat} {S : SH} {μ μ' : MU} {x b m l : Nat} {T : Nat → Int32} {N p : Nat}
theorem FrAcc.trans {μ'' : MU} (h : FrAcc x l μ μ') (h' : FrAcc x l μ' μ'') : FrAcc x l μ μ'' := fun a j q => (h' a j q).trans (h a j q)
theorem FrSt.q (h : FrSt x μ μ') : FrAcc x l μ μ' := fun a j q => h a j (by omega)
theorem FrAcc.tp (h : FrAcc x l μ μ') (hT : TpR μ x T N) : TpR μ' x T N := hT.fr (fun a j q => h a j (by omega))
theorem FrAcc.tk (h : FrAcc x l μ μ') (hk : TkA μ x T N p) : TkA μ' x T N p := ⟨by rw [h _ _ (by omega)]; exact hk.1, by rw [h _ _ (by omega)]; exact hk.2.1, by rw [h _ _ (by omega)]; exact hk.2.2⟩
theorem FrAcc.base (h : FrAcc x l μ μ') (hB : BaseOK st S μ x b) : BaseOK st S μ' x b := hB.congr (fun _ _ => rfl) (fun a j q => h a j (by omega))
theorem fac_tab : ∀ l, l < 4 → ∀ k, k < 21 → posI (wgN (2 + l)) 0 (some k) = facS (nI l) (nI k) := by decide +kernel
theorem pos_none (G : List Nat) : ∀ k, posI G k none = -1 := by
  induction G with
  | nil => intro k; rfl
  | cons g G ih => intro k; rw [posI, if_neg (by simp), ih]
theorem k_facts (hX : ShX S x) {l : Nat} (hl : l < 4) (h4 : μ (x + 149) 4 = nI l) : f_X4_factsOfLine (some (x + 149)) (mkH n st S μ) = some (some (st (60 + (2 + l)))) := by
  have e : (mkH n st S μ).2.2 = st := rfl
  rcases (by omega : l = 0 ∨ l = 1 ∨ l = 2 ∨ l = 3) with rfl | rfl | rfl | rfl
  · have g1 : ¬ (nI 0 < 0 ∨ 2 < nI 0) := by decide
    have g2 : nI 0 = (0 : Int32) := rfl
    simp only [f_X4_factsOfLine, rdI4 hX, some_bind, h4, g1, if_false]
    rw [if_pos g2]; rfl
  · have g1 : ¬ (nI 1 < 0 ∨ 2 < nI 1) := by decide
    have g2 : ¬ nI 1 = (0 : Int32) := by decide
    have g3 : nI 1 = (1 : Int32) := rfl
    simp only [f_X4_factsOfLine, rdI4 hX, some_bind, h4, g1, g2, if_false]
    rw [if_pos g3]; rfl
  · have g1 : ¬ (nI 2 < 0 ∨ 2 < nI 2) := by decide
    have g2 : ¬ nI 2 = (0 : Int32) := by decide
    have g3 : ¬ nI 2 = (1 : Int32) := by decide
    have g4 : nI 2 = (2 : Int32) := rfl
    simp only [f_X4_factsOfLine, rdI4 hX, some_bind, h4, g1, g2, g3, if_false]
    rw [if_pos g4]; rfl
  · have g1 : nI 3 < 0 ∨ 2 < nI 3 := by decide
    simp only [f_X4_factsOfLine, rdI4 hX, some_bind, h4, g1, if_true]
    rfl
theorem k_term (hX : ShX S x) (hB : BaseOK st S μ x b) (hT : TpR μ x T N) (hp : p ≤ N) (hk : TkA μ x T N p) (h0 : ¬ tK T N p = 0) (hl : l < 4) (h4 : μ (x + 149) 4 = nI l) {cd : List Int32} (hc : RdC μ x cd) (hc3 : cd.length < 320) : ∃ μ' : MU, f_X4_acceptTerm (some (x + 149)) (mkH n st S μ) = some (bI (terM T N (nI l) p).isSome, mkH n st S μ') ∧ (∀ w, terM T N (nI l) p = some w → RdC μ' x (cd ++ [w]) ∧ μ' (x + 149) 3 = 4) ∧ (∀ a j, ¬ ((a = x + 149 ∧ j = 3) ∨ (a = x + 151 ∧ j = 3) ∨ a = x + 152) → μ' a j = μ a j) := by
  have kn := k_number (n := n) (st := st) hX hT hp hk h0
  have kf := k_facts (n := n) (st := st) hX hl h4
  have ka := k_among (n := n) (st := st) hX hB hT (i := 2 + l) (by omega) hp hk
  have m1 : (-1 : Int32) < 0 := by decide
  have emit : ∀ op v : Nat, op < 32 → v < 65536 → ∃ μ' : MU, b_X4_acceptTerm_48 (some (x + 149)) (some (x + 151)) (nI op) (nI v) (mkH n st S μ) = some (1, mkH n st S μ') ∧ RdC μ' x (cd ++ [wrd op v]) ∧ μ' (x + 149) 3 = 4 ∧ (∀ a j, ¬ ((a = x + 149 ∧ j = 3) ∨ (a = x + 151 ∧ j = 3) ∨ a = x + 152) → μ' a j = μ a j) := by
    intro op v ho hv
    obtain ⟨μ1, v1, v2, v3⟩ := k_emit (n := n) (st := st) hX hc hc3 ho hv
    refine ⟨up2 μ1 (x + 149) 3 4, ?_, v2.fr (fun a j q => up2_ne (by omega)), up2_same, fun a j q => by rw [up2_ne (by omega), v3 a j (by omega)]⟩
    simp only [b_X4_acceptTerm_48, lck hX.draft, v1, some_bind, rdP3 hX]
  by_cases h3 : tK T N p = 3
  · obtain ⟨v, hv, ev⟩ := tV_num h3
    have g : ¬ nI v < (0 : Int32) := nI_pos (by omega)
    rw [if_pos h3, ev] at kn
    obtain ⟨μ1, v1, v2, v3, v4⟩ := emit 24 v (by omega) (by omega)
    have v1' : b_X4_acceptTerm_48 (some (x + 149)) (some (x + 151)) 24 (nI v) (mkH n st S μ) = some (1, mkH n st S μ1) := v1
    have et : terM T N (nI l) p = some (wrd 24 v) := by rw [terM, if_pos h3, ev, nI_clamp (by omega)]
    rw [et]
    refine ⟨μ1, ?_, fun w hw => ?_, v4⟩
    · simp only [f_X4_acceptTerm, rdck hX, kn, kf, ka, some_bind, g, if_false, b_X4_acceptTerm_24, b_X4_acceptTerm_39, rdR2 hX, v1']
      rfl
    · obtain rfl := Option.some.inj hw
      exact ⟨v2, v3⟩
  · rw [if_neg h3] at kn
    by_cases h2 : tK T N p = 2
    · obtain ⟨k, hk21, ew, ev⟩ := tok_word.1 h2
      rw [ew, fac_tab l hl k hk21] at ka
      by_cases hf : facS (nI l) (nI k) < 0
      · have et : terM T N (nI l) p = none := by rw [terM, if_neg h3, ev, if_neg (fun q => q.2 hf)]
        rw [et]
        refine ⟨μ, ?_, fun w hw => (by cases hw), fun _ _ _ => rfl⟩
        simp only [f_X4_acceptTerm, rdck hX, kn, kf, ka, some_bind, m1, hf, if_true]
        rfl
      · obtain ⟨q, hq, eq⟩ := facS_in hf
        have et : terM T N (nI l) p = some (wrd 25 q) := by rw [terM, if_neg h3, ev, if_pos ⟨h2, hf⟩, eq, nI_clamp (by omega)]
        obtain ⟨μ1, v1, v2, v3, v4⟩ := emit 25 q (by omega) (by omega)
        have v1' : b_X4_acceptTerm_48 (some (x + 149)) (some (x + 151)) 25 (nI q) (mkH n st S μ) = some (1, mkH n st S μ1) := v1
        rw [eq] at ka hf
        rw [et]
        refine ⟨μ1, ?_, fun w hw => ?_, v4⟩
        · simp only [f_X4_acceptTerm, rdck hX, kn, kf, ka, some_bind, m1, hf, if_true, if_false, b_X4_acceptTerm_24, b_X4_acceptTerm_39, rdR2 hX, v1']
          rfl
        · obtain rfl := Option.some.inj hw
          exact ⟨v2, v3⟩
    · rw [tok_word.2 h2, pos_none] at ka
      have et : terM T N (nI l) p = none := by rw [terM, if_neg h3, if_neg (fun q => h2 q.1)]
      rw [et]
      refine ⟨μ, ?_, fun w hw => (by cases hw), fun _ _ _ => rfl⟩
      simp only [f_X4_acceptTerm, rdck hX, kn, kf, ka, some_bind, m1, if_true]
      rfl
theorem word_len {k : Nat} (hp : p ≤ N) (h : wdx T N p = some k) : p + 2 ≤ tA T N p := by
  obtain ⟨-, w, h2, h3⟩ := wiS_sound WL 0 k h
  have := spS_len _ _ _ h3
  have hlen : ∀ w ∈ WL, 2 ≤ w.length := by decide
  have h4 := hlen w (List.mem_of_getElem? h2)
  have := tok_pos (T := T) hp
  omega
theorem pos_and (o : Option Nat) : posI (wgN 6) 0 o = if o = some 6 then 0 else if o = some 5 then 1 else -1 := rfl
theorem k_one (hX : ShX S x) (hB : BaseOK st S μ x b) (hT : TpR μ x T N) (hp : p ≤ N) (hk : TkA μ x T N p) (h0 : ¬ tK T N p = 0) (hl : l < 4) (h4 : μ (x + 149) 4 = nI l) {o : Nat} {wt : List Nat} {cd : List Int32} (h6 : μ (x + 149) 6 = nI o) (hw : RdW μ x wt) (hc : RdC μ x cd) (hI : WI o wt) (ho : o ≤ 5) (hz : wt.length + cd.length ≤ p + 1) : ∃ μ' : MU, f_X4_acceptBehindOne (some (x + 149)) (mkH n st S μ) = some (bI (oneW T N o wt cd p).isSome, mkH n st S μ') ∧ FrAcc x l μ μ' ∧ ∀ τ, oneW T N o wt cd p = some τ → RdM μ' x τ ∧ szM τ ≤ tA T N p ∧ τ.2.2.1 ≤ 5 ∧ (τ.1 = 0 → τ.2.1 = false ∧ τ.2.2.1 = 0 ∧ τ.2.2.2.1 = [] ∧ μ' (x + 154) l = nI τ.2.2.2.2.length) := by
  have hN := hT.2.1
  have tp := tok_pos (T := T) hp
  have tpl := tp.2.2.2 h0
  have ka := k_among (n := n) (st := st) hX hB hT (i := 6) (by omega) hp hk
  rw [pos_and] at ka
  have fuL : FU = 4000 := rfl
  have i6 : isW T N p 6 = decide (wdx T N p = some 6) := isW_wdx (k := 6) (by omega)
  have i5 : isW T N p 5 = decide (wdx T N p = some 5) := isW_wdx (k := 5) (by omega)
  have sl := fun π => setS_len π wt cd
  have hwl : wt.length ≤ 300 := by omega
  -- and, or
  have joint : ∀ op : Nat, op = 8 ∨ op = 4 → p + 2 ≤ tA T N p → ∃ μ' : MU, b_X4_acceptBehindOne_21 (some (x + 149)) (nI op) (mkH n st S μ) = some (1, mkH n st S μ') ∧ FrAcc x l μ μ' ∧ RdM μ' x (2, false, o, op :: (setS (op / 4) wt cd).1, (setS (op / 4) wt cd).2) ∧ szM (2, false, o, op :: (setS (op / 4) wt cd).1, (setS (op / 4) wt cd).2) ≤ tA T N p := by
    intro op hop h2
    obtain ⟨μ1, s1, s2, s3, s4⟩ := k_settle (n := n) (st := st) hX (op := op) (by omega) wt cd FU μ hw hc (by omega) hwl (by omega) hI.lt
    have sln := sl (op / 4)
    obtain ⟨μ2, d1, d2, d3⟩ := k_delay (n := n) (st := st) hX s2 (by omega) op
    refine ⟨up2 μ2 (x + 149) 3 2, ?_, fun a j q => by rw [up2_ne (by omega), d3 a j (by omega), s4 a j (by omega)], ⟨up2_same, (fun q => by rcases q with q | q <;> cases q), ?_, d2.fr (fun a j q => up2_ne (by omega)), (s3.fr (fun a j q => d3 a j (by omega))).fr (fun a j q => up2_ne (by omega)), (setS_WI (by omega) wt cd hI).cons (by omega) (by omega)⟩, ?_⟩
    · simp only [b_X4_acceptBehindOne_21, rdck hX, f_X4_settle, s1, some_bind, d1, rdP3 hX]
    · show up2 μ2 (x + 149) 3 2 (x + 149) 6 = nI o
      rw [up2_ne (by omega), d3 _ _ (by omega), s4 _ _ (by omega), h6]
    · show (op :: (setS (op / 4) wt cd).1).length + (setS (op / 4) wt cd).2.length ≤ tA T N p
      rw [List.length_cons]
      omega
  by_cases c6 : wdx T N p = some 6
  · rw [if_pos c6] at ka
    have e : oneW T N o wt cd p = some (2, false, o, 8 :: (setS 2 wt cd).1, (setS 2 wt cd).2) := by rw [oneW, i6, decide_eq_true c6, if_pos rfl]
    obtain ⟨μ1, v1, v2, v3, v4⟩ := joint 8 (Or.inl rfl) (word_len hp c6)
    have v1' : b_X4_acceptBehindOne_21 (some (x + 149)) 8 (mkH n st S μ) = some (1, mkH n st S μ1) := v1
    have g : ¬ (0 : Int32) < 0 := by decide
    rw [e]
    refine ⟨μ1, ?_, v2, fun τ hτ => ?_⟩
    · have ka' : f_X4_among (some (x + 149)) (some ((mkH n st S μ).2.2 (60 + 6))) (mkH n st S μ) = some 0 := ka
      simp only [f_X4_acceptBehindOne, rdck hX, ka', some_bind, g, if_false, if_true, v1']
      rfl
    · obtain rfl := Option.some.inj hτ
      exact ⟨v3, v4, ho, fun q => by cases q⟩
  rw [if_neg c6] at ka
  by_cases c5 : wdx T N p = some 5
  · rw [if_pos c5] at ka
    have e : oneW T N o wt cd p = some (2, false, o, 4 :: (setS 1 wt cd).1, (setS 1 wt cd).2) := by rw [oneW, i6, decide_eq_false c6, if_neg (by decide), i5, decide_eq_true c5, if_pos rfl]
    obtain ⟨μ1, v1, v2, v3, v4⟩ := joint 4 (Or.inr rfl) (word_len hp c5)
    have v1' : b_X4_acceptBehindOne_21 (some (x + 149)) 4 (mkH n st S μ) = some (1, mkH n st S μ1) := v1
    have g : ¬ (1 : Int32) < 0 := by decide
    have g1 : ¬ (1 : Int32) = 0 := by decide
    rw [e]
    refine ⟨μ1, ?_, v2, fun τ hτ => ?_⟩
    · have ka' : f_X4_among (some (x + 149)) (some ((mkH n st S μ).2.2 (60 + 6))) (mkH n st S μ) = some 1 := ka
      simp only [f_X4_acceptBehindOne, rdck hX, ka', some_bind, g, g1, if_false, v1']
      rfl
    · obtain rfl := Option.some.inj hτ
      exact ⟨v3, v4, ho, fun q => by cases q⟩
  rw [if_neg c5] at ka
  have ka' : f_X4_among (some (x + 149)) (some ((mkH n st S μ).2.2 (60 + 6))) (mkH n st S μ) = some (-1) := ka
  have m1 : (-1 : Int32) < 0 := by decide
  have e56 : oneW T N o wt cd p = if tK T N p = 41 ∧ 0 < o then some (5, false, o - 1, (setS 1 wt cd).1.tail, (setS 1 wt cd).2) else if o = 0 ∧ tK T N p = 59 then some (0, false, o, (setS 1 wt cd).1, (setS 1 wt cd).2) else none := by rw [oneW, i6, decide_eq_false c6, if_neg (by decide), i5, decide_eq_false c5, if_neg (by decide)]
  have s41 : (soS T N p = 41) = (tK T N p = 41) := so_op (v := 41) (by omega)
  have s59 : (soS T N p = 59) = (tK T N p = 59) := so_op (v := 59) (by omega)
  obtain ⟨μ1, s1, s2, s3, s4⟩ := k_settle (n := n) (st := st) hX (op := 4) (by omega) wt cd FU μ hw hc (by omega) hwl (by omega) hI.lt
  have s1' : f_X4_settle (some (x + 149)) 4 (mkH n st S μ) = some (mkH n st S μ1) := s1
  have s2' : RdW μ1 x (setS 1 wt cd).1 := s2
  have s3' : RdC μ1 x (setS 1 wt cd).2 := s3
  have sln := sl 1
  by_cases c41 : tK T N p = 41 ∧ 0 < o
  · rw [if_pos c41] at e56
    rw [e56]
    obtain ⟨k41, opos⟩ := c41
    obtain ⟨o', rfl⟩ : ∃ q, o = q + 1 := ⟨o - 1, by omega⟩
    obtain ⟨r, er, hr⟩ := hI.set1 (cd := cd)
    rw [er] at s2' sln
    rw [er, List.tail_cons]
    obtain ⟨-, t2⟩ := s2'.tail
    have g0 : (0 : Int32) < nI (o' + 1) := nI_lt (a := 0) (by omega) (by omega)
    have h12 : μ1 (x + 149) 12 = nI (r.length + 1) := s2'.1
    have e1 : nI (r.length + 1) - 1 = nI r.length := by rw [nn_sub (b := 1) (by show 1 ≤ _; omega)]; rfl
    have e2 : nI (o' + 1) - 1 = nI o' := by rw [nn_sub (b := 1) (by show 1 ≤ _; omega)]; rfl
    have mx : mMax 0 (nI r.length) = nI r.length := by
      rw [mMax]
      split
      · rfl
      · rename_i q
        rcases Nat.eq_zero_or_pos r.length with h | h
        · rw [h]; rfl
        · rw [List.length_cons] at sln
          exact absurd (nI_lt (a := 0) h (by omega)) q
    have e6 : μ1 (x + 149) 6 = nI (o' + 1) := by rw [s4 _ _ (by omega), h6]
    have e6' : up2 μ1 (x + 149) 12 (nI r.length) (x + 149) 6 = nI (o' + 1) := by rw [up2_ne (by omega), e6]
    rw [List.length_cons] at sln
    refine ⟨(up2 (up2 (up2 μ1 (x + 149) (12) (nI r.length)) (x + 149) (6) (nI o')) (x + 149) (3) (5)), ?_, fun a j q => by rw [up2_ne (by omega), up2_ne (by omega), up2_ne (by omega), s4 a j (by omega)], fun τ hτ => ?_⟩
    · simp only [f_X4_acceptBehindOne, rdck hX, ka', some_bind, m1, if_true, rdI8 hX, hk.2.2, s41, k41, rdI6 hX, h6, g0, s1', rdI12 hX, h12, e1, mx, rdP12 hX, e6', e2, rdP6 hX, rdP3 hX]
      rfl
    · obtain rfl := Option.some.inj hτ
      refine ⟨⟨up2_same, (fun q => by rcases q with q | q <;> cases q), by show _ = nI (o' + 1 - 1); rw [up2_ne (by omega), up2_same, Nat.add_sub_cancel], ?_, ?_, ?_⟩, ?_, by show o' + 1 - 1 ≤ 5; omega, fun q => by cases q⟩
      · exact t2 _ (by rw [up2_ne (by omega), up2_ne (by omega), up2_same]) (fun j => by rw [up2_ne (by omega), up2_ne (by omega), up2_ne (by omega)])
      · exact s3'.fr (fun a j q => by rw [up2_ne (by omega), up2_ne (by omega), up2_ne (by omega)])
      · show WI (o' + 1 - 1) r
        rw [Nat.add_sub_cancel]
        exact hr
      · show r.length + (setS 1 wt cd).2.length ≤ _
        omega
  · rw [if_neg c41] at e56
    have toEnd : f_X4_acceptBehindOne (some (x + 149)) (mkH n st S μ) = b_X4_acceptBehindOne_91 (some (x + 149)) (mkH n st S μ) := by
      by_cases k41 : tK T N p = 41
      · have o0 : o = 0 := by
          rcases Nat.eq_zero_or_pos o with h | h
          · exact h
          · exact absurd ⟨k41, h⟩ c41
        have g0 : ¬ (0 : Int32) < nI o := by rw [o0]; decide
        simp only [f_X4_acceptBehindOne, rdck hX, ka', some_bind, m1, if_true, rdI8 hX, hk.2.2, s41, k41, rdI6 hX, h6, g0, if_false]
      · simp only [f_X4_acceptBehindOne, rdck hX, ka', some_bind, m1, if_true, rdI8 hX, hk.2.2, s41, k41, if_false]
    rw [toEnd]
    by_cases o0 : o = 0
    · subst o0
      by_cases k59 : tK T N p = 59
      · rw [if_pos ⟨rfl, k59⟩] at e56
        rw [e56]
        have hnil := hI.set0 (cd := cd)
        have h4' : μ1 (x + 149) 4 = nI l := by rw [s4 _ _ (by omega), h4]
        have g4 : nI l < (4 : Int32) := nI_lt (b := 4) hl (by omega)
        have c3 : μ1 (x + 151) 3 = nI (setS 1 wt cd).2.length := s3'.1
        have z6 : nI 0 = (0 : Int32) := rfl
        rw [z6] at h6
        have i10 : ¬ (1 : Int32) = 0 := by decide
        refine ⟨(up2 (up2 μ1 (x + 151 + 3) (l) (nI (setS 1 wt cd).2.length)) (x + 149) (3) (0)), ?_, fun a j q => by rw [up2_ne (by omega), up2_ne (by omega), s4 a j (by omega)], fun τ hτ => ?_⟩
        · simp (disch := omega) only [b_X4_acceptBehindOne_91, rdI6 hX, some_bind, h6, if_true, rdck hX, f_X4_acceptLineEnd, rdI8 hX, hk.2.2, s59, k59, s1', rdI4 hX, h4', g4, rdR2 hX, lR5 hX.draft, lI3 hX.draft, c3, lS5 hX.draft, b_X4_acceptLineEnd_43, rdP3 hX, i10, if_false]
          rfl
        · obtain rfl := Option.some.inj hτ
          refine ⟨⟨up2_same, (fun q => by rcases q with q | q <;> cases q), ?_, ?_, ?_, setS_WI (Nat.le_refl _) wt cd hI⟩, ?_, by show 0 ≤ 5; omega, fun _ => ⟨rfl, rfl, hnil, ?_⟩⟩
          · show _ = nI 0
            rw [up2_ne (by omega), up2_ne (by omega), s4 _ _ (by omega), h6]
            rfl
          · exact s2'.fr (fun a j q => by rw [up2_ne (by omega), up2_ne (by omega)])
          · exact s3'.fr (fun a j q => by rw [up2_ne (by omega), up2_ne (by omega)])
          · show (setS 1 wt cd).1.length + (setS 1 wt cd).2.length ≤ _
            omega
          · rw [up2_ne (by omega)]
            exact up2_same
      · rw [if_neg (fun q => k59 q.2)] at e56
        rw [e56]
        have z6 : nI 0 = (0 : Int32) := rfl
        rw [z6] at h6
        refine ⟨μ, ?_, fun _ _ _ => rfl, fun τ hτ => by cases hτ⟩
        simp only [b_X4_acceptBehindOne_91, rdI6 hX, some_bind, h6, if_true, rdck hX, f_X4_acceptLineEnd, rdI8 hX, hk.2.2, s59, k59, if_false]
        rfl
    · rw [if_neg (fun q => o0 q.1)] at e56
      rw [e56]
      have g6 : ¬ nI o = (0 : Int32) := fun q => by
        have : nI o = nI 0 := q
        simp (disch := omega) only [nn_eq] at this
        exact o0 this
      refine ⟨μ, ?_, fun _ _ _ => rfl, fun τ hτ => by cases hτ⟩
      simp only [b_X4_acceptBehindOne_91, rdI6 hX, some_bind, h6, g6, if_false]
      rfl
end ACCEPT
