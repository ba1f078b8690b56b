-- ===== words in the class's texts =====
def txN (i : Nat) : List Nat := match i with
  | 0 => [103, 111, 111, 100, 32, 101, 110, 111, 117, 103, 104, 32, 114, 101, 99, 97, 108, 108, 32, 109, 97, 121, 32, 121, 101, 97, 114, 115]
  | 1 => [110, 111, 116]
  | 2 => [110, 97, 109, 101, 32, 115, 117, 114, 101, 32, 102, 97, 116, 104, 101, 114, 32, 119, 97, 114, 100, 32, 103, 97, 116, 101, 32, 116, 119, 111, 32, 114, 101, 97, 100, 121]
  | 3 => [116, 111, 116, 97, 108, 32, 102, 105, 114, 115, 116, 32, 115, 101, 99, 111, 110, 100, 32, 116, 114, 105, 98, 101, 115]
  | 4 => [121, 101, 115, 32, 116, 111, 116, 97, 108]
  | 5 => [100, 97, 121, 115, 32, 121, 101, 97, 114, 115]
  | _ => [97, 110, 100, 32, 111, 114]
/-- where the words of a text stand -/
def wpN (i : Nat) : List (Nat × Nat) := match i with
  | 0 => [(0, 4), (5, 11), (12, 18), (19, 22), (23, 28)]
  | 1 => [(0, 3)]
  | 2 => [(0, 4), (5, 9), (10, 16), (17, 21), (22, 26), (27, 30), (31, 36)]
  | 3 => [(0, 5), (6, 11), (12, 18), (19, 25)]
  | 4 => [(0, 3), (4, 9)]
  | 5 => [(0, 4), (5, 10)]
  | _ => [(0, 3), (4, 6)]
/-- which words of the reference's table they are -/
def wgN (i : Nat) : List Nat := match i with
  | 0 => [0, 1, 2, 3, 4]
  | 1 => [7]
  | 2 => [8, 9, 10, 11, 12, 13, 14]
  | 3 => [15, 16, 17, 18]
  | 4 => [19, 15]
  | 5 => [20, 4]
  | _ => [6, 5]
def amL (sp : Nat → Nat → Bool) (B : List Nat) : Nat → Nat → Nat → Nat → Int32
  | 0, _, _, _ => -1
  | q + 1, w, f, j => if B.length < j then -1 else if j = B.length ∨ B[j]? = some 32 then (if sp f j then nI w else amL sp B q (w + 1) (j + 1) (j + 1)) else amL sp B q w f (j + 1)
def chnL (sp : Nat → Nat → Bool) : List (Nat × Nat) → Nat → Int32
  | [], _ => -1
  | q :: r, k => if sp q.1 q.2 then nI k else chnL sp r (k + 1)
def posI : List Nat → Nat → Option Nat → Int32
  | [], _, _ => -1
  | g :: G, k, o => if o = some g then nI k else posI G (k + 1) o
def wdx (T : Nat → Int32) (N p : Nat) : Option Nat := wiS T N (tB T N p) (tA T N p) 0 WL
section AMONG
variable {n : Nat} {st : Nat → Nat} {S : SH} {μ μ' : MU} {x b m c l : Nat} {T : Nat → Int32} {N : Nat}
theorem txV_N : ∀ i, i < 7 → txV i = (txN i).map nI := by decide +kernel
theorem txN_lt : ∀ i, i < 7 → (txN i).length < 60 ∧ ∀ c ∈ txN i, c < 128 := by decide +kernel
theorem chr_ok : ∀ c, c < 128 → (((nI c &&& 255) : Int32).toUInt32 % 65536).toInt32 = nI c ∧ ((nI c).toUInt32 % 65536).toInt32 = nI c := by decide +kernel
theorem am_ch (sp : Nat → Nat → Bool) : ∀ i, i < 7 → amL sp (txN i) 100 0 0 0 = chnL sp (wpN i) 0 := by
  intro i hi
  rcases (by omega : i = 0 ∨ i = 1 ∨ i = 2 ∨ i = 3 ∨ i = 4 ∨ i = 5 ∨ i = 6) with rfl | rfl | rfl | rfl | rfl | rfl | rfl <;> rfl
theorem rC_ok {c : Nat} (h : c < 128) : rC (nI c) = some (nI c) := by
  rw [rC, if_pos (chr_ok c h).2]
theorem k_txR (hB : BaseOK st S μ x b) {i : Nat} (hi : i < 7) : gSR (mkH n st S μ) (some (st (60 + i))) = some (some (st (70 + i))) := by
  obtain ⟨q1, q2, q3, q4, q5, q6, q7, q8⟩ := hB.2.2.1 i hi
  have h1 : ((mkH n st S μ).2.1 (st (60 + i))).1 = 310 := q3
  simp only [gSR, gS]
  rw [if_pos h1, Option.bind_some]
  show toR (slV ((S (st (60 + i))).2.2 0) _) = _
  rw [q4]
  exact toR_vOf (some (st (70 + i)))
theorem k_txI (hB : BaseOK st S μ x b) {i : Nat} (hi : i < 7) : gSI (mkH n st S μ) (some (st (60 + i))) = some 0 := by
  obtain ⟨q1, q2, q3, q4, q5, q6, q7, q8⟩ := hB.2.2.1 i hi
  have h1 : ((mkH n st S μ).2.1 (st (60 + i))).1 = 310 := q3
  simp only [gSI, gS]
  rw [if_pos h1, Option.bind_some]
  show toI (slV ((S (st (60 + i))).2.2 1) (μ (st (60 + i)) 1)) = _
  rw [q5, q6]
  rfl
theorem k_txK (hB : BaseOK st S μ x b) {i : Nat} (hi : i < 7) {α : Type} {f : Option α} : ck 310 (mkH n st S μ) (some (st (60 + i))) f = f := ck_mk (hB.2.2.1 i hi).2.2.1
theorem k_51 (hB : BaseOK st S μ x b) : ¬ Int32.ofNat ((mkH n st S μ).2.2 51) = 0 := by
  show ¬ Int32.ofNat (st 51) = 0
  rw [hB.2.2.2]
  decide
theorem k_txL (hB : BaseOK st S μ x b) {i : Nat} (hi : i < 7) : f_J0_length_8abf5 (some (st (60 + i))) (mkH n st S μ) = some (nI (txN i).length) := by
  obtain ⟨q1, q2, q3, q4, q5, q6, q7, q8⟩ := hB.2.2.1 i hi
  have hl := (txN_lt i hi).1
  have e : (txV i).length = (txN i).length := by rw [txV_N i hi, List.length_map]
  have aLn : aL (mkH n st S μ) (some (st (70 + i))) = some (nI (txN i).length) := by
    rw [← e]
    exact ob_aL q7 (by omega)
  have rb : rB 0 = some 0 := by decide
  have sh : nI (txN i).length >>> (0 &&& 31) = nI (txN i).length := shrN (a := (txN i).length) (k := 0) (by omega) (by omega)
  simp only [f_J0_length_8abf5, f_J0_coder_7d493, k_txR hB hi, some_bind, aLn, k_txK hB hi, k_51 hB, if_false, k_txI hB hi, rb, sh]
theorem k_txC (hB : BaseOK st S μ x b) {i q c : Nat} (hi : i < 7) (hq : (txN i)[q]? = some c) : f_J0_charAt_5068e (some (st (60 + i))) (nI q) (mkH n st S μ) = some (nI c) := by
  obtain ⟨q1, q2, q3, q4, q5, q6, q7, q8⟩ := hB.2.2.1 i hi
  have hl := (txN_lt i hi).1
  have e : (txV i).length = (txN i).length := by rw [txV_N i hi, List.length_map]
  have hlt : q < (txN i).length := by
    rcases Nat.lt_or_ge q (txN i).length with h | h
    · exact h
    · rw [List.getElem?_eq_none h] at hq; cases hq
  have hc : c < 128 := (txN_lt i hi).2 c (List.mem_of_getElem? hq)
  have aLn : aL (mkH n st S μ) (some (st (70 + i))) = some (nI (txN i).length) := by
    rw [← e]
    exact ob_aL q7 (by omega)
  have hv : μ (st (70 + i)) q = nI c := q8 q (nI c) (by rw [txV_N i hi, List.getElem?_map, hq]; rfl)
  have g0 : ¬ nI q < (0 : Int32) := nI_pos (by omega)
  have g1 : nI q < nI (txN i).length := nI_lt hlt (by omega)
  have gb : gB (mkH n st S μ) (some (st (70 + i))) (nI q) = some (nI c) := by
    rw [gB, aV_mk (p := fun k => decide (300 ≤ k) && decide (k < 310)) (by rw [q7.1]; simp; omega) (by rw [q7.2.1, e]; exact hlt) (by rw [q7.2.1, e]; omega), Option.bind_some, q7.2.2 q (by rw [e]; exact hlt), hv]
    rfl
  have i10 : ¬ (1 : Int32) = 0 := by decide
  simp only [f_J0_charAt_5068e, f_J0_isLatin1_aae02, k_txK hB hi, k_51 hB, if_false, k_txI hB hi, some_bind, if_true, i10, k_txR hB hi, f_J1_charAt_3b067, aLn, f_J0_checkIndex_df160, f_J3_checkIndex_8e157, g0, g1, gb, (chr_ok c hc).1, rC_ok hc]
theorem spS_len : ∀ (w : List Nat) (b e : Nat), spS T N w b e = true → b + w.length = e := by
  intro w
  induction w with
  | nil => intro b e h; simpa [spS] using h
  | cons c w ih =>
    intro b e h
    rw [spS, Bool.and_eq_true] at h
    have := ih (b + 1) e h.2
    rw [List.length_cons]
    omega
theorem k_sp20 (hX : ShX S x) (hB : BaseOK st S μ x b) (hT : TpR μ x T N) {i bb e f j : Nat} (hi : i < 7) (h9 : μ (x + 149) 9 = nI bb) (he : e ≤ N) (hj : j ≤ (txN i).length) (hbe : bb + (j - f) = e) : ∀ k y fu, y + k = j → k < fu → f ≤ y → b_X4_spells_20 (mkH n st S μ) fu (some (x + 149)) (some (st (60 + i))) (nI f) (nI j) (nI y) = some (bI (spS T N (((txN i).drop y).take k) (bb + (y - f)) e)) := by
  have hl := (txN_lt i hi).1
  obtain ⟨t1, hN, t3, t4⟩ := hT
  intro k
  induction k with
  | zero =>
    intro y fu hy hf hfy
    obtain ⟨fu, rfl⟩ : ∃ q, fu = q + 1 := ⟨fu - 1, by omega⟩
    have g : ¬ nI y < nI j := fun q => by simp (disch := omega) only [nn_lt] at q; omega
    rw [List.take_zero, spS, decide_eq_true (by omega)]
    simp only [b_X4_spells_20, g, if_false]
    rfl
  | succ k ih =>
    intro y fu hy hf hfy
    obtain ⟨fu, rfl⟩ : ∃ q, fu = q + 1 := ⟨fu - 1, by omega⟩
    have g : nI y < nI j := nI_lt (by omega) (by omega)
    have hyl : y < (txN i).length := by omega
    have ed : (txN i).drop y = (txN i)[y] :: (txN i).drop (y + 1) := List.drop_eq_getElem_cons hyl
    have hc : (txN i)[y]? = some (txN i)[y] := List.getElem?_eq_getElem hyl
    have kc := k_txC (n := n) (st := st) hB hi hc
    have e1 : nI y + 1 = nI (y + 1) := nI_add y 1
    have e2 : (nI bb + nI y) - nI f = nI (bb + (y - f)) := by rw [nI_add, pk_sub (by omega), show bb + y - f = bb + (y - f) by omega]
    have ap : aI (mkH n st S μ) (some (x + 150)) (nI (bb + (y - f))) = some (byS T N (bb + (y - f))) := by rw [xATap hX (by omega), t3 _ (by omega), byS_in (by omega)]
    have e3 : bb + (y - f) + 1 = bb + (y + 1 - f) := by omega
    rw [ed, List.take_succ_cons, spS, decide_eq_true (show bb + (y - f) < e by omega), Bool.true_and, e3]
    by_cases hcc : byS T N (bb + (y - f)) = nI (txN i)[y]
    · rw [decide_eq_true hcc, Bool.true_and, ← ih (y + 1) fu (by omega) (by omega) (by omega)]
      simp only [b_X4_spells_20, g, if_true, k_txK hB hi, kc, some_bind, rdR0 hX, rdI9 hX, h9, e2, ap, hcc, e1]
    · have hcc' : ¬ nI (txN i)[y] = byS T N (bb + (y - f)) := fun q => hcc q.symm
      rw [decide_eq_false hcc, Bool.false_and]
      simp only [b_X4_spells_20, g, if_true, k_txK hB hi, kc, some_bind, rdR0 hX, rdI9 hX, h9, e2, ap, hcc', if_false]
      rfl
theorem k_spells (hX : ShX S x) (hB : BaseOK st S μ x b) (hT : TpR μ x T N) {i bb e f j : Nat} (hi : i < 7) (h9 : μ (x + 149) 9 = nI bb) (h10 : μ (x + 149) 10 = nI e) (hbe : bb ≤ e) (he : e ≤ N) (hf : f ≤ j) (hj : j ≤ (txN i).length) : f_X4_spells (some (x + 149)) (some (st (60 + i))) (nI f) (nI j) (mkH n st S μ) = some (bI (spS T N (((txN i).drop f).take (j - f)) bb e)) := by
  have hl := (txN_lt i hi).1
  have hN := hT.2.1
  have e1 : nI j - nI f = nI (j - f) := pk_sub hf
  have e2 : nI e - nI bb = nI (e - bb) := pk_sub hbe
  by_cases hc : j - f = e - bb
  · have hc' : nI (j - f) = nI (e - bb) := by rw [hc]
    have := k_sp20 (n := n) (st := st) hX hB hT (f := f) (j := j) (e := e) hi h9 he hj (by omega) (j - f) f FU (by omega) (by have : FU = 4000 := rfl; omega) (Nat.le_refl _)
    simp only [Nat.sub_self, Nat.add_zero] at this
    simp only [f_X4_spells, rdI10 hX, rdI9 hX, some_bind, h9, h10, e1, e2, hc', if_true, this]
  · have hc' : ¬ nI (j - f) = nI (e - bb) := fun q => by simp (disch := omega) only [nn_eq] at q; exact hc q
    have hs : spS T N (((txN i).drop f).take (j - f)) bb e = false := by
      cases hz : spS T N (((txN i).drop f).take (j - f)) bb e with
      | false => rfl
      | true =>
        have := spS_len _ _ _ hz
        rw [List.length_take, List.length_drop] at this
        omega
    rw [hs]
    simp only [f_X4_spells, rdI10 hX, rdI9 hX, some_bind, h9, h10, e1, e2, hc', if_false]
    rfl
theorem k_am7 (hX : ShX S x) (hB : BaseOK st S μ x b) (hT : TpR μ x T N) {i bb e : Nat} (hi : i < 7) (h9 : μ (x + 149) 9 = nI bb) (h10 : μ (x + 149) 10 = nI e) (hbe : bb ≤ e) (he : e ≤ N) : ∀ k w f j fu, (txN i).length + 2 - j ≤ k → (txN i).length + 2 - j < fu → f ≤ j → j ≤ (txN i).length + 1 → b_X4_among_7 (mkH n st S μ) fu (some (x + 149)) (some (st (60 + i))) (nI w) (nI f) (nI j) = some (amL (fun f j => spS T N (((txN i).drop f).take (j - f)) bb e) (txN i) k w f j) := by
  have hl := (txN_lt i hi).1
  have kl := k_txL (n := n) (st := st) hB hi
  intro k
  induction k with
  | zero => intro w f j fu h1; omega
  | succ k ih =>
    intro w f j fu h1 h2 h3 h4
    obtain ⟨fu, rfl⟩ : ∃ q, fu = q + 1 := ⟨fu - 1, by omega⟩
    have ew : nI w + 1 = nI (w + 1) := nI_add w 1
    have ej : nI j + 1 = nI (j + 1) := nI_add j 1
    rw [amL]
    by_cases c1 : (txN i).length < j
    · have g : nI (txN i).length < nI j := nI_lt c1 (by omega)
      rw [if_pos c1]
      simp only [b_X4_among_7, k_txK hB hi, kl, some_bind, g, if_true]
    have g : ¬ nI (txN i).length < nI j := fun q => by simp (disch := omega) only [nn_lt] at q; omega
    rw [if_neg c1]
    have ks := k_spells (n := n) (st := st) hX hB hT hi h9 h10 hbe he h3 (by omega)
    have nxt : b_X4_among_36 (b_X4_among_7 (mkH n st S μ) fu) (mkH n st S μ) (some (x + 149)) (some (st (60 + i))) (nI w) (nI f) (nI j) = some (if spS T N (((txN i).drop f).take (j - f)) bb e then nI w else amL (fun f j => spS T N (((txN i).drop f).take (j - f)) bb e) (txN i) k (w + 1) (j + 1) (j + 1)) := by
      by_cases hs : spS T N (((txN i).drop f).take (j - f)) bb e = true
      · rw [if_pos hs]
        simp only [b_X4_among_36, rdck hX, ks, some_bind, hs, ite_bI0, if_true]
      · rw [if_neg hs]
        by_cases cj : j = (txN i).length
        · have hend : b_X4_among_7 (mkH n st S μ) fu (some (x + 149)) (some (st (60 + i))) (nI (w + 1)) (nI (j + 1)) (nI (j + 1)) = some (amL (fun f j => spS T N (((txN i).drop f).take (j - f)) bb e) (txN i) k (w + 1) (j + 1) (j + 1)) := by
            obtain ⟨fu, rfl⟩ : ∃ q, fu = q + 1 := ⟨fu - 1, by omega⟩
            obtain ⟨k, rfl⟩ : ∃ q, k = q + 1 := ⟨k - 1, by omega⟩
            have g2 : nI (txN i).length < nI (j + 1) := nI_lt (by omega) (by omega)
            rw [amL, if_pos (by omega)]
            simp only [b_X4_among_7, k_txK hB hi, kl, some_bind, g2, if_true]
          simp only [b_X4_among_36, rdck hX, ks, some_bind, hs, ite_bI0, if_false, Bool.false_eq_true, ew, ej, hend]
        · simp only [b_X4_among_36, rdck hX, ks, some_bind, hs, ite_bI0, if_false, Bool.false_eq_true, ew, ej]
          rw [ih (w + 1) (j + 1) (j + 1) fu (by omega) (by omega) (Nat.le_refl _) (by omega)]
    by_cases c2 : j = (txN i).length
    · have g2 : (nI j = nI (txN i).length) = True := eq_true (by rw [c2])
      rw [if_pos (Or.inl c2)]
      simp only [b_X4_among_7, k_txK hB hi, kl, some_bind, g, if_false, g2, if_true]
      exact nxt
    · have g2 : ¬ nI j = nI (txN i).length := fun q => by simp (disch := omega) only [nn_eq] at q; exact c2 q
      have hjl : j < (txN i).length := by omega
      have hc : (txN i)[j]? = some (txN i)[j] := List.getElem?_eq_getElem hjl
      have kc := k_txC (n := n) (st := st) hB hi hc
      have hc8 : (txN i)[j] < 128 := (txN_lt i hi).2 _ (List.getElem_mem hjl)
      by_cases c3 : (txN i)[j] = 32
      · have g3 : nI (txN i)[j] = (32 : Int32) := by rw [c3]; rfl
        rw [if_pos (Or.inr (by rw [hc, c3]))]
        simp only [b_X4_among_7, k_txK hB hi, kl, some_bind, g, if_false, g2, kc, g3, if_true]
        exact nxt
      · have g3 : ¬ nI (txN i)[j] = (32 : Int32) := fun q => by
          have : nI (txN i)[j] = nI 32 := q
          simp (disch := omega) only [nn_eq] at this
          exact c3 this
        rw [if_neg (fun q => by
          rcases q with q | q
          · exact c2 q
          · rw [hc] at q; exact c3 (Option.some.inj q))]
        simp only [b_X4_among_7, k_txK hB hi, kl, some_bind, g, if_false, g2, kc, g3, ej]
        exact ih w f (j + 1) fu (by omega) (by omega) (by omega) (by omega)
/-- the class's word is the reference's -/
theorem wiS_sound {bb e : Nat} : ∀ (W : List (List Nat)) (k q : Nat), wiS T N bb e k W = some q → k ≤ q ∧ ∃ w, W[q - k]? = some w ∧ spS T N w bb e = true := by
  intro W
  induction W with
  | nil => intro k q h; cases h
  | cons w r ih =>
    intro k q h
    rw [wiS] at h
    by_cases hs : spS T N w bb e = true
    · rw [if_pos hs] at h
      obtain rfl := Option.some.inj h
      exact ⟨Nat.le_refl _, w, by rw [Nat.sub_self]; rfl, hs⟩
    · rw [if_neg hs] at h
      obtain ⟨h1, w', h2, h3⟩ := ih (k + 1) q h
      refine ⟨by omega, w', ?_, h3⟩
      rw [show q - k = (q - (k + 1)) + 1 by omega, List.getElem?_cons_succ]
      exact h2
theorem wiS_find {bb e : Nat} : ∀ (W : List (List Nat)) (k j : Nat) (w : List Nat), W[j]? = some w → spS T N w bb e = true → ∃ q, wiS T N bb e k W = some q := by
  intro W
  induction W with
  | nil => intro k j w h; cases h
  | cons w0 r ih =>
    intro k j w h hs
    rw [wiS]
    by_cases h0 : spS T N w0 bb e = true
    · exact ⟨k, by rw [if_pos h0]⟩
    · rw [if_neg h0]
      cases j with
      | zero =>
        rw [List.getElem?_cons_zero] at h
        obtain rfl := Option.some.inj h
        exact absurd hs h0
      | succ j =>
        rw [List.getElem?_cons_succ] at h
        exact ih (k + 1) j w h hs
theorem WL_inj : ∀ i, i < 21 → ∀ j, j < 21 → WL[i]? = WL[j]? → i = j := by decide +kernel
theorem spW {bb e g : Nat} (hg : g < 21) {w : List Nat} (hw : WL[g]? = some w) : spS T N w bb e = decide (wiS T N bb e 0 WL = some g) := by
  have hch : ∀ w ∈ WL, ∀ c ∈ w, c < 256 := fun w h c hc => ((WL_ch w h).2 c hc).2
  cases hs : spS T N w bb e with
  | true =>
    obtain ⟨q, hq⟩ := wiS_find WL 0 g w hw hs
    obtain ⟨-, w', h2, h3⟩ := wiS_sound WL 0 q hq
    rw [Nat.sub_zero] at h2
    have hww : w = w' := spS_inj w w' bb e (hch w (List.mem_of_getElem? hw)) (hch w' (List.mem_of_getElem? h2)) hs h3
    have hq21 : q < 21 := by
      rcases Nat.lt_or_ge q 21 with h | h
      · exact h
      · rw [List.getElem?_eq_none (show WL.length ≤ q from h)] at h2; cases h2
    have : q = g := WL_inj q hq21 g hg (by rw [h2, hw, hww])
    rw [hq, this]
    exact (decide_eq_true rfl).symm
  | false =>
    symm
    refine decide_eq_false (fun q => ?_)
    obtain ⟨-, w', h2, h3⟩ := wiS_sound WL 0 g q
    rw [Nat.sub_zero, hw] at h2
    obtain rfl := Option.some.inj h2
    rw [hs] at h3
    cases h3
theorem ch_pos {bb e i : Nat} (hi : i < 7) : ∀ (P : List (Nat × Nat)) (G : List Nat) (k : Nat), P.length = G.length → (∀ (j : Nat) (p : Nat × Nat) (g : Nat), P[j]? = some p → G[j]? = some g → g < 21 ∧ WL[g]? = some (((txN i).drop p.1).take (p.2 - p.1))) → chnL (fun f j => spS T N (((txN i).drop f).take (j - f)) bb e) P k = posI G k (wiS T N bb e 0 WL) := by
  intro P
  induction P with
  | nil =>
    intro G k hl _
    cases G with
    | nil => rfl
    | cons g G => cases hl
  | cons p P ih =>
    intro G k hl h
    cases G with
    | nil => cases hl
    | cons g G =>
      have h0 := h 0 p g rfl rfl
      rw [chnL, posI, ih G (k + 1) (by simpa using hl) (fun j p' g' h1 h2 => h (j + 1) p' g' h1 h2)]
      rw [spW h0.1 h0.2]
      by_cases hc : wiS T N bb e 0 WL = some g
      · rw [if_pos (decide_eq_true hc), if_pos hc]
      · rw [if_neg (by simpa using hc), if_neg hc]
theorem wp_ok : ∀ i, i < 7 → (wpN i).length = (wgN i).length ∧ ∀ j, j < 8 → ∀ p, (wpN i)[j]? = some p → ∀ g, (wgN i)[j]? = some g → g < 21 ∧ WL[g]? = some (((txN i).drop p.1).take (p.2 - p.1)) := by
  intro i hi
  rcases (by omega : i = 0 ∨ i = 1 ∨ i = 2 ∨ i = 3 ∨ i = 4 ∨ i = 5 ∨ i = 6) with rfl | rfl | rfl | rfl | rfl | rfl | rfl <;> refine ⟨rfl, fun j hj p hp g hg => ?_⟩ <;> rcases (by omega : j = 0 ∨ j = 1 ∨ j = 2 ∨ j = 3 ∨ j = 4 ∨ j = 5 ∨ j = 6 ∨ j = 7) with rfl | rfl | rfl | rfl | rfl | rfl | rfl | rfl <;> first | (cases hp; done) | (cases hp; cases hg; exact ⟨by decide, by decide⟩)
theorem k_among (hX : ShX S x) (hB : BaseOK st S μ x b) (hT : TpR μ x T N) {p i : Nat} (hi : i < 7) (hp : p ≤ N) (hk : TkA μ x T N p) : f_X4_among (some (x + 149)) (some (st (60 + i))) (mkH n st S μ) = some (posI (wgN i) 0 (wdx T N p)) := by
  have tp := tok_pos (T := T) hp
  have hl := (txN_lt i hi).1
  have h7 := k_am7 (n := n) (st := st) hX hB hT hi hk.1 hk.2.1 (by omega) (by omega) 100 0 0 0 FU (by omega) (by have : FU = 4000 := rfl; omega) (Nat.le_refl _) (by omega)
  have wo := wp_ok i hi
  rw [am_ch _ i hi, ch_pos hi (wpN i) (wgN i) 0 wo.1 (fun j p g h1 h2 => wo.2 j (by
    rcases Nat.lt_or_ge j 8 with h | h
    · exact h
    · have : (wpN i).length ≤ 7 := by
        rcases (by omega : i = 0 ∨ i = 1 ∨ i = 2 ∨ i = 3 ∨ i = 4 ∨ i = 5 ∨ i = 6) with rfl | rfl | rfl | rfl | rfl | rfl | rfl <;> decide
      rw [List.getElem?_eq_none (by omega)] at h1
      cases h1) p h1 g h2)] at h7
  exact h7
end AMONG
