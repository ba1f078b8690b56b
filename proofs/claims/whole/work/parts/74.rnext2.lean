section RNEXT2
variable {n : Nat} {st : Nat → Nat} {S : SH} {μ : MU} {x b m : Nat} {T : Nat → Int32} {N : Nat}
theorem BaseOK.frK {μ' : MU} (hB : BaseOK st S μ x b) (hm : x ≤ m) (h : FrK m μ μ') : BaseOK st S μ' x b := hB.congr (fun _ _ => rfl) (fun a j q => h a j (by omega))
theorem r_words (hS : ShM S m) (hm : x ≤ m) {bb e : Nat} (hbe : bb ≤ e) : ∀ (ws : List (List Nat)) (k pos fu : Nat) (μ : MU), BaseOK st S μ x b → SrcR μ m T N → μ m 13 = nI e → μ m 14 = nI bb → e ≤ N → (∀ w ∈ ws, w.length < 100 ∧ ∀ c ∈ w, 0 < c ∧ c < 256) → (stV 4).drop pos = ws.flatMap (fun w => w.map nI ++ [0]) → 200 < fu + pos → pos ≤ 112 → ∃ μ', b_X12_word__17 fu (some m) (nI k) (nI bb) 1 (nI pos) (mkH n st S μ) = some (mkH n st S μ') ∧ FrK m μ μ' ∧ μ' m 13 = nI e ∧ μ' m 14 = nI bb ∧ (match lasM T N bb e k ws with
    | some j => μ' m 15 = 2 ∧ μ' m 16 = nI j
    | none => μ' m 15 = μ m 15 ∧ μ' m 16 = μ m 16) := by
  intro ws
  induction ws with
  | nil =>
    intro k pos fu μ hB hT h13 h14 he hw hd hf hp
    obtain ⟨fu, rfl⟩ : ∃ q, fu = q + 1 := ⟨fu - 1, by omega⟩
    have hl : (stV 4).length = 112 := rfl
    have hlen : pos = 112 := by
      have : ((stV 4).drop pos).length = 0 := by rw [hd]; rfl
      rw [List.length_drop, hl] at this
      omega
    subst hlen
    have aL := st_aL (n := n) hB (j := 4) (by omega)
    rw [hl] at aL
    have h4 : (mkH n st S μ).2.2 4 = st 4 := rfl
    refine ⟨μ, ?_, fun _ _ _ => rfl, h13, h14, rfl, rfl⟩
    rw [b_X12_word__17]
    simp only [h4, aL, some_bind]
    rw [if_neg (by decide)]
  | cons w ws ih =>
    intro k pos fu μ hB hT h13 h14 he hw hd hf hp
    have hN := hT.2.1
    have hww := hw w (List.mem_cons_self ..)
    have hd' : (stV 4).drop pos = w.map nI ++ 0 :: ws.flatMap (fun w => w.map nI ++ [0]) := by
      rw [hd, List.flatMap_cons, List.append_assoc]; rfl
    have hl : (stV 4).length = 112 := rfl
    have hlen : pos + w.length < 112 := by
      have : ((stV 4).drop pos).length = w.length + (1 + (ws.flatMap (fun w => w.map nI ++ [0])).length) := by rw [hd']; simp; omega
      rw [List.length_drop, hl] at this
      omega
    have h1 := r_wordI (n := n) (st := st) (S := S) (x := x) (b := b) (T := T) (N := N) hS (k := k) (bb := bb) (e := e) w (ws.flatMap (fun w => w.map nI ++ [0])) bb pos fu true μ hB hT h13 h14 he (by omega) hww.2 hd' (by omega) hlen
    have hdn : (stV 4).drop (pos + w.length + 1) = ws.flatMap (fun w => w.map nI ++ [0]) := by
      have : ((stV 4).drop pos).drop (w.length + 1) = ws.flatMap (fun w => w.map nI ++ [0]) := by
        rw [hd', List.drop_append]
        simp
      rw [List.drop_drop] at this
      rw [← this]
      congr 1
    obtain ⟨μ1, hμ1⟩ : ∃ q, q = (if true && spS T N w bb e then up2 (up2 μ m 15 2) m 16 (nI k) else μ) := ⟨_, rfl⟩
    rw [← hμ1] at h1
    have hFr : FrK m μ μ1 := by
      intro a j q
      rw [hμ1]
      split
      · rw [up2_ne (by omega), up2_ne (by omega)]
      · rfl
    have g13 : μ1 m 13 = nI e := by
      rw [hμ1]; split
      · rw [up2_ne (by omega), up2_ne (by omega)]; exact h13
      · exact h13
    have g14 : μ1 m 14 = nI bb := by
      rw [hμ1]; split
      · rw [up2_ne (by omega), up2_ne (by omega)]; exact h14
      · exact h14
    obtain ⟨μ', r1, r2, r3, r4, r5⟩ := ih (k + 1) (pos + w.length + 1) (fu - w.length - 1) μ1 (hB.frK hm hFr) (hT.frK hFr) g13 g14 he (fun q hq => hw q (List.mem_cons_of_mem _ hq)) hdn (by omega) (by omega)
    refine ⟨μ', Eq.trans h1 r1, hFr.trans r2, r3, r4, ?_⟩
    rw [lasM]
    cases hl : lasM T N bb e (k + 1) ws with
    | some j => rw [hl] at r5; exact r5
    | none =>
      rw [hl] at r5
      simp only [] at r5 ⊢
      rw [r5.1, r5.2, hμ1]
      by_cases hs : spS T N w bb e = true
      · simp only [hs, Bool.true_and, if_true]
        exact ⟨by rw [up2_ne (by omega), up2_same], by rw [up2_same]⟩
      · simp only [hs, Bool.true_and, if_false, Bool.false_eq_true]
        exact ⟨trivial, trivial⟩
theorem WL_nd : ndB WL = true := by decide
theorem WL_ch : ∀ w ∈ WL, w.length < 100 ∧ ∀ c ∈ w, 0 < c ∧ c < 256 := by decide
theorem WL_tab : (stV 4).drop 0 = WL.flatMap (fun w => w.map nI ++ [0]) := by decide
theorem r_word (hS : ShM S m) (hm : x ≤ m) {bb e : Nat} (hbe : bb ≤ e) (hB : BaseOK st S μ x b) (hT : SrcR μ m T N) (h13 : μ m 13 = nI e) (h14 : μ m 14 = nI bb) (he : e ≤ N) : ∃ μ', f_X12_word_ (some m) (mkH n st S μ) = some (mkH n st S μ') ∧ FrK m μ μ' ∧ μ' m 13 = nI e ∧ μ' m 14 = nI bb ∧ (match wiS T N bb e 0 WL with
    | some j => μ' m 15 = 2 ∧ μ' m 16 = nI j
    | none => μ' m 15 = 1) := by
  have hFr : FrK m μ (up2 μ m 15 1) := fun a j q => up2_ne (by omega)
  obtain ⟨μ', r1, r2, r3, r4, r5⟩ := r_words (n := n) (st := st) (S := S) (x := x) (b := b) (T := T) (N := N) hS hm hbe WL 0 0 FU (up2 μ m 15 1) (hB.frK hm hFr) (hT.frK hFr) (by rw [up2_ne (by omega)]; exact h13) (by rw [up2_ne (by omega)]; exact h14) he WL_ch WL_tab (by decide) (by omega)
  refine ⟨μ', ?_, hFr.trans r2, r3, r4, ?_⟩
  · rw [← r1]
    simp only [f_X12_word_, mP15 hS, some_bind, mI14 hS]
    rw [up2_ne (by omega), h14]
    rfl
  · rw [lasM_wiS WL 0 WL_nd (fun w hw c hc => ((WL_ch w hw).2 c hc).2)] at r5
    cases hw : wiS T N bb e 0 WL with
    | some j => rw [hw] at r5; exact r5
    | none =>
      rw [hw] at r5
      simp only [] at r5 ⊢
      rw [r5.1, up2_same]
theorem r_lets (hS : ShM S m) (hm : x ≤ m) {bb : Nat} : ∀ k f fu p (μ : MU), BaseOK st S μ x b → SrcR μ m T N → N - p ≤ k → k < f → k < fu → p ≤ N → bb ≤ p → μ m 13 = nI p → μ m 14 = nI bb → ∃ μ', b_X12_next_181 fu (some m) (mkH n st S μ) = some (mkH n st S μ') ∧ FrK m μ μ' ∧ μ' m 13 = nI (leS T N f p) ∧ μ' m 14 = nI bb ∧ (match wiS T N bb (leS T N f p) 0 WL with
    | some j => μ' m 15 = 2 ∧ μ' m 16 = nI j
    | none => μ' m 15 = 1) := by
  intro k
  have hfin : ∀ fu p (μ : MU), BaseOK st S μ x b → SrcR μ m T N → p ≤ N → bb ≤ p → μ m 13 = nI p → μ m 14 = nI bb → letB (byS T N p) = false → ∃ μ', b_X12_next_181 (fu + 1) (some m) (mkH n st S μ) = some (mkH n st S μ') ∧ FrK m μ μ' ∧ μ' m 13 = nI p ∧ μ' m 14 = nI bb ∧ (match wiS T N bb p 0 WL with
      | some j => μ' m 15 = 2 ∧ μ' m 16 = nI j
      | none => μ' m 15 = 1) := by
    intro fu p μ hB hT hp hb h13 h14 hd
    have hN := hT.2.1
    obtain ⟨μ', r1, r2⟩ := r_word (n := n) (st := st) hS hm hb hB hT h13 h14 hp
    refine ⟨μ', ?_, r2⟩
    simp only [b_X12_next_181, mI13 hS, some_bind, h13, rck hS, r_byteAt hS hT (show p < 2 ^ 30 by omega), s_in, letB_in, hd, ite_bI0, Bool.false_eq_true, if_false, r1]
  induction k with
  | zero =>
    intro f fu p μ hB hT hk hf hfu hp hb h13 h14
    obtain ⟨fu, rfl⟩ : ∃ q, fu = q + 1 := ⟨fu - 1, by omega⟩
    obtain ⟨f, rfl⟩ : ∃ q, f = q + 1 := ⟨f - 1, by omega⟩
    have hd : letB (byS T N p) = false := by rw [byS_end (by omega)]; decide
    rw [leS, if_neg (by rw [hd]; decide)]
    exact hfin fu p μ hB hT hp hb h13 h14 hd
  | succ k ih =>
    intro f fu p μ hB hT hk hf hfu hp hb h13 h14
    obtain ⟨fu, rfl⟩ : ∃ q, fu = q + 1 := ⟨fu - 1, by omega⟩
    obtain ⟨f, rfl⟩ : ∃ q, f = q + 1 := ⟨f - 1, by omega⟩
    have hN := hT.2.1
    by_cases hd : letB (byS T N p) = true
    · have hpN := byS_lt (T := T) (N := N) (k := p) (by intro h2; rw [h2, let_m1] at hd; cases hd)
      rw [leS, if_pos hd]
      have hFr : FrK m μ (up2 μ m 13 (nI (p + 1))) := fun a j q => up2_ne (by omega)
      obtain ⟨μ', g1, g2, g3⟩ := ih f fu (p + 1) (up2 μ m 13 (nI (p + 1))) (hB.frK hm hFr) (hT.frK hFr) (by omega) (by omega) (by omega) (by omega) (by omega) up2_same (by rw [up2_ne (by omega)]; exact h14)
      refine ⟨μ', ?_, hFr.trans g2, g3⟩
      rw [← g1]
      simp only [b_X12_next_181, mI13 hS, some_bind, h13, rck hS, r_byteAt hS hT (show p < 2 ^ 30 by omega), s_in, letB_in, hd, ite_bI0, if_true, nI_1, mP13 hS]
    · have hd' : letB (byS T N p) = false := by simpa using hd
      rw [leS, if_neg hd]
      exact hfin fu p μ hB hT hp hb h13 h14 hd'
/-- the token behind p stands in the reader -/
def Tok (μ : MU) (m : Nat) (T : Nat → Int32) (N p : Nat) : Prop := μ m 13 = nI (tA T N p) ∧ μ m 14 = nI (tB T N p) ∧ μ m 15 = tK T N p ∧ (tK T N p = 2 ∨ tK T N p = 3 → μ m 16 = tV T N p)
theorem r_next (hS : ShM S m) (hm : x ≤ m) (hB : BaseOK st S μ x b) (hT : SrcR μ m T N) {p : Nat} (hp : p ≤ N) (h13 : μ m 13 = nI p) : ∃ μ', f_X12_next (some m) (mkH n st S μ) = some (mkH n st S μ') ∧ FrK m μ μ' ∧ Tok μ' m T N p := by
  have hN := hT.2.1
  obtain ⟨fu, μ1, g1, g2, g3, g4⟩ := r_skip (n := n) (st := st) hS 300 400 FU p μ hT (by omega) (by omega) (by decide) hp h13
  have hT1 := hT.frK g4
  have hB1 := hB.frK hm g4
  obtain ⟨sk, hsk⟩ : ∃ q, q = skS T N 400 p := ⟨_, rfl⟩
  have hskp := skS_pos (T := T) (N := N) 400 p hp
  have hc := nxS_cases T N p
  rw [← hsk] at g2 g3 hskp hc
  have hby := r_byteAt (n := n) (st := st) hS hT1 (show sk < 2 ^ 30 by omega)
  have hF2 : FrK m μ1 (up2 μ1 m 14 (nI sk)) := fun a j q => up2_ne (by omega)
  have hT2 := hT1.frK hF2
  have hB2 := hB1.frK hm hF2
  have hby2 := r_byteAt (n := n) (st := st) hS hT2 (show sk < 2 ^ 30 by omega)
  have g2' : up2 μ1 m 14 (nI sk) m 13 = nI sk := by rw [up2_ne (by omega)]; exact g2
  have f0 : f_X12_next (some m) (mkH n st S μ) = b_X12_next_0 (fu + 1) (some m) (mkH n st S μ1) := g1
  rcases hc with ⟨h1, h2, h3, h4⟩ | ⟨h1, h1', h2, h3, h4, h5⟩ | ⟨h1, h1'', h1', h2, h3, h4⟩ | ⟨h1, h1'', h1', h2, h3, h4⟩
  · refine ⟨up2 (up2 μ1 m 14 (nI sk)) m 15 0, ?_, (g4.trans hF2).trans (fun a j q => up2_ne (by omega)), ?_, ?_, ?_, ?_⟩
    · rw [f0]
      simp only [b_X12_next_0, mI13 hS, some_bind, g2, rck hS, hby, g3, if_false, mP14 hS, g2', hby2, h1, if_true, mP15 hS]
    · rw [h3, up2_ne (by omega)]; exact g2'
    · rw [h2, up2_ne (by omega), up2_same]
    · rw [h4, up2_same]
    · intro h; rw [h4] at h; rcases h with h | h <;> exact absurd h (by decide)
  · obtain ⟨μ3, r1, r2, r3, r4, r5, r6⟩ := r_digs (n := n) (st := st) (S := S) hS (b := sk) 300 400 FU sk 0 (up2 (up2 μ1 m 14 (nI sk)) m 16 0) (hT2.frK (fun a j q => up2_ne (by omega))) (by omega) (by omega) (by decide) (by omega) (Nat.le_refl _) (by rw [up2_ne (by omega)]; exact g2') (by rw [up2_ne (by omega), up2_same]) up2_same
    refine ⟨μ3, ?_, ((g4.trans hF2).trans (fun a j q => up2_ne (by omega))).trans r6, ?_, ?_, ?_, ?_⟩
    · rw [f0, ← r1]
      simp only [b_X12_next_0, mI13 hS, some_bind, g2, rck hS, hby, g3, if_false, mP14 hS, g2', hby2, h1, s_in, digB_in, h1', ite_bI0, if_true, mP16 hS]
    · rw [h3, r2]
    · rw [h2, r3]
    · rw [h4, r5]
    · intro _; rw [h5, r4]
  · obtain ⟨μ3, r1, r2, r3, r4, r5⟩ := r_lets (n := n) (st := st) (S := S) (x := x) (b := b) hS hm (bb := sk) 300 400 FU sk (up2 μ1 m 14 (nI sk)) hB2 hT2 (by omega) (by omega) (by decide) (by omega) (Nat.le_refl _) g2' up2_same
    have fx : f_X12_next (some m) (mkH n st S μ) = some (mkH n st S μ3) := by
      rw [f0, ← r1]
      simp only [b_X12_next_0, mI13 hS, some_bind, g2, rck hS, hby, g3, if_false, mP14 hS, g2', hby2, h1, s_in, digB_in, h1'', ite_bI0, letB_in, h1', if_true, Bool.false_eq_true]
    refine ⟨μ3, fx, (g4.trans hF2).trans r2, ?_⟩
    rcases h4 with ⟨k, w1, w2, w3⟩ | ⟨w1, w2⟩
    · rw [w1] at r5
      exact ⟨by rw [h3, r3], by rw [h2, r4], by rw [w2, r5.1], fun _ => by rw [w3, r5.2]⟩
    · rw [w1] at r5
      exact ⟨by rw [h3, r3], by rw [h2, r4], by rw [w2, r5], fun h => by rw [w2] at h; rcases h with h | h <;> exact absurd h (by decide)⟩
  · obtain ⟨c, hcc⟩ : ∃ q, q = byS T N sk := ⟨_, rfl⟩
    rw [← hcc] at hby hby2 h1 h1' h1'' h4
    have hfin : ∀ v, ∃ μ', b_X12_next_283 (some m) v (mkH n st S (up2 (up2 μ1 m 14 (nI sk)) m 13 (nI (sk + 1)))) = some (mkH n st S μ') ∧ μ' = up2 (up2 (up2 μ1 m 14 (nI sk)) m 13 (nI (sk + 1))) m 15 v := fun v => ⟨_, by simp only [b_X12_next_283, mP15 hS, some_bind], rfl⟩
    refine ⟨up2 (up2 (up2 μ1 m 14 (nI sk)) m 13 (nI (sk + 1))) m 15 (if opB c then c else 1), ?_, (g4.trans hF2).trans (fun a j q => by rw [up2_ne (by omega), up2_ne (by omega)]), ?_, ?_, ?_, ?_⟩
    · rw [f0]
      have f1 : b_X12_next_0 (fu + 1) (some m) (mkH n st S μ1) = if c = 59 ∨ c = 40 ∨ c = 41 ∨ c = 60 ∨ c = 61 ∨ c = 62 ∨ c = 43 ∨ c = 45 then b_X12_next_283 (some m) c (mkH n st S (up2 (up2 μ1 m 14 (nI sk)) m 13 (nI (sk + 1)))) else b_X12_next_283 (some m) 1 (mkH n st S (up2 (up2 μ1 m 14 (nI sk)) m 13 (nI (sk + 1)))) := by
        have g3' : ¬ c = 32 := by rw [hcc]; exact g3
        simp only [b_X12_next_0, mI13 hS, some_bind, g2, rck hS, hby, g3', if_false, mP14 hS, g2', hby2, h1, s_in, digB_in, h1'', ite_bI0, letB_in, h1', Bool.false_eq_true, nI_1, mP13 hS]
        by_cases q1 : c = 59
        · simp only [q1, true_or, if_true]
        · by_cases q2 : c = 40
          · rw [if_neg q1, if_pos q2, if_pos (Or.inr (Or.inl q2))]
          · by_cases q3 : c = 41
            · rw [if_neg q1, if_neg q2, if_pos q3, if_pos (Or.inr (Or.inr (Or.inl q3)))]
            · by_cases q4 : c = 60
              · rw [if_neg q1, if_neg q2, if_neg q3, if_pos q4, if_pos (Or.inr (Or.inr (Or.inr (Or.inl q4))))]
              · by_cases q5 : c = 61
                · rw [if_neg q1, if_neg q2, if_neg q3, if_neg q4, if_pos q5, if_pos (Or.inr (Or.inr (Or.inr (Or.inr (Or.inl q5)))))]
                · by_cases q6 : c = 62
                  · rw [if_neg q1, if_neg q2, if_neg q3, if_neg q4, if_neg q5, if_pos q6, if_pos (Or.inr (Or.inr (Or.inr (Or.inr (Or.inr (Or.inl q6))))))]
                  · by_cases q7 : c = 43
                    · rw [if_neg q1, if_neg q2, if_neg q3, if_neg q4, if_neg q5, if_neg q6, if_pos q7, if_pos (Or.inr (Or.inr (Or.inr (Or.inr (Or.inr (Or.inr (Or.inl q7)))))))]
                    · by_cases q8 : c = 45
                      · rw [if_neg q1, if_neg q2, if_neg q3, if_neg q4, if_neg q5, if_neg q6, if_neg q7, if_pos q8, if_pos (Or.inr (Or.inr (Or.inr (Or.inr (Or.inr (Or.inr (Or.inr q8)))))))]
                      · rw [if_neg q1, if_neg q2, if_neg q3, if_neg q4, if_neg q5, if_neg q6, if_neg q7, if_neg q8, if_neg (by
                          intro h
                          rcases h with h | h | h | h | h | h | h | h
                          · exact q1 h
                          · exact q2 h
                          · exact q3 h
                          · exact q4 h
                          · exact q5 h
                          · exact q6 h
                          · exact q7 h
                          · exact q8 h)]
      rw [f1]
      by_cases ho : c = 59 ∨ c = 40 ∨ c = 41 ∨ c = 60 ∨ c = 61 ∨ c = 62 ∨ c = 43 ∨ c = 45
      · rw [if_pos ho, if_pos (show opB c = true from decide_eq_true ho)]
        simp only [b_X12_next_283, mP15 hS, some_bind]
      · rw [if_neg ho, if_neg (show ¬ opB c = true from fun h => ho (of_decide_eq_true h))]
        simp only [b_X12_next_283, mP15 hS, some_bind]
    · rw [h3, up2_ne (by omega), up2_same]
    · rw [h2, up2_ne (by omega), up2_ne (by omega), up2_same]
    · rw [h4, up2_same]
    · intro h
      rw [h4] at h
      exfalso
      by_cases ho : opB c = true
      · rw [if_pos ho] at h
        rcases h with h | h <;> (rw [h] at ho; exact absurd ho (by decide))
      · rw [if_neg ho] at h
        rcases h with h | h <;> exact absurd h (by decide)
end RNEXT2
