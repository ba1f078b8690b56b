-- ===== a round of the law =====
section LOOP2
variable {n : Nat} {st : Nat → Nat} {S : SH} {μ : MU} {x b L : Nat} {xs : Nat → Int32}
set_option maxRecDepth 20000 in
set_option maxHeartbeats 4000000 in
theorem law_step (hL : L ≤ 3584) (f : Nat) {i : Nat} (hi : i ≤ 8000) (x0 : Option Nat) (hR : R n st S μ x b) (ih : i + 7 ≤ L → ∀ (n' : Nat) (S' : SH) (μ' : MU), R n' st S' μ' x b → Ok (c_L_law_18 L xs f x0 (some x) (some (x + 175)) (nI (i + 7)) (mkH n' st S' μ'))) : Ok (c_L_law_18 L xs (f + 1) x0 (some x) (some (x + 175)) (nI i) (mkH n st S μ)) := by
  rw [c_L_law_18]
  show Ok (if nI L - 7 < nI i then _ else _)
  by_cases c7 : L < i + 7
  · rw [if_pos ((sub7 hL hi).mpr c7)]
    exact ⟨_, rfl⟩
  rw [if_neg (fun q => c7 ((sub7 hL hi).mp q))]
  replace ih := ih (by omega)
  have e7 : nI i + 7 = nI (i + 7) := nI_add i 7
  have s0 : sX L xs (nI i) = some (xs i) := sX_at hL (by omega)
  have s1 : sX L xs (nI i + 1) = some (xs (i + 1)) := (congrArg (sX L xs) (nI_add i 1)).trans (sX_at hL (by omega))
  have s2 : sX L xs (nI i + 2) = some (xs (i + 2)) := (congrArg (sX L xs) (nI_add i 2)).trans (sX_at hL (by omega))
  have s3 : sX L xs (nI i + 3) = some (xs (i + 3)) := (congrArg (sX L xs) (nI_add i 3)).trans (sX_at hL (by omega))
  have s4 : sX L xs (nI i + 4) = some (xs (i + 4)) := (congrArg (sX L xs) (nI_add i 4)).trans (sX_at hL (by omega))
  have s5 : sX L xs (nI i + 5) = some (xs (i + 5)) := (congrArg (sX L xs) (nI_add i 5)).trans (sX_at hL (by omega))
  have s6 : sX L xs (nI i + 6) = some (xs (i + 6)) := (congrArg (sX L xs) (nI_add i 6)).trans (sX_at hL (by omega))
  rw [s0, some_bind, e7]
  generalize c_L_law_18 L xs f x0 (some x) (some (x + 175)) (nI (i + 7)) = G at ih ⊢
  generalize xs i &&& 63 = c
  by_cases q : c < 0 ∨ 55 < c
  · rw [if_pos q]
    exact ih _ _ _ hR
  rw [if_neg q]
  by_cases c0 : c = 0
  · rw [if_pos c0]
    simp only [s1, some_bind]
    exact go_p hR (op_days hR _) (fun _ _ e => u_f_X12_days e) ih
  rw [if_neg c0]
  by_cases c1 : c = 1
  · rw [if_pos c1]
    simp only [s1, some_bind]
    exact go_p hR (op_wet hR _) (fun _ _ e => u_f_X12_wet e) ih
  rw [if_neg c1]
  by_cases c2 : c = 2
  · rw [if_pos c2]
    simp only [s1, s2, some_bind]
    exact go_p hR (op_ward hR _ _) (fun _ _ e => u_f_X12_ward e) ih
  rw [if_neg c2]
  by_cases c3 : c = 3
  · rw [if_pos c3]
    simp only [s1, s2, s3, some_bind]
    exact go_p hR (op_harvest hR _ _ _) (fun _ _ e => u_f_X12_harvest e) ih
  rw [if_neg c3]
  by_cases c4 : c = 4
  · rw [if_pos c4]
    simp only [s1, s2, s3, s4, some_bind]
    exact go_p hR (op_man hR _ _ _ _) (fun _ _ e => u_f_X12_man e) ih
  rw [if_neg c4]
  by_cases c5 : c = 5
  · rw [if_pos c5]
    simp only [s1, s2, s3, some_bind]
    exact go_p hR (op_style hR _ _ _) (fun _ _ e => u_f_X12_style e) ih
  rw [if_neg c5]
  by_cases c6 : c = 6
  · rw [if_pos c6]
    simp only [s1, s2, s3, some_bind]
    exact go_p hR (op_fear hR _ _ _) (fun _ _ e => u_f_X12_fear e) ih
  rw [if_neg c6]
  by_cases c7 : c = 7
  · rw [if_pos c7]
    simp only [s1, s2, s3, some_bind]
    exact go_p hR (op_word hR _ _ _) (fun _ _ e => u_f_X12_word e) ih
  rw [if_neg c7]
  by_cases c8 : c = 8
  · rw [if_pos c8]
    simp only [s1, s2, some_bind]
    exact go_q hR (q_heard hR _ _) ih
  rw [if_neg c8]
  by_cases c9 : c = 9
  · rw [if_pos c9]
    simp only [s1, s2, s3, some_bind]
    exact go_q hR (q_dread hR _ _ _) ih
  rw [if_neg c9]
  by_cases c10 : c = 10
  · rw [if_pos c10]
    simp only [s1, s2, some_bind]
    exact go_p hR (op_rule hR _ _) (fun _ _ e => u_f_X12_rule e) ih
  rw [if_neg c10]
  by_cases c11 : c = 11
  · rw [if_pos c11]
    simp only [s1, s2, some_bind]
    exact go_q hR (q_of hR _ _) ih
  rw [if_neg c11]
  by_cases c12 : c = 12
  · rw [if_pos c12]
    simp only [s1, s2, s3, s4, some_bind]
    exact go_p hR (op_bargain hR _ _ _ _) (fun _ _ e => u_f_X12_bargain e) ih
  rw [if_neg c12]
  by_cases c13 : c = 13
  · rw [if_pos c13]
    simp only [s1, s2, some_bind]
    exact go_q hR (q_bound hR _ _) ih
  rw [if_neg c13]
  by_cases c14 : c = 14
  · rw [if_pos c14]
    simp only [s1, s2, some_bind]
    exact go_q hR (q_comes hR _ _) ih
  rw [if_neg c14]
  by_cases c15 : c = 15
  · rw [if_pos c15]
    simp only [s1, s2, some_bind]
    exact go_q hR (q_cast hR _ _) ih
  rw [if_neg c15]
  by_cases c16 : c = 16
  · rw [if_pos c16]
    simp only [s1, s2, s3, s4, s5, s6, some_bind]
    exact go_p hR (op_sherd hR _ _ _ _ _ _) (fun _ _ e => u_f_X12_sherd e) ih
  rw [if_neg c16]
  by_cases c17 : c = 17
  · rw [if_pos c17]
    exact go_p hR (op_vote hR) (fun _ _ e => u_f_X12_vote e) ih
  rw [if_neg c17]
  by_cases c18 : c = 18
  · rw [if_pos c18]
    simp only [s1, some_bind]
    exact go_p hR (op_thrown hR _) (fun _ _ e => u_f_X12_thrown e) ih
  rw [if_neg c18]
  by_cases c19 : c = 19
  · rw [if_pos c19]
    simp only [s1, s2, some_bind]
    exact go_p hR (op_sherdOf hR _ _) (fun _ _ e => u_f_X12_sherdOf e) ih
  rw [if_neg c19]
  by_cases c20 : c = 20
  · rw [if_pos c20]
    simp only [s1, s2, some_bind]
    exact go_p hR (op_apart hR _ _) (fun _ _ e => u_f_X12_apart e) ih
  rw [if_neg c20]
  by_cases c21 : c = 21
  · rw [if_pos c21]
    simp only [s1, s2, s3, some_bind]
    exact go_p hR (op_feed hR _ _) (fun _ _ e => u_f_X12_feed e) ih
  rw [if_neg c21]
  by_cases c22 : c = 22
  · rw [if_pos c22]
    simp only [s1, some_bind]
    exact go_p hR (op_read hR _) (fun _ _ e => u_f_X12_read e) ih
  rw [if_neg c22]
  by_cases c23 : c = 23
  · rw [if_pos c23]
    simp only [s1, some_bind]
    exact go_p hR (op_force hR _) (fun _ _ e => u_f_X12_force e) ih
  rw [if_neg c23]
  by_cases c24 : c = 24
  · rw [if_pos c24]
    simp only [s1, some_bind]
    exact go_h hR (op_law hR _) ih
  rw [if_neg c24]
  by_cases c25 : c = 25
  · rw [if_pos c25]
    simp only [s1, s2, some_bind]
    exact go_p hR (op_count hR _ _) (fun _ _ e => u_f_X12_count e) ih
  rw [if_neg c25]
  by_cases c26 : c = 26
  · rw [if_pos c26]
    simp only [s1, s2, s3, some_bind]
    by_cases z : xs (i + 3) = 0
    · simp only [z, if_true]
      exact go_p hR (op_counted hR _ _ _) (fun _ _ e => u_f_X12_counted e) ih
    · simp only [z, if_false]
      exact go_p hR (op_counted hR _ _ _) (fun _ _ e => u_f_X12_counted e) ih
  rw [if_neg c26]
  by_cases c27 : c = 27
  · rw [if_pos c27]
    simp only [s1, s2, s3, some_bind]
    exact go_p hR (op_tally hR _ _ _) (fun _ _ e => u_f_X12_tally e) ih
  rw [if_neg c27]
  by_cases c28 : c = 28
  · rw [if_pos c28]
    simp only [s1, some_bind]
    exact go_p hR (op_tallies hR _) (fun _ _ e => u_f_X12_tallies e) ih
  rw [if_neg c28]
  by_cases c29 : c = 29
  · rw [if_pos c29]
    exact go_p hR (op_send hR) (fun _ _ e => u_f_X12_send e) ih
  rw [if_neg c29]
  by_cases c30 : c = 30
  · rw [if_pos c30]
    simp only [s1, s2, s3, some_bind]
    exact go_p hR (op_recall hR _ _ _) (fun _ _ e => u_f_X12_recall e) ih
  rw [if_neg c30]
  by_cases c31 : c = 31
  · rw [if_pos c31]
    simp only [s1, s2, some_bind]
    exact go_p hR (op_may hR _ _) (fun _ _ e => u_f_X12_may e) ih
  rw [if_neg c31]
  by_cases c32 : c = 32
  · rw [if_pos c32]
    simp only [s1, s2, some_bind]
    exact go_p hR (op_beside hR _ _) (fun _ _ e => u_f_X12_beside e) ih
  rw [if_neg c32]
  by_cases c33 : c = 33
  · rw [if_pos c33]
    simp only [s1, some_bind]
    exact go_p hR (op_keptBy hR _) (fun _ _ e => u_f_X12_keptBy e) ih
  rw [if_neg c33]
  by_cases c34 : c = 34
  · rw [if_pos c34]
    simp only [s1, s2, some_bind]
    exact go_p hR (op_broken hR _ _) (fun _ _ e => u_f_X12_broken e) ih
  rw [if_neg c34]
  by_cases c35 : c = 35
  · rw [if_pos c35]
    simp only [s1, s2, some_bind]
    exact go_p hR (op_turn hR _ _) (fun _ _ e => u_f_X12_turn e) ih
  rw [if_neg c35]
  by_cases c36 : c = 36
  · rw [if_pos c36]
    simp only [s1, some_bind]
    exact go_p hR (op_prove hR _) (fun _ _ e => u_f_X12_prove e) ih
  rw [if_neg c36]
  by_cases c37 : c = 37
  · rw [if_pos c37]
    simp only [s1, s2, some_bind]
    exact go_q hR (q_row hR _ _) ih
  rw [if_neg c37]
  by_cases c38 : c = 38
  · rw [if_pos c38]
    simp only [s1, s2, s3, some_bind]
    exact go_p hR (op_alterRow hR _ _ _) (fun _ _ e => u_f_X12_alterRow e) ih
  rw [if_neg c38]
  by_cases c39 : c = 39
  · rw [if_pos c39]
    simp only [s1, some_bind]
    exact go_p hR (op_judge hR _) (fun _ _ e => u_f_X12_judge e) ih
  rw [if_neg c39]
  by_cases c40 : c = 40
  · rw [if_pos c40]
    simp only [s1, some_bind]
    exact go_p hR (op_best hR _) (fun _ _ e => u_f_X12_best e) ih
  rw [if_neg c40]
  by_cases c41 : c = 41
  · rw [if_pos c41]
    simp only [s1, some_bind]
    exact go_p hR (op_heap hR _) (fun _ _ e => u_f_X12_heap e) ih
  rw [if_neg c41]
  by_cases c42 : c = 42
  · rw [if_pos c42]
    exact go_p hR (op_clear hR) (fun _ _ e => u_f_X12_clear e) ih
  rw [if_neg c42]
  by_cases c43 : c = 43
  · rw [if_pos c43]
    simp only [s1, s2, some_bind]
    exact go_q hR (q_alike hR _ _) ih
  rw [if_neg c43]
  by_cases c44 : c = 44
  · rw [if_pos c44]
    simp only [s1, some_bind]
    exact go_p hR (op_hands hR _) (fun _ _ e => u_f_X12_hands e) ih
  rw [if_neg c44]
  by_cases c45 : c = 45
  · rw [if_pos c45]
    simp only [s1, s2, s3, some_bind]
    exact go_p hR (op_sheet hR _ _ _) (fun _ _ e => u_f_X12_sheet e) ih
  rw [if_neg c45]
  by_cases c46 : c = 46
  · rw [if_pos c46]
    simp only [s1, s2, s3, some_bind]
    exact go_p hR (op_put hR _ _ _) (fun _ _ e => u_f_X12_put e) ih
  rw [if_neg c46]
  by_cases c47 : c = 47
  · rw [if_pos c47]
    simp only [s1, s2, s3, some_bind]
    exact go_q hR (q_item hR _ _ _) ih
  rw [if_neg c47]
  by_cases c48 : c = 48
  · rw [if_pos c48]
    simp only [s1, s2, some_bind]
    exact go_p hR (op_comesFrom hR _ _) (fun _ _ e => u_f_X12_comesFrom e) ih
  rw [if_neg c48]
  by_cases c49 : c = 49
  · rw [if_pos c49]
    simp only [s1, s2, s3, some_bind]
    exact go_p hR (op_shelf hR _ _ _) (fun _ _ e => u_f_X12_shelf e) ih
  rw [if_neg c49]
  by_cases c50 : c = 50
  · rw [if_pos c50]
    simp only [s1, s2, some_bind]
    exact go_h hR (op_taken hR _ _) ih
  rw [if_neg c50]
  by_cases c51 : c = 51
  · rw [if_pos c51]
    simp only [s1, s2, s3, some_bind]
    exact go_p hR (op_act hR _ _ _) (fun _ _ e => u_f_X12_act e) ih
  rw [if_neg c51]
  by_cases c52 : c = 52
  · rw [if_pos c52]
    simp only [s1, some_bind]
    exact go_q hR (q_trace hR _) ih
  rw [if_neg c52]
  by_cases c53 : c = 53
  · rw [if_pos c53]
    simp only [s1, some_bind]
    exact go_q hR (q_many hR _) ih
  rw [if_neg c53]
  by_cases c54 : c = 54
  · rw [if_pos c54]
    exact go_p hR (op_keep hR) (fun _ _ e => u_f_X12_keep e) ih
  rw [if_neg c54]
  by_cases c55 : c = 55
  · rw [if_pos c55]
    exact go_p hR (op_again hR) (fun _ _ e => u_f_X12_again e) ih
  rw [if_neg c55]
  obtain ⟨k, hk, rfl⟩ := c_rng q
  exfalso
  rcases (by omega : k = 0 ∨ k = 1 ∨ k = 2 ∨ k = 3 ∨ k = 4 ∨ k = 5 ∨ k = 6 ∨ k = 7 ∨ k = 8 ∨ k = 9 ∨ k = 10 ∨ k = 11 ∨ k = 12 ∨ k = 13 ∨ k = 14 ∨ k = 15 ∨ k = 16 ∨ k = 17 ∨ k = 18 ∨ k = 19 ∨ k = 20 ∨ k = 21 ∨ k = 22 ∨ k = 23 ∨ k = 24 ∨ k = 25 ∨ k = 26 ∨ k = 27 ∨ k = 28 ∨ k = 29 ∨ k = 30 ∨ k = 31 ∨ k = 32 ∨ k = 33 ∨ k = 34 ∨ k = 35 ∨ k = 36 ∨ k = 37 ∨ k = 38 ∨ k = 39 ∨ k = 40 ∨ k = 41 ∨ k = 42 ∨ k = 43 ∨ k = 44 ∨ k = 45 ∨ k = 46 ∨ k = 47 ∨ k = 48 ∨ k = 49 ∨ k = 50 ∨ k = 51 ∨ k = 52 ∨ k = 53 ∨ k = 54 ∨ k = 55) with rfl | rfl | rfl | rfl | rfl | rfl | rfl | rfl | rfl | rfl | rfl | rfl | rfl | rfl | rfl | rfl | rfl | rfl | rfl | rfl | rfl | rfl | rfl | rfl | rfl | rfl | rfl | rfl | rfl | rfl | rfl | rfl | rfl | rfl | rfl | rfl | rfl | rfl | rfl | rfl | rfl | rfl | rfl | rfl | rfl | rfl | rfl | rfl | rfl | rfl | rfl | rfl | rfl | rfl | rfl | rfl
  · exact c0 rfl
  · exact c1 rfl
  · exact c2 rfl
  · exact c3 rfl
  · exact c4 rfl
  · exact c5 rfl
  · exact c6 rfl
  · exact c7 rfl
  · exact c8 rfl
  · exact c9 rfl
  · exact c10 rfl
  · exact c11 rfl
  · exact c12 rfl
  · exact c13 rfl
  · exact c14 rfl
  · exact c15 rfl
  · exact c16 rfl
  · exact c17 rfl
  · exact c18 rfl
  · exact c19 rfl
  · exact c20 rfl
  · exact c21 rfl
  · exact c22 rfl
  · exact c23 rfl
  · exact c24 rfl
  · exact c25 rfl
  · exact c26 rfl
  · exact c27 rfl
  · exact c28 rfl
  · exact c29 rfl
  · exact c30 rfl
  · exact c31 rfl
  · exact c32 rfl
  · exact c33 rfl
  · exact c34 rfl
  · exact c35 rfl
  · exact c36 rfl
  · exact c37 rfl
  · exact c38 rfl
  · exact c39 rfl
  · exact c40 rfl
  · exact c41 rfl
  · exact c42 rfl
  · exact c43 rfl
  · exact c44 rfl
  · exact c45 rfl
  · exact c46 rfl
  · exact c47 rfl
  · exact c48 rfl
  · exact c49 rfl
  · exact c50 rfl
  · exact c51 rfl
  · exact c52 rfl
  · exact c53 rfl
  · exact c54 rfl
  · exact c55 rfl
theorem law_loop (hL : L ≤ 3584) (x0 : Option Nat) : ∀ (k i n : Nat) (S : SH) (μ : MU), i ≤ L → L < i + 7 * (k + 1) → R n st S μ x b → Ok (c_L_law_18 L xs (k + 1) x0 (some x) (some (x + 175)) (nI i) (mkH n st S μ)) := by
  intro k
  induction k with
  | zero => exact fun i n S μ hi h hR => law_step hL 0 (by omega) x0 hR (fun q => absurd q (by omega))
  | succ k ih => exact fun i n S μ hi h hR => law_step hL (k + 1) (by omega) x0 hR (fun q n' S' μ' hR' => ih (i + 7) n' S' μ' q (by omega) hR')
theorem g_law {h : AH} (hL : L ≤ 3584) (x0 : Option Nat) (hh : h = mkH x st S μ) (hB : BaseOK st S μ x b) : ∃ H, g_L_law L xs x0 h = some (1, H) := by
  obtain ⟨h1, S', μ', r1, h2, r2, e2, h3, r3, r4, hR, -, -⟩ := R_new hB
  obtain ⟨H, e⟩ := law_loop (xs := xs) hL x0 599 0 (x + 198) S' μ' (by omega) (by omega) hR
  refine ⟨H, ?_⟩
  subst hh
  unfold g_L_law
  have r2' : f_X11_init (mkH x st S μ).1 h1 = some h2 := r2
  have r4' : f_X12_init h2.1 h3 = some (mkH (x + 198) st S' μ') := by rw [e2]; exact r4
  rw [r1, some_bind, r2', some_bind, r3, some_bind, r4', some_bind, e2]
  exact e
end LOOP2
