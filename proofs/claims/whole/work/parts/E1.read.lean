-- ===== what the class has read is what the reference reads =====
def RelF (F : Nat → Int32) (z : Nat → Option Int32) (H : Nat → Bool) (ys : Int32) (C : List Int32) (bg en : Nat → Nat) : Prop := (∀ i, i < 5 → (z i).isSome = H i) ∧ ys = (z 4).getD 10 ∧ ∀ i, i < 4 → H i = true → bg i ≤ en i ∧ en i ≤ C.length ∧ z i = some (bI (runC F ((List.range' (bg i) (en i - bg i)).map fun j => C.getD j 0)))
def b5N (a b c d e : Bool) : Nat := ((((0 + if a then 2 ^ 0 else 0) + if b then 2 ^ 1 else 0) + if c then 2 ^ 2 else 0) + if d then 2 ^ 3 else 0) + if e then 2 ^ 4 else 0
section READP
variable {T : Nat → Int32} {N : Nat} {F : Nat → Int32}
theorem b5_eq (G : Nat → Bool) : biN G 5 = b5N (G 0) (G 1) (G 2) (G 3) (G 4) := rfl
theorem pop_up {H : Nat → Bool} {k : Nat} (hk : k < 5) (hH : H k = false) : popN 16 (biN (fun i => if i = k then true else H i) 5) = popN 16 (biN H 5) + 1 := by
  rw [b5_eq, b5_eq]
  rcases (by omega : k = 0 ∨ k = 1 ∨ k = 2 ∨ k = 3 ∨ k = 4) with rfl | rfl | rfl | rfl | rfl
  · rw [hH]
    have key : ∀ b c d e : Bool, popN 16 (b5N true b c d e) = popN 16 (b5N false b c d e) + 1 := by decide +kernel
    exact key _ _ _ _
  · rw [hH]
    have key : ∀ b c d e : Bool, popN 16 (b5N b true c d e) = popN 16 (b5N b false c d e) + 1 := by decide +kernel
    exact key _ _ _ _
  · rw [hH]
    have key : ∀ b c d e : Bool, popN 16 (b5N b c true d e) = popN 16 (b5N b c false d e) + 1 := by decide +kernel
    exact key _ _ _ _
  · rw [hH]
    have key : ∀ b c d e : Bool, popN 16 (b5N b c d true e) = popN 16 (b5N b c d false e) + 1 := by decide +kernel
    exact key _ _ _ _
  · rw [hH]
    have key : ∀ b c d e : Bool, popN 16 (b5N b c d e true) = popN 16 (b5N b c d e false) + 1 := by decide +kernel
    exact key _ _ _ _
theorem slice_new (C c : List Int32) : (List.range' C.length ((C ++ c).length - C.length)).map (fun j => (C ++ c).getD j 0) = c := by
  apply List.ext_getElem
  · simp
  · intro i h1 h2
    simp only [List.getElem_map, List.getElem_range', Nat.one_mul]
    rw [List.getD_eq_getElem?_getD, List.getElem?_append_right (by omega), Nat.add_sub_cancel_left, List.getElem?_eq_getElem h2]
    rfl
theorem slice_old {C c : List Int32} {b e : Nat} (he : e ≤ C.length) : (List.range' b (e - b)).map (fun j => (C ++ c).getD j 0) = (List.range' b (e - b)).map (fun j => C.getD j 0) := by
  refine List.map_congr_left (fun j hj => ?_)
  rw [List.mem_range'_1] at hj
  rw [List.getD_eq_getElem?_getD, List.getD_eq_getElem?_getD, List.getElem?_append_left (by omega)]
theorem reaC_L (hN : N ≤ 300) : ∀ f (H : Nat → Bool) (ys : Int32) (C : List Int32) (bg en : Nat → Nat) p (z : Nat → Option Int32), p ≤ N → RelF F z H ys C bg en → (match reaC T N f H ys C bg en p with
    | .inl e => reaL T N F f (popN 16 (biN H 5)) z p = .inl e
    | .inr w => ∃ z', reaL T N F f (popN 16 (biN H 5)) z p = .inr (popN 16 (biN w.1 5), z') ∧ RelF F z' w.1 w.2.1 w.2.2.1 w.2.2.2.1 w.2.2.2.2) := by
  intro f
  induction f with
  | zero => intro H ys C bg en p z hp hR; exact ⟨z, rfl, hR⟩
  | succ f ih =>
    intro H ys C bg en p z hp hR
    have tp := tok_pos (T := T) hp
    rw [reaC, reaL]
    by_cases h0 : tK T N p = 0
    · rw [if_pos h0, if_pos h0]
      exact ⟨z, rfl, hR⟩
    rw [if_neg h0, if_neg h0]
    have tpl := tp.2.2.2 h0
    by_cases h2 : tK T N p = 2
    case neg => rw [if_pos (Or.inl h2), if_pos (Or.inl h2)]
    obtain ⟨k, hk21, ew, ev⟩ := tok_word.1 h2
    have ecl : (tV T N p).toNatClampNeg = k := by rw [ev, nI_clamp (by omega)]
    by_cases h4 : (4 : Int32) < tV T N p
    · rw [if_pos (Or.inr (Or.inl h4)), if_pos (Or.inr (Or.inl h4))]
    have hk5 : k < 5 := by
      rcases Nat.lt_or_ge k 5 with h | h
      · exact h
      · exact absurd (by rw [ev]; exact nI_lt (a := 4) (by omega) (by omega)) h4
    rw [ecl]
    by_cases hH : H k = true
    · rw [if_pos (Or.inr (Or.inr hH)), if_pos (Or.inr (Or.inr (by rw [hR.1 k hk5]; exact hH)))]
    have hH' : H k = false := by cases hz : H k; rfl; exact absurd hz hH
    have n1 : ¬ (tK T N p ≠ 2 ∨ 4 < tV T N p ∨ H k = true) := fun q => by
      rcases q with q | q | q
      · exact q h2
      · exact h4 q
      · exact hH q
    have n2 : ¬ (tK T N p ≠ 2 ∨ 4 < tV T N p ∨ (z k).isSome = true) := fun q => by
      rcases q with q | q | q
      · exact q h2
      · exact h4 q
      · rw [hR.1 k hk5] at q
        exact hH q
    rw [if_neg n1, if_neg n2]
    obtain ⟨R1, R2, R3⟩ := hR
    by_cases hk4 : k < 4
    · rw [if_pos hk4]
      have lm := linM (T := T) (N := N) (F := F) hk4 hN C (p := tA T N p) tp.2.2.1
      cases hl : linS T N F k (tA T N p) with
      | inl e =>
        rw [hl] at lm
        have lm : rW T N (nI k) (2, false, 0, [], C) (tA T N p) = .inl e := lm
        rw [lm]
      | inr q =>
        rw [hl] at lm
        obtain ⟨c, bb, l1, l2, l3, l4, l5⟩ := lm
        rw [l1]
        simp only []
        have hrel : RelF F (fun i => if i = k then some q.1 else z i) (fun i => if i = k then true else H i) ys (C ++ c) (fun i => if i = k then C.length else bg i) (fun i => if i = k then (C ++ c).length else en i) := by
          refine ⟨fun i hi => ?_, ?_, fun i hi hh => ?_⟩
          · by_cases hik : i = k
            · simp only [hik, if_true]; rfl
            · simp only [hik, if_false]; exact R1 i hi
          · simp only [show ¬ 4 = k by omega, if_false]
            exact R2
          · by_cases hik : i = k
            · subst hik
              simp only [if_true]
              refine ⟨by rw [List.length_append]; omega, Nat.le_refl _, ?_⟩
              rw [slice_new, runC_push l3, l2]
            · simp only [hik, if_false] at hh ⊢
              obtain ⟨r1, r2, r3⟩ := R3 i hi hh
              refine ⟨r1, by rw [List.length_append]; omega, ?_⟩
              rw [slice_old r2]
              exact r3
        have := ih _ _ _ _ _ q.2 _ l4 hrel
        rw [pop_up hk5 hH'] at this
        exact this
    · rw [if_neg hk4]
      obtain rfl : k = 4 := by omega
      have tq := tok_pos (T := T) (N := N) (p := tA T N p) tp.2.2.1
      have eL : linS T N F 4 (tA T N p) = if tK T N (tA T N p) ≠ 3 ∨ 50 < tV T N (tA T N p) then .inl (tB T N (tA T N p)) else if tK T N (tA T N (tA T N p)) = 59 then .inr (tV T N (tA T N p), tA T N (tA T N (tA T N p))) else .inl (tB T N (tA T N (tA T N p))) := by
        rw [linS, if_neg (by omega)]
        by_cases hc : tK T N (tA T N p) ≠ 3 ∨ 50 < tV T N (tA T N p)
        · rw [if_pos hc, if_pos hc]
        · rw [if_neg hc, if_neg hc]
      rw [eL]
      by_cases hc : tK T N (tA T N p) ≠ 3 ∨ 50 < tV T N (tA T N p)
      · rw [if_pos hc, if_pos hc]
      rw [if_neg hc, if_neg hc]
      by_cases h59 : tK T N (tA T N (tA T N p)) = 59
      · rw [if_pos h59, if_pos h59]
        simp only []
        have hrel : RelF F (fun i => if i = 4 then some (tV T N (tA T N p)) else z i) (fun i => if i = 4 then true else H i) (tV T N (tA T N p)) C bg en := by
          refine ⟨fun i hi => ?_, by simp only [if_true]; rfl, fun i hi hh => ?_⟩
          · by_cases hik : i = 4
            · simp only [hik, if_true]; rfl
            · simp only [hik, if_false]; exact R1 i hi
          · simp only [show ¬ i = 4 by omega, if_false] at hh ⊢
            exact R3 i hi hh
        have tu := tok_pos (T := T) (N := N) (p := tA T N (tA T N p)) tq.2.2.1
        have := ih _ _ _ _ _ (tA T N (tA T N (tA T N p))) _ tu.2.2.1 hrel
        rw [pop_up hk5 hH'] at this
        exact this
      · rw [if_neg h59, if_neg h59]
end READP
section USETAPE
variable {n : Nat} {st : Nat → Nat} {S : SH} {μ μ' : MU} {x b m l : Nat} {T : Nat → Int32} {N : Nat}
theorem k_empty (hL : ShL S l) : ∀ k j fu (μ : MU), j + k = 4 → k < fu → ∃ μ' : MU, b_X3_beginEmpty_18 fu (some l) (nI j) (mkH n st S μ) = some (mkH n st S μ') ∧ (∀ i, j ≤ i → i < 4 → μ' (l + 2) i = -1) ∧ (∀ a i, ¬ ((a = l + 2 ∨ a = l + 3) ∧ j ≤ i) → μ' a i = μ a i) := by
  intro k
  induction k with
  | zero =>
    intro j fu μ hj hf
    obtain ⟨fu, rfl⟩ : ∃ q, fu = q + 1 := ⟨fu - 1, by omega⟩
    obtain rfl : j = 4 := by omega
    have g : ¬ nI 4 < (4 : Int32) := by decide
    exact ⟨μ, by simp only [b_X3_beginEmpty_18, g, if_false], fun i h1 h2 => absurd h2 (by omega), fun _ _ _ => rfl⟩
  | succ k ih =>
    intro j fu μ hj hf
    obtain ⟨fu, rfl⟩ : ∃ q, fu = q + 1 := ⟨fu - 1, by omega⟩
    have g : nI j < (4 : Int32) := nI_lt (b := 4) (by omega) (by omega)
    have e1 : nI j + 1 = nI (j + 1) := nI_add j 1
    obtain ⟨μ', w1, w2, w3⟩ := ih (j + 1) fu (up2 (up2 μ (l + 2) j (-1)) (l + 3) j 0) (by omega) (by omega)
    refine ⟨μ', ?_, fun i h1 h2 => ?_, fun a i q => by rw [w3 a i (by omega), up2_ne (by omega), up2_ne (by omega)]⟩
    · rw [← w1]
      simp (disch := omega) only [b_X3_beginEmpty_18, g, if_true, lR4 hL, some_bind, lS4 hL, lR5 hL, lS5 hL, e1]
    · by_cases hij : i = j
      · subst hij
        rw [w3 _ _ (by omega), up2_ne (by omega), up2_same]
      · exact w2 i (by omega) h2
theorem k_useTape (hX : ShX S x) (hB : BaseOK st S μ x b) (hT : TpR μ x T N) : (match reaC T N 400 (fun _ => false) 10 [] (fun _ => 0) (fun _ => 0) 0 with
    | .inl e => Fail n st S x μ (f_X4_useTape (some (x + 149)) (mkH n st S μ)) e
    | .inr z => Done n st S x μ (f_X4_useTape (some (x + 149)) (mkH n st S μ)) z) := by
  have hL := hX.draft
  have hN := hT.2.1
  have fuL : FU = 4000 := rfl
  obtain ⟨μ1, w1, w2, w3⟩ := k_empty (n := n) (st := st) hL 4 0 FU ((up2 (up2 (up2 μ (x + 151) (0) (1)) (x + 151) (1) (10)) (x + 151) (3) (0))) (by omega) (by omega)
  obtain ⟨μ2, h2⟩ : ∃ z, z = (up2 (up2 (up2 (up2 (up2 μ1 (x + 149) (3) (0)) (x + 149) (5) (0)) (x + 149) (6) (0)) (x + 149) (12) (0)) (x + 149) (10) (0)) := ⟨_, rfl⟩
  have F2 : ∀ a j, ¬ ((a = x + 149 ∧ 3 ≤ j) ∨ a = x + 151 ∨ a = x + 153 ∨ a = x + 154) → μ2 a j = μ a j := fun a j q => by
    rw [h2]
    simp (disch := omega) only [up2_ne]
    rw [w3 a j (by omega)]
    simp (disch := omega) only [up2_ne]
  have hT2 : TpR μ2 x T N := hT.fr (fun a j q => F2 a j (by omega))
  obtain ⟨μ3, f1, f2, f3⟩ := k_find (n := n) (st := st) hX hT2 (p := 0) (by omega) (by rw [h2, up2_same]; rfl)
  have w1' : b_X3_beginEmpty_18 FU (some (x + 151)) 0 (mkH n st S ((up2 (up2 (up2 μ (x + 151) (0) (1)) (x + 151) (1) (10)) (x + 151) (3) (0)))) = some (mkH n st S μ1) := w1
  have start : f_X4_useTape (some (x + 149)) (mkH n st S μ) = b_X4_useTape_40 FU (some (x + 149)) 1 (nI 0) (mkH n st S μ3) := by
    simp only [f_X4_useTape, rdR2 hX, some_bind, lck hL, f_X3_beginEmpty, lZ1 hL, lP1 hL, lP3 hL, w1', rdP3 hX, rdP5 hX, rdP6 hX, rdP12 hX, rdP10 hX, ← h2, rdck hX, f1]
    rfl
  have d0 : ∀ j, μ3 (x + 151) j = (up2 (up2 (up2 μ (x + 151) (0) (1)) (x + 151) (1) (10)) (x + 151) (3) (0)) (x + 151) j := fun j => by
    rw [f3 _ _ (by omega), h2]
    simp (disch := omega) only [up2_ne]
    rw [w3 _ _ (by omega)]
  have hM : RdM μ3 x (0, false, 0, [], []) := by
    refine ⟨by rw [f3 _ _ (by omega), h2]; simp (disch := omega) only [up2_ne, up2_same]; rfl, (fun z => by rcases z with z | z <;> cases z), by rw [f3 _ _ (by omega), h2]; simp (disch := omega) only [up2_ne, up2_same]; rfl, ⟨by rw [f3 _ _ (by omega), h2]; simp (disch := omega) only [up2_ne, up2_same]; rfl, fun k w hk => by simp at hk⟩, ⟨by rw [d0, up2_same]; rfl, fun k w hk => by simp at hk⟩, ⟨rfl, fun w hw => by cases hw⟩⟩
  have hRD : RdD μ3 x (fun _ => false) 10 (fun _ => 0) (fun _ => 0) := by
    refine ⟨by rw [d0]; simp (disch := omega) only [up2_ne, up2_same], by rw [d0]; simp (disch := omega) only [up2_ne, up2_same], (fun l hl hh => by cases hh), fun l hl _ => ?_⟩
    rw [f3 _ _ (by omega), h2]
    simp (disch := omega) only [up2_ne]
    exact w2 l (by omega) hl
  have kt := k_tape (n := n) (st := st) (b := b) (T := T) (N := N) hX 400 (fun _ => false) 10 [] (fun _ => 0) (fun _ => 0) 0 0 FU μ3 (hB.congr (fun _ _ => rfl) (fun a j q => by rw [f3 a j (by omega), F2 a j (by omega)])) (hT2.fr (fun a j q => f3 a j (by omega))) f2 hM (Nat.zero_le _) (Nat.le_refl _) (by omega) (by rw [f3 _ _ (by omega), h2]; simp (disch := omega) only [up2_ne, up2_same]; rfl) hRD (by omega) (by omega)
  rw [start]
  have F3 : ∀ a j, ¬ (x + 149 ≤ a ∧ a ≤ x + 157) → μ3 a j = μ a j := fun a j q => by rw [f3 a j (by omega), F2 a j (by omega)]
  cases hz : reaC T N 400 (fun _ => false) 10 [] (fun _ => 0) (fun _ => 0) 0 with
  | inl e =>
    rw [hz] at kt
    obtain ⟨μ4, v1, v2, v3⟩ := kt
    exact ⟨μ4, v1, v2, fun a j q => by rw [v3 a j q, F3 a j q]⟩
  | inr z =>
    rw [hz] at kt
    obtain ⟨μ4, v1, v2, v3, v4, v5, v6⟩ := kt
    exact ⟨μ4, v1, v2, v3, v4, v5, fun a j q => by rw [v6 a j q, F3 a j q]⟩
theorem draft_ok (hN : N ≤ 300) {z : (Nat → Bool) × Int32 × List Int32 × (Nat → Nat) × (Nat → Nat)} (hz : reaC T N 400 (fun _ => false) 10 [] (fun _ => 0) (fun _ => 0) 0 = .inr z) (hc : RdC μ x z.2.2.1) (hl : z.2.2.1.length ≤ 300) (hd : RdD μ x z.1 z.2.1 z.2.2.2.1 z.2.2.2.2) : LawOK μ (x + 151) T N := by
  obtain ⟨d1, d2, d3, d4⟩ := hd
  refine ⟨z.2.2.1.length, by omega, hc.1, z.1, fun F => ?_, fun i hi hh => d4 i hi hh⟩
  have rl := reaC_L (T := T) (N := N) (F := F) hN 400 (fun _ => false) 10 [] (fun _ => 0) (fun _ => 0) 0 (fun _ => none) (by omega) ⟨fun i _ => rfl, rfl, fun i _ h => by cases h⟩
  rw [hz] at rl
  obtain ⟨z', r1, r2, r3, r4⟩ := rl
  refine ⟨popN 16 (biN z.1 5), z', r1, r2, by rw [d2]; exact r3, fun i hi hh => ?_⟩
  obtain ⟨q1, q2, q3⟩ := r4 i hi hh
  refine ⟨z.2.2.2.1 i, z.2.2.2.2 i, (d3 i hi hh).1, (d3 i hi hh).2, q1, q2, ?_⟩
  rw [q3]
  have : ((List.range' (z.2.2.2.1 i) (z.2.2.2.2 i - z.2.2.2.1 i)).map fun j => z.2.2.1.getD j 0) = ((List.range' (z.2.2.2.1 i) (z.2.2.2.2 i - z.2.2.2.1 i)).map fun j => μ (x + 151 + 1) j) := by
    refine List.map_congr_left (fun j hj => ?_)
    rw [List.mem_range'_1] at hj
    have hjl : j < z.2.2.1.length := by omega
    rw [List.getD_eq_getElem?_getD, List.getElem?_eq_getElem hjl]
    exact (hc.2 j _ (List.getElem?_eq_getElem hjl)).symm
  rw [this]
end USETAPE
