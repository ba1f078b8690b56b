-- ===== the class's reader: the whole text =====
def RdD (μ : MU) (x : Nat) (H : Nat → Bool) (ys : Int32) (bg en : Nat → Nat) : Prop := μ (x + 151) 0 = 1 ∧ μ (x + 151) 1 = ys ∧ (∀ l, l < 4 → H l = true → μ (x + 153) l = nI (bg l) ∧ μ (x + 154) l = nI (en l)) ∧ ∀ l, l < 4 → H l = false → μ (x + 153) l = -1
def Done (n : Nat) (st : Nat → Nat) (S : SH) (x : Nat) (μ : MU) (r : Option (Int32 × AH)) (z : (Nat → Bool) × Int32 × List Int32 × (Nat → Nat) × (Nat → Nat)) : Prop := ∃ μ' : MU, r = some (nI (popN 16 (biN z.1 5)), mkH n st S μ') ∧ μ' (x + 149) 1 = 0 ∧ RdC μ' x z.2.2.1 ∧ z.2.2.1.length ≤ 300 ∧ RdD μ' x z.1 z.2.1 z.2.2.2.1 z.2.2.2.2 ∧ ∀ a j, ¬ (x + 149 ≤ a ∧ a ≤ x + 157) → μ' a j = μ a j
section TAPE2
variable {n : Nat} {st : Nat → Nat} {S : SH} {μ μ' : MU} {x b m l : Nat} {T : Nat → Int32} {N p : Nat}
theorem RdD.fr {H : Nat → Bool} {ys : Int32} {bg en : Nat → Nat} (h : RdD μ x H ys bg en) (hf : ∀ a j, (a = x + 151 ∧ j < 2) ∨ a = x + 153 ∨ a = x + 154 → μ' a j = μ a j) : RdD μ' x H ys bg en :=
  ⟨by rw [hf _ _ (by omega)]; exact h.1, by rw [hf _ _ (by omega)]; exact h.2.1, fun l hl q => ⟨by rw [hf _ _ (by omega)]; exact (h.2.2.1 l hl q).1, by rw [hf _ _ (by omega)]; exact (h.2.2.1 l hl q).2⟩, fun l hl q => by rw [hf _ _ (by omega)]; exact h.2.2.2 l hl q⟩
theorem told_up {H : Nat → Bool} {k : Nat} (hk : k < 5) : biN H 5 ||| 2 ^ k = biN (fun i => if i = k then true else H i) 5 := by
  refine Nat.eq_of_testBit_eq (fun i => ?_)
  rw [Nat.testBit_or, biN_test, biN_test, Nat.testBit_two_pow]
  by_cases hik : i = k
  · subst hik
    simp [hk]
  · rw [decide_eq_false (show ¬ k = i from fun q => hik q.symm), Bool.or_false]
    simp only [hik, if_false]
theorem pos_line : ∀ k, k < 21 → posI (wgN 0) 0 (some k) = if k < 5 then nI k else -1 := by decide +kernel
theorem k_tape (hX : ShX S x) : ∀ f (H : Nat → Bool) (ys : Int32) (C : List Int32) (bg en : Nat → Nat) p i fu (μ : MU), BaseOK st S μ x b → TpR μ x T N → TkA μ x T N p → RdM μ x (0, false, 0, [], C) → C.length ≤ p → i ≤ p → p ≤ N → μ (x + 149) 5 = nI (biN H 5) → RdD μ x H ys bg en → N + 1 - p ≤ f → N + 3 - p < fu → (match reaC T N f H ys C bg en p with
    | .inl e => Fail n st S x μ (b_X4_useTape_40 fu (some (x + 149)) 1 (nI i) (mkH n st S μ)) e
    | .inr z => Done n st S x μ (b_X4_useTape_40 fu (some (x + 149)) 1 (nI i) (mkH n st S μ)) z) := by
  intro f
  induction f with
  | zero => intro H ys C bg en p i fu μ _ _ _ _ _ _ hp _ _ hf; omega
  | succ f ih =>
    intro H ys C bg en p i fu μ hB hT hk hM hC hi hp h5 hRD hf hfu
    have hN := hT.2.1
    obtain ⟨fu, rfl⟩ : ∃ q, fu = q + 2 := ⟨fu - 2, by omega⟩
    have tp := tok_pos (T := T) hp
    have h3 : μ (x + 149) 3 = 0 := hM.1
    have hbl : ∀ H : Nat → Bool, biN H 5 < 2 ^ 16 := fun H => Nat.lt_of_lt_of_le (biN_lt H 5) (by decide)
    rw [reaC]
    by_cases h0 : tK T N p = 0
    · rw [if_pos h0]
      have e3 : up2 μ (x + 149) 1 0 (x + 149) 3 = 0 := by rw [up2_ne (by omega), h3]
      have e5 : up2 μ (x + 149) 1 0 (x + 149) 5 = nI (biN H 5) := by rw [up2_ne (by omega), h5]
      have i10 : ¬ (1 : Int32) = 0 := by decide
      refine ⟨up2 μ (x + 149) 1 0, ?_, up2_same, hM.2.2.2.2.1.fr (fun a j q => up2_ne (by omega)), by show C.length ≤ 300; omega, hRD.fr (fun a j q => up2_ne (by omega)), fun a j q => up2_ne (by omega)⟩
      rw [ut_end hX hT hk h0 (fu + 1)]
      simp only [b_X4_useTape_78, rdP1 hX, some_bind, i10, if_false, rdI3 hX, e3, if_true, rdI5 hX, e5, k_bitCount (hbl H)]
    rw [if_neg h0]
    have tpl := tp.2.2.2 h0
    have ka : f_X4_among (some (x + 149)) (some ((mkH n st S μ).2.2 (60 + 0))) (mkH n st S μ) = some (posI (wgN 0) 0 (wdx T N p)) := k_among (n := n) (st := st) hX hB hT (i := 0) (by omega) hp hk
    have acc : f_X4_accept (some (x + 149)) (mkH n st S μ) = (f_X4_acceptLine (some (x + 149)) (mkH n st S μ)).bind fun q => (rZ q.1).bind fun vz => some (vz, q.2) := by
      have g0 : ¬ ((0 : Int32) < 0 ∨ 5 < (0 : Int32)) := by decide
      simp only [f_X4_accept, rdI3 hX, some_bind, h3, g0, if_false, if_true, rdck hX]
    have rz0 : rZ 0 = some 0 := rfl
    have rz1 : rZ 1 = some 1 := rfl
    have rej : posI (wgN 0) 0 (wdx T N p) = -1 → Fail n st S x μ (b_X4_useTape_40 (fu + 2) (some (x + 149)) 1 (nI i) (mkH n st S μ)) (tB T N p) := by
      intro hpo
      rw [hpo] at ka
      have m1 : (-1 : Int32) < 0 := by decide
      have ha : f_X4_accept (some (x + 149)) (mkH n st S μ) = some (0, mkH n st S (up2 μ (x + 149) 4 (-1))) := by
        rw [acc]
        simp only [f_X4_acceptLine, rdck hX, ka, some_bind, rdP4 hX, rdI4 hX, up2_same, m1, if_true, rz0]
      refine ⟨up2 (up2 μ (x + 149) 4 (-1)) (x + 149) 1 0, ?_, up2_same, fun a j q => by rw [up2_ne (by omega), up2_ne (by omega)]⟩
      rw [ut_rej hX hT hk h0 (by omega) fu ha]
      exact b78_no hX (by rw [up2_ne (by omega)]; exact hk.1)
    by_cases h2 : tK T N p = 2
    case neg =>
      rw [if_pos (Or.inl h2)]
      exact rej (by rw [tok_word.2 h2, pos_none])
    obtain ⟨k, hk21, ew, ev⟩ := tok_word.1 h2
    have ecl : (tV T N p).toNatClampNeg = k := by rw [ev, nI_clamp (by omega)]
    rw [ew, pos_line k hk21] at ka rej
    by_cases hk5 : k < 5
    case neg =>
      have : (4 : Int32) < tV T N p := by rw [ev]; exact nI_lt (a := 4) (by omega) (by omega)
      rw [if_pos (Or.inr (Or.inl this))]
      exact rej (if_neg hk5)
    rw [if_pos hk5] at ka
    have h4v : ¬ (4 : Int32) < tV T N p := fun q => by
      have : nI 4 < nI k := by rw [← ev]; exact q
      simp (disch := omega) only [nn_lt] at this
      omega
    have g0 : ¬ nI k < (0 : Int32) := nI_pos (by omega)
    have tst : (nI (biN H 5) >>> (nI k &&& 31)) &&& 1 = bI (H k) := by
      rw [tstN (by have := hbl H; omega) (by omega), biN_test, decide_eq_true hk5, Bool.true_and]
    obtain ⟨μ1, hm1⟩ : ∃ z, z = up2 μ (x + 149) 4 (nI k) := ⟨_, rfl⟩
    have n5 : μ1 (x + 149) 5 = nI (biN H 5) := by rw [hm1, up2_ne (by omega), h5]
    have n4 : μ1 (x + 149) 4 = nI k := by rw [hm1, up2_same]
    by_cases hH : H k = true
    · rw [ecl, if_pos (Or.inr (Or.inr hH))]
      have i10 : ¬ bI true = 0 := by decide
      have ha : f_X4_accept (some (x + 149)) (mkH n st S μ) = some (0, mkH n st S μ1) := by
        rw [acc]
        simp only [f_X4_acceptLine, rdck hX, ka, some_bind, rdP4 hX, ← hm1, rdI4 hX, n4, g0, if_false, rdI5 hX, n5, tst, hH, i10, rz0]
      refine ⟨up2 μ1 (x + 149) 1 0, ?_, up2_same, fun a j q => by rw [up2_ne (by omega), hm1, up2_ne (by omega)]⟩
      rw [ut_rej hX hT hk h0 (by omega) fu ha]
      exact b78_no hX (by rw [hm1, up2_ne (by omega)]; exact hk.1)
    have hH' : H k = false := by cases hz : H k; rfl; exact absurd hz hH
    rw [ecl, if_neg (fun q => by rcases q with q | q | q; exact q h2; exact h4v q; exact hH q)]
    have i00 : bI false = 0 := rfl
    have s1 : (1 : Int32) <<< (nI k &&& 31) = nI (2 ^ k) := shl1 (by omega)
    obtain ⟨μ2, hm2⟩ : ∃ z, z = up2 μ1 (x + 149) 5 (nI (biN (fun i => if i = k then true else H i) 5)) := ⟨_, rfl⟩
    have n4' : μ2 (x + 149) 4 = nI k := by rw [hm2, up2_ne (by omega), n4]
    have c3 : μ (x + 151) 3 = nI C.length := hM.2.2.2.2.1.1
    by_cases hk4 : k < 4
    · rw [if_pos hk4]
      have g4 : nI k < (4 : Int32) := nI_lt (b := 4) hk4 (by omega)
      have g4' : ¬ nI k = (4 : Int32) := fun q => by
        have : nI k = nI 4 := q
        simp (disch := omega) only [nn_eq] at this
        omega
      obtain ⟨μ3, hm3⟩ : ∃ z, z = up2 (up2 μ2 (x + 149) 3 2) (x + 151 + 2) k (nI C.length) := ⟨_, rfl⟩
      have n4'' : up2 μ2 (x + 149) 3 2 (x + 149) 4 = nI k := by rw [up2_ne (by omega), n4']
      have c3' : up2 μ2 (x + 149) 3 2 (x + 151) 3 = nI C.length := by rw [up2_ne (by omega), hm2, up2_ne (by omega), hm1, up2_ne (by omega), c3]
      have ha : f_X4_accept (some (x + 149)) (mkH n st S μ) = some (1, mkH n st S μ3) := by
        rw [acc]
        simp (disch := omega) only [f_X4_acceptLine, rdck hX, ka, some_bind, rdP4 hX, ← hm1, rdI4 hX, n4, g0, if_false, rdI5 hX, n5, tst, hH', i00, if_true, s1, orN, told_up hk5, rdP5 hX, ← hm2, n4', g4', b_X4_acceptLine_62, rdP3 hX, n4'', g4, rdR2 hX, lR4 hX.draft, lI3 hX.draft, c3', lS4 hX.draft, ← hm3, rz1]
      have F3 : ∀ a j, ¬ ((a = x + 149 ∧ (j = 3 ∨ j = 4 ∨ j = 5)) ∨ (a = x + 153 ∧ j = k)) → μ3 a j = μ a j := fun a j q => by rw [hm3, up2_ne (by omega), up2_ne (by omega), hm2, up2_ne (by omega), hm1, up2_ne (by omega)]
      have hT3 : TpR μ3 x T N := hT.fr (fun a j q => F3 a j (by omega))
      obtain ⟨μ4, f1, f2, f3⟩ := k_find (n := n) (st := st) hX hT3 (p := tA T N p) tp.2.2.1 (by rw [F3 _ _ (by omega)]; exact hk.2.1)
      have go := ut_go hX hT hk h0 (i := i) (by omega) (fu + 1) ha f1
      have F4 : ∀ a j, ¬ ((a = x + 149 ∧ (j = 3 ∨ j = 4 ∨ j = 5 ∨ 8 ≤ j)) ∨ (a = x + 153 ∧ j = k)) → μ4 a j = μ a j := fun a j q => by rw [f3 a j (by omega), F3 a j (by omega)]
      have n4x : μ4 (x + 149) 4 = nI k := by rw [f3 _ _ (by omega), hm3, up2_ne (by omega), up2_ne (by omega), n4']
      have n3x : μ4 (x + 149) 3 = nI 2 := by rw [f3 _ _ (by omega), hm3, up2_ne (by omega), up2_same]; rfl
      have n5x : μ4 (x + 149) 5 = nI (biN (fun i => if i = k then true else H i) 5) := by rw [f3 _ _ (by omega), hm3, up2_ne (by omega), up2_ne (by omega), hm2, up2_same]
      have nb : μ4 (x + 153) k = nI C.length := by rw [f3 _ _ (by omega), hm3]; exact up2_same
      have hM4 : RdM μ4 x (2, false, 0, [], C) := by
        obtain ⟨m1, m2, m3, m4, m5, m6⟩ := hM
        refine ⟨n3x, (fun q => by rcases q with q | q <;> cases q), ?_, m4.fr (fun a j q => ?_), m5.fr (fun a j q => F4 a j (by omega)), m6⟩
        · rw [F4 _ _ (by omega)]; exact m3
        · rcases q with ⟨rfl, rfl⟩ | rfl
          · rw [f3 _ _ (by omega), F3 _ _ (by omega)]
          · exact F4 _ _ (by omega)
      have run := k_runC (n := n) (st := st) (b := b) (T := T) (N := N) (l := k) hX hk4 (N + 1 - tA T N p) (2, false, 0, [], C) (tA T N p) (i + 1) (fu + 1) μ4 (hB.congr (fun _ _ => rfl) (fun a j q => F4 a j (by omega))) (hT.fr (fun a j q => by
          rcases q with ⟨rfl, rfl⟩ | rfl
          · exact F4 _ _ (by omega)
          · exact F4 _ _ (by omega))) f2 n4x hM4 md2 (by show 0 ≤ 5; omega) (by show 0 + C.length ≤ _; omega) (by omega) tp.2.2.1 (Nat.le_refl _) (by omega)
      have eW : runW T N (nI k) (N + 1 - tA T N p) (2, false, 0, [], C) (tA T N p) = rW T N (nI k) (2, false, 0, [], C) (tA T N p) := rfl
      rw [eW] at run
      cases hr : rW T N (nI k) (2, false, 0, [], C) (tA T N p) with
      | inl e =>
        rw [hr] at run
        obtain ⟨μ5, w1, w2, w3⟩ := run
        exact ⟨μ5, by rw [go, w1], w2, fun a j q => by rw [w3 a j q, F4 a j (by omega)]⟩
      | inr q =>
        rw [hr] at run
        obtain ⟨μ5, i', fu', w1, w2, w3, w4, w5, w6, w7, w8, w9, w10⟩ := run
        have hB4 : BaseOK st S μ4 x b := hB.congr (fun _ _ => rfl) (fun a j q => F4 a j (by omega))
        have hT4 : TpR μ4 x T N := hT.fr (fun a j q => by
          rcases q with ⟨rfl, rfl⟩ | rfl
          · exact F4 _ _ (by omega)
          · exact F4 _ _ (by omega))
        have RD5 : RdD μ5 x (fun i => if i = k then true else H i) ys (fun i => if i = k then C.length else bg i) (fun i => if i = k then q.1.length else en i) := by
          obtain ⟨d1, d2, d3, d4⟩ := hRD
          refine ⟨by rw [w2 _ _ (by omega), F4 _ _ (by omega)]; exact d1, by rw [w2 _ _ (by omega), F4 _ _ (by omega)]; exact d2, fun l hl hh => ?_, fun l hl hh => ?_⟩
          · by_cases hlk : l = k
            · subst hlk
              show μ5 (x + 153) l = nI (if l = l then C.length else bg l) ∧ μ5 (x + 154) l = nI (if l = l then q.1.length else en l)
              rw [if_pos rfl, if_pos rfl]
              exact ⟨by rw [w2 _ _ (by omega), nb], w10⟩
            · show μ5 (x + 153) l = nI (if l = k then C.length else bg l) ∧ μ5 (x + 154) l = nI (if l = k then q.1.length else en l)
              rw [if_neg hlk, if_neg hlk]
              simp only [hlk, if_false] at hh
              exact ⟨by rw [w2 _ _ (by omega), F4 _ _ (by omega)]; exact (d3 l hl hh).1, by rw [w2 _ _ (by omega), F4 _ _ (by omega)]; exact (d3 l hl hh).2⟩
          · have hlk : ¬ l = k := fun q => by subst q; simp at hh
            simp only [hlk, if_false] at hh
            rw [w2 _ _ (by omega), F4 _ _ (by omega)]
            exact d4 l hl hh
        have ihh := ih (fun i => if i = k then true else H i) ys q.1 (fun i => if i = k then C.length else bg i) (fun i => if i = k then q.1.length else en i) q.2 i' fu' μ5 (w2.base hB4) (w2.tp hT4) w3 w4 w5 w6 w7 (by rw [w2 _ _ (by omega), n5x]) RD5 (by omega) w9
        simp only []
        cases hz : reaC T N f (fun i => if i = k then true else H i) ys q.1 (fun i => if i = k then C.length else bg i) (fun i => if i = k then q.1.length else en i) q.2 with
        | inl e =>
          rw [hz] at ihh
          obtain ⟨μ6, v1, v2, v3⟩ := ihh
          exact ⟨μ6, by rw [go, w1, v1], v2, fun a j q => by rw [v3 a j q, w2 a j (by omega), F4 a j (by omega)]⟩
        | inr z =>
          rw [hz] at ihh
          obtain ⟨μ6, v1, v2, v3, v4, v5, v6⟩ := ihh
          exact ⟨μ6, by rw [go, w1, v1], v2, v3, v4, v5, fun a j q => by rw [v6 a j q, w2 a j (by omega), F4 a j (by omega)]⟩
    · rw [if_neg hk4]
      obtain rfl : k = 4 := by omega
      have e44 : nI 4 = (4 : Int32) := rfl
      have g44 : ¬ (4 : Int32) < 4 := by decide
      obtain ⟨μ3, hm3⟩ : ∃ z, z = up2 μ2 (x + 149) 3 1 := ⟨_, rfl⟩
      have n4'' : μ3 (x + 149) 4 = 4 := by rw [hm3, up2_ne (by omega), n4']; rfl
      have ka4 : f_X4_among (some (x + 149)) (some ((mkH n st S μ).2.2 (60 + 0))) (mkH n st S μ) = some 4 := ka
      have n44 : μ1 (x + 149) 4 = 4 := n4
      have n44' : μ2 (x + 149) 4 = 4 := n4'
      have g00 : ¬ (4 : Int32) < 0 := by decide
      have tst4 : (nI (biN H 5) >>> ((4 : Int32) &&& 31)) &&& 1 = bI (H 4) := tst
      have s14 : (1 : Int32) <<< ((4 : Int32) &&& 31) = nI (2 ^ 4) := s1
      have hm14 : μ1 = up2 μ (x + 149) 4 4 := hm1
      have ha : f_X4_accept (some (x + 149)) (mkH n st S μ) = some (1, mkH n st S μ3) := by
        rw [acc]
        simp only [f_X4_acceptLine, rdck hX, ka4, some_bind, rdP4 hX, ← hm14, rdI4 hX, n44, g00, if_false, rdI5 hX, n5, tst4, hH', i00, if_true, s14, orN, told_up hk5, rdP5 hX, ← hm2, n44', b_X4_acceptLine_62, rdP3 hX, ← hm3, n4'', g44, rz1]
      have F3 : ∀ a j, ¬ (a = x + 149 ∧ (j = 3 ∨ j = 4 ∨ j = 5)) → μ3 a j = μ a j := fun a j q => by rw [hm3, up2_ne (by omega), hm2, up2_ne (by omega), hm1, up2_ne (by omega)]
      have hT3 : TpR μ3 x T N := hT.fr (fun a j q => F3 a j (by omega))
      obtain ⟨μ4, f1, f2, f3⟩ := k_find (n := n) (st := st) hX hT3 (p := tA T N p) tp.2.2.1 (by rw [F3 _ _ (by omega)]; exact hk.2.1)
      have go := ut_go hX hT hk h0 (i := i) (by omega) (fu + 1) ha f1
      obtain ⟨q, hq⟩ : ∃ q, q = tA T N p := ⟨_, rfl⟩
      rw [← hq] at f2 tp tpl ⊢
      have hT4 : TpR μ4 x T N := hT3.fr (fun a j z => f3 a j (by omega))
      have F4 : ∀ a j, ¬ (a = x + 149 ∧ 3 ≤ j) → μ4 a j = μ a j := fun a j z => by rw [f3 a j (by omega), F3 a j (by omega)]
      have n3x : μ4 (x + 149) 3 = nI 1 := by rw [f3 _ _ (by omega), hm3, up2_same]; rfl
      have n3y : μ4 (x + 149) 3 = 1 := n3x
      have tq := tok_pos (T := T) (N := N) (p := q) tp.2.2.1
      have fail : ∀ r, r = b_X4_useTape_78 (some (x + 149)) 0 (mkH n st S μ4) ∨ r = b_X4_useTape_78 (some (x + 149)) 1 (mkH n st S μ4) → b_X4_useTape_40 (fu + 1) (some (x + 149)) 1 (nI (i + 1)) (mkH n st S μ4) = r → Fail n st S x μ (b_X4_useTape_40 (fu + 2) (some (x + 149)) 1 (nI i) (mkH n st S μ)) (tB T N q) := by
        intro r hr hu
        refine ⟨up2 μ4 (x + 149) 1 0, ?_, up2_same, fun a j z => by rw [up2_ne (by omega), F4 a j (by omega)]⟩
        rw [go, hu]
        rcases hr with rfl | rfl
        · exact b78_no hX f2.1
        · exact b78_st hX f2.1 n3x (by omega) (by omega)
      by_cases q0 : tK T N q = 0
      · rw [if_pos (Or.inl (by rw [q0]; decide))]
        exact fail _ (Or.inr rfl) (ut_end hX hT4 f2 q0 fu)
      have tql := tq.2.2.2 q0
      have kn := k_number (n := n) (st := st) hX hT4 (p := q) tp.2.2.1 f2 q0
      have accY : f_X4_accept (some (x + 149)) (mkH n st S μ4) = (f_X4_acceptYears (some (x + 149)) (mkH n st S μ4)).bind fun q => (rZ q.1).bind fun vz => some (vz, q.2) := by
        have g0 : ¬ ((1 : Int32) < 0 ∨ 5 < (1 : Int32)) := by decide
        have g1 : ¬ (1 : Int32) = 0 := by decide
        simp only [f_X4_accept, rdI3 hX, some_bind, n3y, g0, g1, if_false, if_true, rdck hX]
      obtain ⟨fu, rfl⟩ : ∃ z, fu = z + 1 := ⟨fu - 1, by omega⟩
      by_cases q3 : tK T N q = 3
      case neg =>
        rw [if_neg q3] at kn
        have m1 : (-1 : Int32) < 0 := by decide
        have hy : f_X4_accept (some (x + 149)) (mkH n st S μ4) = some (0, mkH n st S μ4) := by
          rw [accY]
          simp only [f_X4_acceptYears, rdck hX, kn, some_bind, m1, if_true, rz0]
        rw [if_pos (Or.inl q3)]
        exact fail _ (Or.inl rfl) (ut_rej hX hT4 f2 q0 (by omega) fu hy)
      rw [if_pos q3] at kn
      obtain ⟨v, hv, ev3⟩ := tV_num q3
      rw [ev3] at kn
      have gv : ¬ nI v < (0 : Int32) := nI_pos (by omega)
      by_cases q50 : (50 : Int32) < tV T N q
      · rw [if_pos (Or.inr q50)]
        rw [ev3] at q50
        have hy : f_X4_accept (some (x + 149)) (mkH n st S μ4) = some (0, mkH n st S μ4) := by
          rw [accY]
          simp only [f_X4_acceptYears, rdck hX, kn, some_bind, gv, if_false, q50, if_true, rz0]
        exact fail _ (Or.inl rfl) (ut_rej hX hT4 f2 q0 (by omega) fu hy)
      rw [if_neg (fun z => by rcases z with z | z; exact z q3; exact q50 z)]
      obtain ⟨μ5, hm5⟩ : ∃ z, z = up2 (up2 μ4 (x + 151) 1 (tV T N q)) (x + 149) 3 6 := ⟨_, rfl⟩
      have hy : f_X4_accept (some (x + 149)) (mkH n st S μ4) = some (1, mkH n st S μ5) := by
        rw [accY, hm5]
        rw [ev3] at q50 ⊢
        simp only [f_X4_acceptYears, rdck hX, kn, some_bind, gv, if_false, q50, rdR2 hX, lP1 hX.draft, rdP3 hX, rz1]
      have F5 : ∀ a j, ¬ ((a = x + 149 ∧ 3 ≤ j) ∨ (a = x + 151 ∧ j = 1)) → μ5 a j = μ a j := fun a j z => by rw [hm5, up2_ne (by omega), up2_ne (by omega), F4 a j (by omega)]
      have hT5 : TpR μ5 x T N := hT4.fr (fun a j z => by rw [hm5, up2_ne (by omega), up2_ne (by omega)])
      obtain ⟨μ6, y1, y2, y3⟩ := k_find (n := n) (st := st) hX hT5 (p := tA T N q) tq.2.2.1 (by rw [hm5, up2_ne (by omega), up2_ne (by omega)]; exact f2.2.1)
      have go2 := ut_go hX hT4 f2 q0 (i := i + 1) (by omega) (fu + 1) hy y1
      obtain ⟨u, hu⟩ : ∃ u, u = tA T N q := ⟨_, rfl⟩
      rw [← hu] at y2 tq tql ⊢
      have hT6 : TpR μ6 x T N := hT5.fr (fun a j z => y3 a j (by omega))
      have n36 : μ6 (x + 149) 3 = nI 6 := by rw [y3 _ _ (by omega), hm5, up2_same]; rfl
      have n36' : μ6 (x + 149) 3 = 6 := n36
      have F6 : ∀ a j, ¬ ((a = x + 149 ∧ 3 ≤ j) ∨ (a = x + 151 ∧ j = 1)) → μ6 a j = μ a j := fun a j z => by rw [y3 a j (by omega), F5 a j z]
      have tu := tok_pos (T := T) (N := N) (p := u) tq.2.2.1
      have fail2 : ∀ r, r = b_X4_useTape_78 (some (x + 149)) 0 (mkH n st S μ6) ∨ r = b_X4_useTape_78 (some (x + 149)) 1 (mkH n st S μ6) → b_X4_useTape_40 (fu + 1) (some (x + 149)) 1 (nI (i + 1 + 1)) (mkH n st S μ6) = r → Fail n st S x μ (b_X4_useTape_40 (fu + 1 + 2) (some (x + 149)) 1 (nI i) (mkH n st S μ)) (tB T N u) := by
        intro r hr huu
        refine ⟨up2 μ6 (x + 149) 1 0, ?_, up2_same, fun a j z => by rw [up2_ne (by omega), F6 a j (by omega)]⟩
        rw [go, go2, huu]
        rcases hr with rfl | rfl
        · exact b78_no hX y2.1
        · exact b78_st hX y2.1 n36 (by omega) (by omega)
      by_cases u0 : tK T N u = 0
      · rw [if_neg (by rw [u0]; decide)]
        exact fail2 _ (Or.inr rfl) (ut_end hX hT6 y2 u0 fu)
      have tul := tu.2.2.2 u0
      have accE : f_X4_accept (some (x + 149)) (mkH n st S μ6) = (f_X4_acceptLineEnd (some (x + 149)) (mkH n st S μ6)).bind fun q => (rZ q.1).bind fun vz => some (vz, q.2) := by
        have g0 : ((6 : Int32) < 0 ∨ 5 < (6 : Int32)) := by decide
        simp only [f_X4_accept, rdI3 hX, some_bind, n36', g0, if_true, rdck hX]
      have s59 : (soS T N u = 59) = (tK T N u = 59) := so_op (v := 59) (by omega)
      by_cases u59 : tK T N u = 59
      case neg =>
        rw [if_neg u59]
        have hy6 : f_X4_accept (some (x + 149)) (mkH n st S μ6) = some (0, mkH n st S μ6) := by
          rw [accE]
          simp only [f_X4_acceptLineEnd, rdI8 hX, some_bind, y2.2.2, s59, u59, if_false, rz0]
        obtain ⟨fu, rfl⟩ : ∃ z, fu = z + 1 := ⟨fu - 1, by omega⟩
        exact fail2 _ (Or.inl rfl) (ut_rej hX hT6 y2 u0 (by omega) fu hy6)
      rw [if_pos u59]
      have n46 : μ6 (x + 149) 4 = 4 := by rw [y3 _ _ (by omega), hm5, up2_ne (by omega), up2_ne (by omega), f3 _ _ (by omega), n4'']
      have n56 : μ6 (x + 149) 5 = nI (biN (fun i => if i = 4 then true else H i) 5) := by rw [y3 _ _ (by omega), hm5, up2_ne (by omega), up2_ne (by omega), f3 _ _ (by omega), hm3, up2_ne (by omega), hm2, up2_same]
      have keepF : ∀ j, j = 6 ∨ j = 7 ∨ j = 12 → μ6 (x + 149) j = μ (x + 149) j := fun j hj => by rw [y3 _ _ (by omega), hm5, up2_ne (by omega), up2_ne (by omega), f3 _ _ (by omega), F3 _ _ (by omega)]
      have w12 : μ6 (x + 149) 12 = 0 := by rw [keepF 12 (by omega)]; exact hM.2.2.2.1.1
      have g12 : ¬ (0 : Int32) < 0 := by decide
      obtain ⟨fz, hfz⟩ : ∃ z, FU = z + 1 := ⟨3999, rfl⟩
      have set4 : f_X4_settle (some (x + 149)) 4 (mkH n st S μ6) = some (mkH n st S μ6) := by
        rw [f_X4_settle, hfz]
        simp only [b_X4_settle_0, rdI12 hX, some_bind, w12, g12, if_false]
      obtain ⟨μ7, hm7⟩ : ∃ z, z = up2 μ6 (x + 149) 3 0 := ⟨_, rfl⟩
      have hy6 : f_X4_accept (some (x + 149)) (mkH n st S μ6) = some (1, mkH n st S μ7) := by
        rw [accE]
        simp only [f_X4_acceptLineEnd, rdI8 hX, some_bind, y2.2.2, s59, u59, if_true, rdck hX, set4, rdI4 hX, n46, g44, if_false, b_X4_acceptLineEnd_43, rdP3 hX, ← hm7, rz1]
      have hT7 : TpR μ7 x T N := hT6.fr (fun a j z => by rw [hm7, up2_ne (by omega)])
      obtain ⟨μ8, x1, x2, x3⟩ := k_find (n := n) (st := st) hX hT7 (p := tA T N u) tu.2.2.1 (by rw [hm7, up2_ne (by omega)]; exact y2.2.1)
      have go3 := ut_go hX hT6 y2 u0 (i := i + 1 + 1) (by omega) fu hy6 x1
      have F8 : ∀ a j, ¬ ((a = x + 149 ∧ 3 ≤ j) ∨ (a = x + 151 ∧ j = 1)) → μ8 a j = μ a j := fun a j z => by rw [x3 a j (by omega), hm7, up2_ne (by omega), F6 a j z]
      have k8 : ∀ j, j = 6 ∨ j = 7 ∨ j = 12 → μ8 (x + 149) j = μ (x + 149) j := fun j hj => by rw [x3 _ _ (by omega), hm7, up2_ne (by omega), keepF j hj]
      have hM8 : RdM μ8 x (0, false, 0, [], C) := by
        obtain ⟨m1, m2, m3, m4, m5, m6⟩ := hM
        refine ⟨by rw [x3 _ _ (by omega), hm7, up2_same]; rfl, (fun z => by rcases z with z | z <;> cases z), by rw [k8 6 (by omega)]; exact m3, m4.fr (fun a j z => ?_), m5.fr (fun a j z => F8 a j (by omega)), m6⟩
        rcases z with ⟨rfl, rfl⟩ | rfl
        · exact k8 12 (by omega)
        · exact F8 _ _ (by omega)
      have RD8 : RdD μ8 x (fun i => if i = 4 then true else H i) (tV T N q) bg en := by
        obtain ⟨d1, d2, d3, d4⟩ := hRD
        refine ⟨by rw [F8 _ _ (by omega)]; exact d1, by rw [x3 _ _ (by omega), hm7, up2_ne (by omega), y3 _ _ (by omega), hm5, up2_ne (by omega), up2_same], fun l hl hh => ?_, fun l hl hh => ?_⟩
        · simp only [show ¬ l = 4 by omega, if_false] at hh
          exact ⟨by rw [F8 _ _ (by omega)]; exact (d3 l hl hh).1, by rw [F8 _ _ (by omega)]; exact (d3 l hl hh).2⟩
        · simp only [show ¬ l = 4 by omega, if_false] at hh
          rw [F8 _ _ (by omega)]
          exact d4 l hl hh
      have ihh := ih (fun i => if i = 4 then true else H i) (tV T N q) C bg en (tA T N u) (i + 1 + 1 + 1) fu μ8 (hB.congr (fun _ _ => rfl) (fun a j z => F8 a j (by omega))) (hT7.fr (fun a j z => x3 a j (by omega))) x2 hM8 (by omega) (by omega) tu.2.2.1 (by rw [x3 _ _ (by omega), hm7, up2_ne (by omega), n56]) RD8 (by omega) (by omega)
      cases hz : reaC T N f (fun i => if i = 4 then true else H i) (tV T N q) C bg en (tA T N u) with
      | inl e =>
        rw [hz] at ihh
        obtain ⟨μ9, v1, v2, v3⟩ := ihh
        exact ⟨μ9, by rw [go, go2, go3, v1], v2, fun a j z => by rw [v3 a j z, F8 a j (by omega)]⟩
      | inr z =>
        rw [hz] at ihh
        obtain ⟨μ9, v1, v2, v3, v4, v5, v6⟩ := ihh
        exact ⟨μ9, by rw [go, go2, go3, v1], v2, v3, v4, v5, fun a j z => by rw [v6 a j z, F8 a j (by omega)]⟩
end TAPE2
