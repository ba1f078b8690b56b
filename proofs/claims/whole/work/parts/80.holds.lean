-- ===== the class runs a line's code =====
/-- a stack in a row, the last on top -/
def StkR (μ : MU) (a : Nat) : List Int32 → Prop
  | [] => True
  | v :: r => μ a r.length = v ∧ StkR μ a r
theorem StkR.up {μ : MU} {a j : Nat} {v : Int32} : ∀ {st : List Int32}, StkR μ a st → st.length ≤ j → StkR (up2 μ a j v) a st := by
  intro st
  induction st with
  | nil => intro _ _; trivial
  | cons w r ih =>
    intro h hj
    have hj' : r.length + 1 ≤ j := hj
    exact ⟨by rw [up2_ne (by omega)]; exact h.1, ih h.2 (by omega)⟩
theorem and_lo (w : Int32) : ∃ k, k < 65536 ∧ w &&& 65535 = nI k := by
  refine ⟨(w &&& 65535).toBitVec.toNat, ?_, ?_⟩
  · have : (w &&& 65535).toBitVec = w.toBitVec &&& 65535#32 := rfl
    rw [this, BitVec.toNat_and]
    have h2 : (65535#32).toNat = 65535 := by decide
    rw [h2]
    have := Nat.and_le_right (n := w.toBitVec.toNat) (m := 65535)
    omega
  · apply Int32.toBitVec_inj.mp
    rw [nI_bv]
    apply BitVec.eq_of_toNat_eq
    rw [BitVec.toNat_ofNat]
    exact (Nat.mod_eq_of_lt (BitVec.isLt _)).symm
theorem chn {α : Type} (g : Int32 → Option α) (op z y : Int32) : (if op < 8 ∨ 21 < op then g (z ||| y) else if op = 8 then g (z &&& y) else if op = 9 then g (z ||| y) else if op = 10 then g (z ||| y) else if op = 11 then g (z ||| y) else if op = 12 then g (z ||| y) else if op = 13 then g (z ||| y) else if op = 14 then g (z ||| y) else if op = 15 then g (z ||| y) else if op = 16 then (if z < y then g 1 else g 0) else if op = 17 then (if z = y then g 1 else g 0) else if op = 18 then (if y < z then g 1 else g 0) else if op = 19 then g (z ||| y) else if op = 20 then g (z + y) else if op = 21 then g (z - y) else none) = g (binC op z y) := by
  by_cases o20 : op = 20
  · subst o20; rfl
  · by_cases o21 : op = 21
    · subst o21; rfl
    · by_cases o16 : op = 16
      · subst o16
        show (if z < y then g 1 else g 0) = g (if z < y then 1 else 0)
        split <;> rfl
      · by_cases o17 : op = 17
        · subst o17
          show (if z = y then g 1 else g 0) = g (if z = y then 1 else 0)
          split <;> rfl
        · by_cases o18 : op = 18
          · subst o18
            show (if y < z then g 1 else g 0) = g (if y < z then 1 else 0)
            split <;> rfl
          · by_cases o8 : op = 8
            · subst o8; rfl
            · have hb : binC op z y = z ||| y := by
                unfold binC
                rw [if_neg o20, if_neg o21, if_neg o16, if_neg o17, if_neg o18, if_neg o8]
              rw [hb]
              by_cases hr : op < 8 ∨ 21 < op
              · rw [if_pos hr]
              · obtain ⟨k, k1, k2, rfl⟩ := inS_lo (a := 8) (c := 21) (w := op) (by omega) (by omega) (by
                  unfold inS
                  rw [decide_eq_true_eq]
                  exact ⟨fun h => hr (Or.inl h), fun h => hr (Or.inr h)⟩)
                rcases (by omega : k = 8 ∨ k = 9 ∨ k = 10 ∨ k = 11 ∨ k = 12 ∨ k = 13 ∨ k = 14 ∨ k = 15 ∨ k = 16 ∨ k = 17 ∨ k = 18 ∨ k = 19 ∨ k = 20 ∨ k = 21) with rfl | rfl | rfl | rfl | rfl | rfl | rfl | rfl | rfl | rfl | rfl | rfl | rfl | rfl
                · exact absurd rfl o8
                · rfl
                · rfl
                · rfl
                · rfl
                · rfl
                · rfl
                · rfl
                · exact absurd rfl o16
                · exact absurd rfl o17
                · exact absurd rfl o18
                · rfl
                · exact absurd rfl o20
                · exact absurd rfl o21
def steD (F : Nat → Int32) (st : List Int32) (op v : Int32) : List Int32 :=
  if op = 24 ∨ op = 25 then (if 40 ≤ st.length ∨ (op = 25 ∧ ¬ v < 7) then st else (if op = 25 then F v.toNatClampNeg else v) :: st)
  else if op = 12 ∨ op = 26 then match st with
    | [] => st
    | a :: r => (if (a = 0) ↔ (op = 12) then 1 else 0) :: r
  else match st with
    | y :: x :: r => binC op x y :: r
    | _ => st
theorem steC_D (F : Nat → Int32) (st : List Int32) (w : Int32) : steC F st w = steD F st (w >>> 16) (w &&& 65535) := rfl
section HOLDS
variable {n : Nat} {st : Nat → Nat} {S : SH} {μ : MU} {L : Nat}
theorem k_332 (hL : ShL S L) {k : Nat} (hk : k + 2 ≤ 40) (v : Int32) : b_X3_step_332 (some L) (nI (k + 2)) v (mkH n st S μ) = some (nI (k + 1), mkH n st S (up2 μ (L + 5) k v)) := by
  have e2 : nI (k + 2) - 2 = nI k := by
    have := pk_sub (a := k + 2) (b := 2) (by omega)
    rw [show k + 2 - 2 = k from by omega] at this
    exact this
  have e1 : nI (k + 2) - 1 = nI (k + 1) := nI_m1 (k + 1)
  simp (disch := omega) only [b_X3_step_332, lR7 hL, some_bind, e2, lS7 hL, e1]
theorem k_step (hL : ShL S L) (w : Int32) {sk : List Int32} (hs : StkR μ (L + 5) sk) (hl : sk.length ≤ 40) : ∃ μ', f_X3_step (some L) (w >>> (16 &&& 31)) (w &&& 65535) (nI sk.length) (mkH n st S μ) = some (nI (steC (μ (L + 4)) sk w).length, mkH n st S μ') ∧ StkR μ' (L + 5) (steC (μ (L + 4)) sk w) ∧ (steC (μ (L + 4)) sk w).length ≤ 40 ∧ ∀ a j, ¬ a = L + 5 → μ' a j = μ a j := by
  rw [show (16 : Int32) &&& 31 = 16 from by decide]
  obtain ⟨v, hv, ev⟩ := and_lo w
  obtain ⟨op, hop⟩ : ∃ op, op = w >>> 16 := ⟨_, rfl⟩
  rw [ev, ← hop]
  have hste : steC (μ (L + 4)) sk w = steD (μ (L + 4)) sk op (nI v) := by rw [steC_D, ev, ← hop]
  rw [hste]
  clear hste
  unfold steD
  by_cases hp : op = 24 ∨ op = 25
  · rw [if_pos hp]
    have hx : f_X3_step (some L) op (nI v) (nI sk.length) (mkH n st S μ) = b_X3_step_12 (some L) op (nI v) (nI sk.length) (mkH n st S μ) := by
      rcases hp with h | h
      · simp only [f_X3_step, h, if_true]
      · have n1 : ¬ (25 : Int32) = 24 := by decide
        simp only [f_X3_step, h, n1, if_false, if_true]
    rw [hx]
    by_cases h40 : 40 ≤ sk.length
    · rw [if_pos (Or.inl h40)]
      refine ⟨μ, ?_, hs, hl, fun _ _ _ => rfl⟩
      simp (disch := omega) only [b_X3_step_12, lR7 hL, some_bind, lL7 hL, nn_lt, natF, if_false]
    · by_cases h25 : op = 25
      · by_cases hv7 : v < 7
        · have n7 : nI v < (7 : Int32) := nI_lt (b := 7) hv7 (by omega)
          have n7' : nI v < nI 7 := n7
          rw [if_neg (by
            intro h
            rcases h with h | h
            · exact h40 h
            · exact h.2 n7), if_pos h25, nI_clamp (by omega)]
          refine ⟨up2 μ (L + 5) sk.length (μ (L + 4) v), ?_, ⟨up2_same, hs.up (Nat.le_refl _)⟩, by simp only [List.length_cons]; omega, fun a j h => up2_ne (by omega)⟩
          simp (disch := omega) only [b_X3_step_12, b_X3_step_38, b_X3_step_59, lR7 hL, some_bind, lL7 hL, nn_lt, natT, if_true, h25, lR6 hL, lL6 hL, lA6 hL, lS7 hL, nI_1, List.length_cons]
        · have n7 : ¬ nI v < (7 : Int32) := by rw [lit_lt (by omega) (by decide)]; exact hv7
          rw [if_pos (Or.inr ⟨h25, n7⟩)]
          refine ⟨μ, ?_, hs, hl, fun _ _ _ => rfl⟩
          simp (disch := omega) only [b_X3_step_12, lR7 hL, some_bind, lL7 hL, nn_lt, natT, if_true, h25, lR6 hL, lL6 hL, natF, if_false]
      · rw [if_neg (by
          intro h
          rcases h with h | h
          · exact h40 h
          · exact h25 h.1), if_neg h25]
        refine ⟨up2 μ (L + 5) sk.length (nI v), ?_, ⟨up2_same, hs.up (Nat.le_refl _)⟩, by simp only [List.length_cons]; omega, fun a j h => up2_ne (by omega)⟩
        simp (disch := omega) only [b_X3_step_12, b_X3_step_38, b_X3_step_59, lR7 hL, some_bind, lL7 hL, nn_lt, natT, if_true, h25, if_false, lS7 hL, nI_1, List.length_cons]
  · rw [if_neg hp]
    have h24 : ¬ op = 24 := fun h => hp (Or.inl h)
    have h25 : ¬ op = 25 := fun h => hp (Or.inr h)
    by_cases h1 : op = 12 ∨ op = 26
    · rw [if_pos h1]
      have hx : f_X3_step (some L) op (nI v) (nI sk.length) (mkH n st S μ) = b_X3_step_94 (some L) op (nI sk.length) 1 (nI sk.length) 1 (mkH n st S μ) := by
        have n10 : ¬ (1 : Int32) = 0 := by decide
        rcases h1 with h | h
        · have a1 : ¬ (12 : Int32) = 24 := by decide
          have a2 : ¬ (12 : Int32) = 25 := by decide
          simp only [f_X3_step, b_X3_step_81, h, a1, a2, if_false, if_true, n10]
        · have a1 : ¬ (26 : Int32) = 24 := by decide
          have a2 : ¬ (26 : Int32) = 25 := by decide
          have a3 : ¬ (26 : Int32) = 12 := by decide
          simp only [f_X3_step, b_X3_step_81, h, a1, a2, a3, if_false, if_true, n10]
      rw [hx]
      cases sk with
      | nil =>
        refine ⟨μ, ?_, hs, hl, fun _ _ _ => rfl⟩
        have : nI ([] : List Int32).length < (1 : Int32) := by decide
        simp only [b_X3_step_94, this, if_true]
      | cons a r =>
        have hs' : μ (L + 5) r.length = a ∧ StkR μ (L + 5) r := hs
        have hl' : r.length + 1 ≤ 40 := hl
        have e1 : nI (r.length + 1) - 1 = nI r.length := nI_m1 _
        have ln : ¬ nI (r.length + 1) < (1 : Int32) := by
          rw [lit_lt (by omega) (by decide)]
          show ¬ r.length + 1 < 1
          omega
        have n10 : ¬ (1 : Int32) = 0 := by decide
        have h150 : ∀ q : Int32, b_X3_step_150 (nI (r.length + 1)) (some (L + 5)) (nI r.length) q (mkH n st S μ) = some (nI (r.length + 1), mkH n st S (up2 μ (L + 5) r.length q)) := by
          intro q
          simp (disch := omega) only [b_X3_step_150, lS7 hL, some_bind]
        refine ⟨up2 μ (L + 5) r.length (if (a = 0) ↔ (op = 12) then 1 else 0), ?_, ⟨up2_same, hs'.2.up (Nat.le_refl _)⟩, hl, fun i j h => up2_ne (by omega)⟩
        show b_X3_step_94 (some L) op (nI (r.length + 1)) 1 (nI (r.length + 1)) 1 (mkH n st S μ) = some (nI (r.length + 1), _)
        have l7 := lA7 (n := n) (st := st) (μ := μ) hL (q := r.length) (by omega)
        rw [hs'.1] at l7
        simp only [b_X3_step_94, ln, if_false, n10, lR7 hL, some_bind, e1, l7]
        by_cases ha : a = 0
        · by_cases h12 : op = 12
          · have a3 : ¬ (12 : Int32) = 26 := by decide
            simp only [ha, if_true, b_X3_step_120, lR7 hL, some_bind, h12, a3, if_false, b_X3_step_142, e1, h150, true_iff]
          · have h26 : op = 26 := by
              rcases h1 with h | h
              · exact absurd h h12
              · exact h
            have a3 : ¬ (26 : Int32) = 12 := by decide
            have a4 : ¬ (0 : Int32) = 1 := by decide
            simp only [ha, if_true, b_X3_step_120, lR7 hL, some_bind, h26, b_X3_step_142, e1, a4, if_false, h150, true_iff, a3]
        · by_cases h12 : op = 12
          · have a3 : ¬ (12 : Int32) = 26 := by decide
            simp only [ha, if_false, b_X3_step_120, lR7 hL, some_bind, h12, a3, b_X3_step_142, e1, n10, h150, false_iff, not_true_eq_false]
          · have h26 : op = 26 := by
              rcases h1 with h | h
              · exact absurd h h12
              · exact h
            have a3 : ¬ (26 : Int32) = 12 := by decide
            simp only [ha, if_false, b_X3_step_120, lR7 hL, some_bind, h26, if_true, b_X3_step_142, e1, h150, false_iff, a3, not_false_eq_true]
    · rw [if_neg h1]
      have h12 : ¬ op = 12 := fun h => h1 (Or.inl h)
      have h26 : ¬ op = 26 := fun h => h1 (Or.inr h)
      have hx : f_X3_step (some L) op (nI v) (nI sk.length) (mkH n st S μ) = b_X3_step_94 (some L) op (nI sk.length) 0 (nI sk.length) 2 (mkH n st S μ) := by
        simp only [f_X3_step, b_X3_step_81, h24, h25, h12, h26, if_false, if_true]
      rw [hx]
      match sk, hs, hl with
      | [], hs, hl =>
        refine ⟨μ, ?_, hs, hl, fun _ _ _ => rfl⟩
        have : nI ([] : List Int32).length < (2 : Int32) := by decide
        simp only [b_X3_step_94, this, if_true]
      | [y], hs, hl =>
        refine ⟨μ, ?_, hs, hl, fun _ _ _ => rfl⟩
        have : nI [y].length < (2 : Int32) := by show nI 1 < (2 : Int32); decide
        simp only [b_X3_step_94, this, if_true]
      | y :: z :: r, hs, hl =>
        have hs' : μ (L + 5) (r.length + 1) = y ∧ μ (L + 5) r.length = z ∧ StkR μ (L + 5) r := hs
        have hl' : r.length + 2 ≤ 40 := hl
        have e1 : nI (r.length + 2) - 1 = nI (r.length + 1) := nI_m1 (r.length + 1)
        have e2 : nI (r.length + 2) - 2 = nI r.length := by
          have := pk_sub (a := r.length + 2) (b := 2) (by omega)
          rw [show r.length + 2 - 2 = r.length from by omega] at this
          exact this
        have ln : ¬ nI (r.length + 2) < (2 : Int32) := by
          rw [lit_lt (by omega) (by decide)]
          show ¬ r.length + 2 < 2
          omega
        refine ⟨up2 μ (L + 5) r.length (binC op z y), ?_, ⟨up2_same, hs'.2.2.up (Nat.le_refl _)⟩, by simp only [List.length_cons] at hl ⊢; omega, fun i j h => up2_ne (by omega)⟩
        show b_X3_step_94 (some L) op (nI (r.length + 2)) 0 (nI (r.length + 2)) 2 (mkH n st S μ) = some (nI (r.length + 1), _)
        have l7 := lA7 (n := n) (st := st) (μ := μ) hL (q := r.length) (by omega)
        have l7' := lA7 (n := n) (st := st) (μ := μ) hL (q := r.length + 1) (by omega)
        rw [hs'.2.1] at l7
        rw [hs'.1] at l7'
        have k3 := fun q => k_332 (n := n) (st := st) (μ := μ) hL (k := r.length) hl' q
        simp only [b_X3_step_94, ln, if_false, if_true, lR7 hL, some_bind, e1, e2, l7, l7', k3]
        exact chn (fun q => some (nI (r.length + 1), mkH n st S (up2 μ (L + 5) r.length q))) op z y
end HOLDS
