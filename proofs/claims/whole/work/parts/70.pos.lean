-- ===== where tokens stand =====
section POS
variable {T : Nat → Int32} {N : Nat}
theorem byS_end {k : Nat} (h : N ≤ k) : byS T N k = -1 := by rw [byS, if_pos h]
theorem byS_lt {k : Nat} (h : ¬ byS T N k = -1) : k < N := by
  rcases Nat.lt_or_ge k N with h1 | h1
  · exact h1
  · exact absurd (byS_end h1) h
theorem skS_pos : ∀ f p, p ≤ N → p ≤ skS T N f p ∧ skS T N f p ≤ N := by
  intro f
  induction f with
  | zero => intro p h; exact ⟨Nat.le_refl _, h⟩
  | succ f ih =>
    intro p h
    rw [skS]
    by_cases h1 : byS T N p = 32
    · rw [if_pos h1]
      have := byS_lt (T := T) (N := N) (k := p) (by rw [h1]; decide)
      have := ih (p + 1) (by omega)
      omega
    · rw [if_neg h1]; omega
theorem dig_m1 : digB (-1) = false := by decide
theorem let_m1 : letB (-1) = false := by decide
theorem diS_pos : ∀ f p, p ≤ N → p ≤ diS T N f p ∧ diS T N f p ≤ N := by
  intro f
  induction f with
  | zero => intro p h; exact ⟨Nat.le_refl _, h⟩
  | succ f ih =>
    intro p h
    rw [diS]
    by_cases h1 : digB (byS T N p) = true
    · rw [if_pos h1]
      have := byS_lt (T := T) (N := N) (k := p) (by intro h2; rw [h2, dig_m1] at h1; cases h1)
      have := ih (p + 1) (by omega)
      omega
    · rw [if_neg h1]; omega
theorem leS_pos : ∀ f p, p ≤ N → p ≤ leS T N f p ∧ leS T N f p ≤ N := by
  intro f
  induction f with
  | zero => intro p h; exact ⟨Nat.le_refl _, h⟩
  | succ f ih =>
    intro p h
    rw [leS]
    by_cases h1 : letB (byS T N p) = true
    · rw [if_pos h1]
      have := byS_lt (T := T) (N := N) (k := p) (by intro h2; rw [h2, let_m1] at h1; cases h1)
      have := ih (p + 1) (by omega)
      omega
    · rw [if_neg h1]; omega
theorem diS_in {p : Nat} (h : p ≤ N) (hd : digB (byS T N p) = true) : p < diS T N 400 p := by
  rw [show (400 : Nat) = 399 + 1 from rfl, diS, if_pos hd]
  have := byS_lt (T := T) (N := N) (k := p) (by intro h2; rw [h2, dig_m1] at hd; cases hd)
  have := (diS_pos (T := T) (N := N) 399 (p + 1) (by omega)).1
  omega
theorem leS_in {p : Nat} (h : p ≤ N) (hd : letB (byS T N p) = true) : p < leS T N 400 p := by
  rw [show (400 : Nat) = 399 + 1 from rfl, leS, if_pos hd]
  have := byS_lt (T := T) (N := N) (k := p) (by intro h2; rw [h2, let_m1] at hd; cases hd)
  have := (leS_pos (T := T) (N := N) 399 (p + 1) (by omega)).1
  omega
/-- the token behind p, case by case -/
theorem nxS_cases (T : Nat → Int32) (N p : Nat) : (byS T N (skS T N 400 p) < 0 ∧ tB T N p = skS T N 400 p ∧ tA T N p = skS T N 400 p ∧ tK T N p = 0) ∨ (¬ byS T N (skS T N 400 p) < 0 ∧ digB (byS T N (skS T N 400 p)) = true ∧ tB T N p = skS T N 400 p ∧ tA T N p = diS T N 400 (skS T N 400 p) ∧ tK T N p = (if diS T N 400 (skS T N 400 p) - skS T N 400 p > 4 then 1 else 3) ∧ tV T N p = nuS T N (skS T N 400 p) 400 (skS T N 400 p) 0) ∨ (¬ byS T N (skS T N 400 p) < 0 ∧ digB (byS T N (skS T N 400 p)) = false ∧ letB (byS T N (skS T N 400 p)) = true ∧ tB T N p = skS T N 400 p ∧ tA T N p = leS T N 400 (skS T N 400 p) ∧ ((∃ k, wiS T N (skS T N 400 p) (leS T N 400 (skS T N 400 p)) 0 WL = some k ∧ tK T N p = 2 ∧ tV T N p = nI k) ∨ (wiS T N (skS T N 400 p) (leS T N 400 (skS T N 400 p)) 0 WL = none ∧ tK T N p = 1))) ∨ (¬ byS T N (skS T N 400 p) < 0 ∧ digB (byS T N (skS T N 400 p)) = false ∧ letB (byS T N (skS T N 400 p)) = false ∧ tB T N p = skS T N 400 p ∧ tA T N p = skS T N 400 p + 1 ∧ tK T N p = (if opB (byS T N (skS T N 400 p)) then byS T N (skS T N 400 p) else 1)) := by
  obtain ⟨b, hb⟩ : ∃ b, b = skS T N 400 p := ⟨_, rfl⟩
  simp only [tB, tA, tK, tV, nxS, ← hb]
  by_cases h1 : byS T N b < 0
  · left
    simp only [h1, if_true]
    exact ⟨trivial, trivial, trivial, trivial⟩
  · right
    simp only [h1, if_false]
    by_cases h2 : digB (byS T N b) = true
    · left
      simp only [h2, if_true]
      exact ⟨not_false, trivial, trivial, trivial, trivial, trivial⟩
    · right
      have h2' : digB (byS T N b) = false := by simpa using h2
      simp only [h2', Bool.false_eq_true, if_false]
      by_cases h3 : letB (byS T N b) = true
      · left
        simp only [h3, if_true]
        cases h4 : wiS T N b (leS T N 400 b) 0 WL with
        | none => exact ⟨not_false, trivial, trivial, rfl, rfl, Or.inr ⟨rfl, rfl⟩⟩
        | some k => exact ⟨not_false, trivial, trivial, rfl, rfl, Or.inl ⟨k, rfl, rfl, rfl⟩⟩
      · right
        have h3' : letB (byS T N b) = false := by simpa using h3
        simp only [h3', Bool.false_eq_true, if_false]
        exact ⟨not_false, trivial, trivial, trivial, trivial, trivial⟩
theorem opB_ne0 {c : Int32} (h : opB c = true) : ¬ c = 0 := by
  intro h0
  rw [h0] at h
  exact absurd h (by decide)
theorem tok_pos {p : Nat} (h : p ≤ N) : p ≤ tB T N p ∧ tB T N p ≤ tA T N p ∧ tA T N p ≤ N ∧ (¬ tK T N p = 0 → p < tA T N p) := by
  have hs := skS_pos (T := T) (N := N) 400 p h
  obtain ⟨b, hb⟩ : ∃ b, b = skS T N 400 p := ⟨_, rfl⟩
  have hc := nxS_cases T N p
  rw [← hb] at hs hc
  rcases hc with ⟨h1, h2, h3, h4⟩ | ⟨h1, h1', h2, h3, h4, -⟩ | ⟨h1, -, h1', h2, h3, h4⟩ | ⟨h1, -, -, h2, h3, h4⟩
  · rw [h2, h3]
    exact ⟨hs.1, Nat.le_refl _, hs.2, fun h => absurd h4 h⟩
  · have := diS_pos (T := T) (N := N) 400 b hs.2
    have := diS_in (T := T) hs.2 h1'
    rw [h2, h3]
    exact ⟨hs.1, by omega, by omega, fun _ => by omega⟩
  · have := leS_pos (T := T) (N := N) 400 b hs.2
    have := leS_in (T := T) hs.2 h1'
    rw [h2, h3]
    exact ⟨hs.1, by omega, by omega, fun _ => by omega⟩
  · have hb' := byS_lt (T := T) (N := N) (k := b) (by intro h2; rw [h2] at h1; exact h1 (by decide))
    rw [h2, h3]
    exact ⟨hs.1, by omega, by omega, fun _ => by omega⟩
end POS
-- ===== code that pushes a number =====
def wrd (op v : Nat) : Int32 := nI (op * 65536 + v)
def opw (op : Nat) : Int32 := wrd op 0
def PushD (F : Nat → Int32) (cs : List Int32) (v : Int32) (d : Nat) : Prop := ∀ st : List Int32, st.length + d ≤ 40 → cs.foldl (steC F) st = v :: st
section PUSH
variable {F : Nat → Int32}
theorem shr16 {a : Nat} (h : a < 2 ^ 31) : nI a >>> 16 = nI (a / 65536) := by
  have := shrN (a := a) (k := 16) h (by omega)
  rw [show nI 16 &&& 31 = (16 : Int32) from by decide] at this
  rw [this, Nat.shiftRight_eq_div_pow]
theorem and16 {a : Nat} (h : a < 2 ^ 31) : nI a &&& 65535 = nI (a % 65536) := by
  have := andN a 65535
  rw [show nI 65535 = (65535 : Int32) from rfl] at this
  rw [this]
  congr 1
  exact Nat.and_two_pow_sub_one_eq_mod a 16
theorem wrd_op {op v : Nat} (ho : op < 32) (hv : v < 65536) : wrd op v >>> 16 = nI op ∧ wrd op v &&& 65535 = nI v := by
  unfold wrd
  refine ⟨?_, ?_⟩
  · rw [shr16 (by omega), show (op * 65536 + v) / 65536 = op from by omega]
  · rw [and16 (by omega), show (op * 65536 + v) % 65536 = v from by omega]
theorem PushD.mono {cs : List Int32} {v : Int32} {d d' : Nat} (h : PushD F cs v d) (hd : d ≤ d') : PushD F cs v d' := fun st hs => h st (by omega)
theorem ste_num {v : Nat} (hv : v < 65536) (st : List Int32) (hs : st.length + 1 ≤ 40) : steC F st (wrd 24 v) = nI v :: st := by
  obtain ⟨h1, h2⟩ := wrd_op (op := 24) (v := v) (by omega) hv
  unfold steC
  rw [h1, h2]
  simp only []
  rw [if_pos (show nI 24 = (24 : Int32) ∨ nI 24 = (25 : Int32) from Or.inl rfl), if_neg (by
    intro h
    rcases h with h | h
    · omega
    · exact absurd h.1 (by decide)), if_neg (by decide)]
theorem ste_fac {v : Nat} (hv : v < 7) (st : List Int32) (hs : st.length + 1 ≤ 40) : steC F st (wrd 25 v) = F v :: st := by
  obtain ⟨h1, h2⟩ := wrd_op (op := 25) (v := v) (by omega) (by omega)
  unfold steC
  rw [h1, h2]
  simp only []
  rw [if_pos (show nI 25 = (24 : Int32) ∨ nI 25 = (25 : Int32) from Or.inr rfl), if_neg (by
    intro h
    rcases h with h | h
    · omega
    · exact h.2 (nI_lt (b := 7) (by omega) (by omega))), if_pos (by decide), nI_clamp (by omega)]
theorem push_num {v : Nat} (hv : v < 65536) : PushD F [wrd 24 v] (nI v) 1 := fun st hs => ste_num hv st hs
theorem push_fac {v : Nat} (hv : v < 7) : PushD F [wrd 25 v] (F v) 1 := fun st hs => ste_fac hv st hs
theorem push_not {cs : List Int32} {b : Bool} {d : Nat} (h : PushD F cs (bI b) d) : PushD F (cs ++ [opw 12]) (bI (!b)) d := by
  intro st hs
  rw [List.foldl_append, h st hs]
  show steC F (bI b :: st) (opw 12) = _
  cases b <;> rfl
theorem push_tru {cs : List Int32} {v : Int32} {d : Nat} (h : PushD F cs v d) : PushD F (cs ++ [opw 26]) (bI (decide (v ≠ 0))) d := by
  intro st hs
  rw [List.foldl_append, h st hs]
  show steC F (v :: st) (opw 26) = _
  obtain ⟨h1, h2⟩ := wrd_op (op := 26) (v := 0) (by omega) (by omega)
  unfold steC opw
  rw [h1, h2]
  simp only []
  rw [if_neg (by decide), if_pos (show nI 26 = (12 : Int32) ∨ nI 26 = (26 : Int32) from Or.inr rfl)]
  by_cases hv : v = 0
  · rw [if_neg (by
      intro h
      exact absurd (h.mp hv) (by decide))]
    simp [hv, bI]
  · rw [if_pos ⟨fun h => absurd h hv, fun h => absurd h (by decide)⟩]
    simp [hv, bI]
theorem push_bin {c1 c2 : List Int32} {x y : Int32} {d1 d2 d op : Nat} (h1 : PushD F c1 x d1) (h2 : PushD F c2 y d2) (hd1 : d1 ≤ d) (hd2 : d2 + 1 ≤ d) (ho : op < 24) (h12 : op ≠ 12) : PushD F (c1 ++ c2 ++ [opw op]) (binC (nI op) x y) d := by
  intro st hs
  rw [List.foldl_append, List.foldl_append, h1 st (by omega), h2 (x :: st) (by rw [List.length_cons]; omega)]
  show steC F (y :: x :: st) (opw op) = _
  obtain ⟨w1, w2⟩ := wrd_op (op := op) (v := 0) (by omega) (by omega)
  unfold steC opw
  rw [w1, w2]
  simp only []
  have n24 : ¬ nI op = (24 : Int32) := fun h => by have := (nI_eq (a := op) (b := 24) (by omega) (by omega)).mp h; omega
  have n25 : ¬ nI op = (25 : Int32) := fun h => by have := (nI_eq (a := op) (b := 25) (by omega) (by omega)).mp h; omega
  have n12 : ¬ nI op = (12 : Int32) := fun h => by have := (nI_eq (a := op) (b := 12) (by omega) (by omega)).mp h; omega
  have n26 : ¬ nI op = (26 : Int32) := fun h => by have := (nI_eq (a := op) (b := 26) (by omega) (by omega)).mp h; omega
  rw [if_neg (by
    intro h
    rcases h with h | h
    · exact n24 h
    · exact n25 h), if_neg (by
    intro h
    rcases h with h | h
    · exact n12 h
    · exact n26 h)]
theorem bin_and (a b : Bool) : binC (nI 8) (bI a) (bI b) = bI (a && b) := by cases a <;> cases b <;> decide
theorem bin_or (a b : Bool) : binC (nI 4) (bI a) (bI b) = bI (a || b) := by cases a <;> cases b <;> decide
end PUSH
