-- ===== what the reference's small questions answer =====
def bI (b : Bool) : Int32 := if b then 1 else 0
def inS (v lo hi : Int32) : Bool := decide (¬ v < lo ∧ ¬ hi < v)
theorem bI_eq0 (b : Bool) : (bI b = 0) = (b = false) := by cases b <;> simp [bI]
theorem rZ_bI (b : Bool) : rZ (bI b) = some (bI b) := by cases b <;> rfl
theorem some_bind {α β : Type} (x : α) (f : α → Option β) : (some x).bind f = f x := rfl
theorem ite_bI0 {α : Type} (b : Bool) (x y : α) : (if bI b = 0 then x else y) = if b then y else x := by cases b <;> simp [bI]
theorem s_in (a b c : Int32) (h : AH) : f_X12_in a b c h = some (bI (inS a b c)) := by
  unfold f_X12_in inS bI
  by_cases h1 : a < b
  · simp [h1]
  · by_cases h2 : c < a
    · simp [h1, h2]
    · simp [h1, h2]
theorem s_isDay (k : Int32) (h : AH) : f_X12_isDay k h = some (bI (inS k 0 9999)) := by
  simp [f_X12_isDay, s_in, rZ_bI]
theorem s_isClub (k : Int32) (h : AH) : f_X12_isClub k h = some (bI (inS k 0 5)) := by
  simp [f_X12_isClub, s_in, rZ_bI]
/-- an index in a count -/
theorem inS_idx {a c : Int32} {N : Nat} (hc : c = nI N) (hN : N < 2 ^ 30) (h : inS a 0 (c - 1) = true) : ∃ i, i < N ∧ a = nI i := by
  simp only [inS, decide_eq_true_eq] at h
  obtain ⟨h1, h2⟩ := h
  obtain ⟨j, hj, rfl⟩ := nI_of h1
  refine ⟨j, ?_, rfl⟩
  subst hc
  by_cases hN0 : N = 0
  · subst hN0
    exfalso
    apply h2
    have : nI 0 - 1 = (-1 : Int32) := by decide
    rw [this]
    have h0 : (0 : Int32) ≤ nI j := nI_pos' (by omega)
    rw [Int32.lt_iff_toInt_lt]
    have := Int32.le_iff_toInt_le.mp h0
    simp at this ⊢
    omega
  · obtain ⟨k, rfl⟩ : ∃ k, N = k + 1 := ⟨N - 1, by omega⟩
    rw [nI_pred] at h2
    have := mt (nI_ltI (a := k) (b := j) (by omega) (by omega)).mpr h2
    omega
theorem inS_of {i N : Nat} {c : Int32} (hc : c = nI N) (hN : N < 2 ^ 30) (h : i < N) : inS (nI i) 0 (c - 1) = true := by
  subst hc
  obtain ⟨k, rfl⟩ : ∃ k, N = k + 1 := ⟨N - 1, by omega⟩
  rw [nI_pred]
  simp only [inS, decide_eq_true_eq]
  exact ⟨nI_pos (by omega), nI_nlt (by omega) (by omega)⟩
-- ===== loops =====
/-- a loop that counts up by one: a step each time, an end at N -/
theorem loop_up {σ ρ : Type} (b : Nat → Int32 → σ → Option ρ) (N : Nat) (step : Nat → σ → σ) (I : Nat → σ → Prop) (ex : σ → Option ρ)
    (h1 : ∀ k j s, j < N → I j s → b (k + 1) (nI j) s = b k (nI (j + 1)) (step j s) ∧ I (j + 1) (step j s)) (h2 : ∀ k s, I N s → b (k + 1) (nI N) s = ex s) :
    ∀ (k j : Nat) (s : σ) (fu : Nat), j + k = N → I j s → k < fu → ∃ s', I N s' ∧ s' = (List.range' j k).foldl (fun s i => step i s) s ∧ b fu (nI j) s = ex s' := by
  intro k
  induction k with
  | zero =>
    intro j s fu hj hI hf
    obtain ⟨fu', rfl⟩ : ∃ q, fu = q + 1 := ⟨fu - 1, by omega⟩
    have : j = N := by omega
    subst this
    exact ⟨s, hI, rfl, h2 fu' s hI⟩
  | succ k ih =>
    intro j s fu hj hI hf
    obtain ⟨fu', rfl⟩ : ∃ q, fu = q + 1 := ⟨fu - 1, by omega⟩
    obtain ⟨e, hI'⟩ := h1 fu' j s (by omega) hI
    obtain ⟨s', a1, a2, a3⟩ := ih (j + 1) (step j s) fu' (by omega) hI' (by omega)
    refine ⟨s', a1, ?_, by rw [e]; exact a3⟩
    rw [a2, List.range'_succ, List.foldl_cons]
/-- a loop that looks for the first place -/
theorem loop_find {ρ : Type} (b : Nat → Int32 → Option ρ) (N : Nat) (P : Nat → Bool) (yes : Nat → Option ρ) (no : Option ρ)
    (h1 : ∀ k j, j < N → b (k + 1) (nI j) = if P j then yes j else b k (nI (j + 1))) (h2 : ∀ k, b (k + 1) (nI N) = no) :
    ∀ (k j fu : Nat), j + k = N → k < fu → b fu (nI j) = match (List.range' j k).find? P with | some i => yes i | none => no := by
  intro k
  induction k with
  | zero =>
    intro j fu hj hf
    obtain ⟨fu', rfl⟩ : ∃ q, fu = q + 1 := ⟨fu - 1, by omega⟩
    have : j = N := by omega
    subst this
    exact h2 fu'
  | succ k ih =>
    intro j fu hj hf
    obtain ⟨fu', rfl⟩ : ∃ q, fu = q + 1 := ⟨fu - 1, by omega⟩
    rw [h1 fu' j (by omega), List.range'_succ, List.find?_cons]
    by_cases hp : P j = true
    · simp [hp]
    · have hp : P j = false := by simpa using hp
      simp only [hp, Bool.false_eq_true, if_false]
      exact ih (j + 1) fu' (by omega) (by omega)
section REF1
variable {n : Nat} {st : Nat → Nat} {S : SH} {μ : MU} {m : Nat}
theorem s_isMan (hS : ShM S m) (a : Int32) : f_X12_isMan (some m) a (mkH n st S μ) = some (bI (inS a 0 (μ (m + 1) 2 - 1))) := by
  have := rdA (n := n) (st := st) (μ := μ) hS (q := 2) (by omega)
  simp only [f_X12_isMan, rd0 hS, some_bind]
  rw [show (2 : Int32) = nI 2 from rfl, this, some_bind, s_in, some_bind, rZ_bI]
/-- did he hear the word by that day -/
def hadS (d : Nat → Int32) (i v : Nat) (day : Int32) : Bool := decide (¬ d (491 + 8 * i + v) < 0 ∧ ¬ day < d (491 + 8 * i + v))
theorem s_had (hS : ShM S m) {i v : Nat} (hi : i < 16) (hv : v < 8) (day : Int32) : f_X12_had (some m) (nI i) (nI v) day (mkH n st S μ) = some (bI (hadS (μ (m + 1)) i v day)) := by
  have e : ((491 : Int32) + 8 * nI i) + nI v = nI (491 + 8 * i + v) := by
    rw [show (491 : Int32) = nI 491 from rfl, show (8 : Int32) = nI 8 from rfl, pk_mul, nI_add, nI_add]
  simp only [f_X12_had, rd0 hS, some_bind, e, rdA (n := n) (st := st) (μ := μ) hS (q := 491 + 8 * i + v) (by omega)]
  unfold hadS bI
  by_cases h1 : μ (m + 1) (491 + 8 * i + v) < 0
  · simp [h1]
  · by_cases h2 : day < μ (m + 1) (491 + 8 * i + v)
    · simp [h1, h2]
    · simp [h1, h2]
end REF1
