-- ===== days go by =====
def nbB (D : DR) (th : Bool) (o i : Nat) : Bool := decide (D (75 + o) = D (75 + i)) || (th && (decide (¬ D (91 + i) < 0) && decide (D (91 + o) = D (91 + i))))
def heB (D : DR) (th : Bool) (v i : Nat) : Bool := anyS (fun o => nbB D th o i && decide (¬ D (491 + 8 * o + v) < 0)) (nD D 2) 0
def thB (D : DR) : Bool := decide (iRem (D 0) 3 = 0)
def nwB (D : DR) (th : Bool) (v i : Nat) : Bool := decide (D (491 + 8 * i + v) < 0) && heB D th v i
/-- words before v, and of v the men before i, are through with the day -/
def parD (D : DR) (v i : Nat) : DR := fun q => if 491 ≤ q ∧ q < 619 ∧ (q - 491) / 8 < nD D 2 ∧ ((q - 491) % 8 < v ∨ ((q - 491) % 8 = v ∧ (q - 491) / 8 < i)) ∧ nwB D (thB D) ((q - 491) % 8) ((q - 491) / 8) = true then D 0 + 1 else D q
def pasD (D : DR) : DR := fun q => if q = 0 then D 0 + 1 else parD D (nD D 3) 0 q
def setR (μ : MU) (a : Nat) (f : DR) : MU := fun b i => if b = a then f i else μ b i
theorem setR_same {μ : MU} {a i : Nat} {f : DR} : setR μ a f a i = f i := by simp [setR]
theorem setR_row {μ : MU} {a : Nat} {f : DR} : setR μ a f a = f := by funext i; simp [setR]
theorem setR_ne {μ : MU} {a b i : Nat} {f : DR} (h : b ≠ a) : setR μ a f b i = μ b i := by simp [setR, h]
theorem setR_id {μ : MU} {a : Nat} : setR μ a (μ a) = μ := by
  funext b i
  by_cases h : b = a
  · subst h; simp [setR]
  · simp [setR, h]
theorem up2_setR {μ : MU} {a q : Nat} {f : DR} {v : Int32} : up2 (setR μ a f) a q v = setR μ a (fun i => if i = q then v else f i) := by
  funext b i
  by_cases h : b = a
  · subst h
    by_cases hi : i = q
    · simp [setR, up2, hi]
    · simp [setR, up2, hi]
  · simp [setR, up2, h]
section DAYS
variable {n : Nat} {st : Nat → Nat} {S : SH} {μ : MU} {x b m c : Nat} {D : DR}
theorem pos_uniq {i v i' v' : Nat} (hv : v < 8) (hv' : v' < 8) : 491 + 8 * i + v = 491 + 8 * i' + v' ↔ i = i' ∧ v = v' := by omega
theorem parD_at {i v i' v' : Nat} (hi : i < nD D 2) (h16 : nD D 2 ≤ 16) (hv : v < 8) : parD D v' i' (491 + 8 * i + v) = if (v < v' ∨ (v = v' ∧ i < i')) ∧ nwB D (thB D) v i = true then D 0 + 1 else D (491 + 8 * i + v) := by
  have e1 : (491 + 8 * i + v - 491) / 8 = i := by omega
  have e2 : (491 + 8 * i + v - 491) % 8 = v := by omega
  unfold parD
  rw [e1, e2]
  by_cases h : (v < v' ∨ (v = v' ∧ i < i')) ∧ nwB D (thB D) v i = true
  · rw [if_pos h, if_pos ⟨by omega, by omega, hi, h.1, h.2⟩]
  · rw [if_neg h, if_neg (fun q => h ⟨q.2.2.2.1, q.2.2.2.2⟩)]
theorem parD_out {v i q : Nat} (h : q < 491 ∨ 619 ≤ q) : parD D v i q = D q := by
  unfold parD
  rw [if_neg (by omega)]
theorem parD_00 : parD D 0 0 = D := by
  funext q
  unfold parD
  rw [if_neg (by omega)]
theorem parD_next {v : Nat} (hv : v < 8) (h16 : nD D 2 ≤ 16) : parD D v (nD D 2) = parD D (v + 1) 0 := by
  funext q
  unfold parD
  congr 1
  apply propext
  constructor
  · intro ⟨h1, h2, h3, h4, h5⟩; exact ⟨h1, h2, h3, by omega, h5⟩
  · intro ⟨h1, h2, h3, h4, h5⟩; exact ⟨h1, h2, h3, by omega, h5⟩
theorem today_lt (hI : Inv D) : D 0 < D 0 + 1 := by
  obtain ⟨e0, b0⟩ := hI.today
  rw [e0, nI_1]
  exact nI_lt (by omega) (by omega)
/-- whom had heard it by today, seen in the row half way -/
theorem had_par (hI : Inv D) {o v v' i' : Nat} (ho : o < nD D 2) (hv : v < nD D 3) : hadS (parD D v' i') o v (D 0) = decide (¬ D (491 + 8 * o + v) < 0) := by
  obtain ⟨e0, b0⟩ := hI.today
  obtain ⟨e1, b1⟩ := hI.wards
  obtain ⟨e2, b2⟩ := hI.men
  obtain ⟨e3, b3⟩ := hI.words
  obtain ⟨e4, b4⟩ := hI.bars
  obtain ⟨e5, b5⟩ := hI.shes
  obtain ⟨e6, b6⟩ := hI.wets
  obtain ⟨e8, b8⟩ := hI.heaped
  unfold hadS
  rw [parD_at ho b2 (by omega)]
  by_cases h : (v < v' ∨ (v = v' ∧ o < i')) ∧ nwB D (thB D) v o = true
  · rw [if_pos h]
    have h1 : D (491 + 8 * o + v) < 0 := by
      have := h.2
      simp only [nwB, Bool.and_eq_true, decide_eq_true_eq] at this
      exact this.1
    have h2 := today_lt hI
    simp [h1, h2]
  · rw [if_neg h]
    rcases hI.heard o v ho hv with e | ⟨k, hk, e⟩
    · simp [e]
    · rw [e]
      have : ¬ D 0 < nI k := by rw [e0]; exact nI_nlt (by omega) (by omega)
      simp [this]
theorem r_pass115 (hS : ShM S m) (k9 : Option Nat → Int32 → Int32 → AH → Option AH) (k21 : Option Nat → Int32 → Int32 → Int32 → AH → Option AH) (k37 : Option Nat → Int32 → Int32 → Int32 → Int32 → Int32 → AH → Option AH) (day v i j : Int32) (hb p hd : Bool) {μ1 : MU} (hh : f_X12_had (some m) j v day (mkH n st S μ1) = some (bI hd)) :
    b_X12_passes_115 k9 k21 k37 (some m) day v i (bI hb) j (bI p) (mkH n st S μ1) = k37 (some m) day v i (bI (hb || (p && hd))) (j + 1) (mkH n st S μ1) := by
  have o0 : bI hb ||| 0 = bI hb := by cases hb <;> rfl
  have o1 : bI hb ||| 1 = bI true := by cases hb <;> rfl
  simp only [b_X12_passes_115, b_X12_passes_140, rck hS, some_bind, hh, ite_bI0, o0, o1]
  cases p
  · simp
  · cases hd
    · simp
    · simp
theorem r_pass37 (hS : ShM S m) (hI : Inv D) (k9 : Option Nat → Int32 → Int32 → AH → Option AH) (k21 : Option Nat → Int32 → Int32 → Int32 → AH → Option AH) {v i : Nat} (hv : v < nD D 3) (hi : i < nD D 2) :
    ∀ k j fu (hb : Bool), j + k = nD D 2 → k < fu → b_X12_passes_37 k9 k21 fu (some m) (D 0) (nI v) (nI i) (bI hb) (nI j) (mkH n st S (setR μ (m + 1) (parD D v i))) = k21 (some m) (D 0) (nI v) (nI (i + 1)) (mkH n st S (setR μ (m + 1) (fun q => if q = 491 + 8 * i + v then (if (hb || anyS (fun o => nbB D (thB D) o i && decide (¬ D (491 + 8 * o + v) < 0)) k j) = true ∧ D (491 + 8 * i + v) < 0 then D 0 + 1 else D (491 + 8 * i + v)) else parD D v i q))) := by
  obtain ⟨e0, b0⟩ := hI.today
  obtain ⟨e1, b1⟩ := hI.wards
  obtain ⟨e2, b2⟩ := hI.men
  obtain ⟨e3, b3⟩ := hI.words
  obtain ⟨e4, b4⟩ := hI.bars
  obtain ⟨e5, b5⟩ := hI.shes
  obtain ⟨e6, b6⟩ := hI.wets
  obtain ⟨e8, b8⟩ := hI.heaped
  have hE : setR μ (m + 1) (parD D v i) (m + 1) = parD D v i := setR_row
  have p0 := fun q (h : q < 491 ∨ 619 ≤ q) => parD_out (D := D) (v := v) (i := i) h
  have pat : parD D v i (491 + 8 * i + v) = D (491 + 8 * i + v) := by
    rw [parD_at hi b2 (by omega), if_neg (by omega)]
  intro k
  induction k with
  | zero =>
    intro j fu hb hj hf
    obtain ⟨fu, rfl⟩ : ∃ q, fu = q + 1 := ⟨fu - 1, by omega⟩
    have q6 : ¬ nI j < nI (nD D 2) := nI_nlt (by omega) (by omega)
    simp (disch := omega) only [b_X12_passes_37, b_X12_passes_188, b_X12_passes_195, mR0 hS, some_bind, lit_aI, mA0 hS, mS0 hS, hE, p0, e2, q6, if_false, ite_bI0, lit_mul, lit_add, nI_add, pat, anyS, Bool.or_false, up2_setR, nI_1]
    cases hb
    · simp
    · by_cases h : D (491 + 8 * i + v) < 0
      · simp [h]
      · simp [h]
  | succ k ih =>
    intro j fu hb hj hf
    obtain ⟨fu, rfl⟩ : ∃ q, fu = q + 1 := ⟨fu - 1, by omega⟩
    have q6 : nI j < nI (nD D 2) := nI_lt (by omega) (by omega)
    have hh := r_had (n := n) (st := st) hS hE (i := j) (v := v) (by omega) (by omega) (D 0)
    rw [had_par hI (by omega) hv] at hh
    have ih' := fun hb => ih (j + 1) fu hb (by omega) (by omega)
    have q1 := r_pass115 (n := n) (st := st) hS k9 k21 (b_X12_passes_37 k9 k21 fu) (D 0) (nI v) (nI i) (nI j) hb true _ hh
    have q0 := r_pass115 (n := n) (st := st) hS k9 k21 (b_X12_passes_37 k9 k21 fu) (D 0) (nI v) (nI i) (nI j) hb false _ hh
    rw [nI_1, ih'] at q1 q0
    simp only [bI_t, bI_f] at q1 q0
    rw [b_X12_passes_37]
    simp only [mR0 hS]
    simp only [some_bind]
    simp (disch := omega) only [lit_aI, lit_add, mA0 hS, hE, p0, e2]
    simp only [some_bind, q6, if_true, q1, q0]
    rw [anyS]
    have t3 : (iRem (D 0) 3 = 0) = (thB D = true) := by simp [thB]
    simp only [t3]
    by_cases h1 : D (75 + j) = D (75 + i)
    · simp [h1, nbB, Bool.or_assoc]
    · cases hth : thB D
      · simp [h1, nbB]
      · by_cases h3 : D (91 + i) < 0
        · simp [h1, h3, nbB]
        · by_cases h4 : D (91 + j) = D (91 + i)
          · simp [h1, h3, h4, nbB, Bool.or_assoc]
          · simp [h1, h3, h4, nbB]
theorem r_pass21 (hS : ShM S m) (hI : Inv D) (k9 : Option Nat → Int32 → Int32 → AH → Option AH) {v : Nat} (hv : v < nD D 3) :
    ∀ k i fu, i + k = nD D 2 → k < fu → b_X12_passes_21 k9 fu (some m) (D 0) (nI v) (nI i) (mkH n st S (setR μ (m + 1) (parD D v i))) = k9 (some m) (D 0) (nI (v + 1)) (mkH n st S (setR μ (m + 1) (parD D (v + 1) 0))) := by
  obtain ⟨e0, b0⟩ := hI.today
  obtain ⟨e1, b1⟩ := hI.wards
  obtain ⟨e2, b2⟩ := hI.men
  obtain ⟨e3, b3⟩ := hI.words
  obtain ⟨e4, b4⟩ := hI.bars
  obtain ⟨e5, b5⟩ := hI.shes
  obtain ⟨e6, b6⟩ := hI.wets
  obtain ⟨e8, b8⟩ := hI.heaped
  intro k
  induction k with
  | zero =>
    intro i fu hj hf
    obtain ⟨fu, rfl⟩ : ∃ q, fu = q + 1 := ⟨fu - 1, by omega⟩
    obtain rfl : i = nD D 2 := by omega
    have hE : setR μ (m + 1) (parD D v (nD D 2)) (m + 1) = parD D v (nD D 2) := setR_row
    have q6 : ¬ nI (nD D 2) < nI (nD D 2) := nI_nlt (by omega) (by omega)
    have p2 : parD D v (nD D 2) 2 = nI (nD D 2) := by rw [parD_out (by omega)]; exact e2
    simp (disch := omega) only [b_X12_passes_21, mR0 hS, some_bind, lit_aI, mA0 hS, hE, p2, q6, if_false, nI_1]
    rw [parD_next (by omega) b2]
  | succ k ih =>
    intro i fu hj hf
    obtain ⟨fu, rfl⟩ : ∃ q, fu = q + 1 := ⟨fu - 1, by omega⟩
    have hE : setR μ (m + 1) (parD D v i) (m + 1) = parD D v i := setR_row
    have q6 : nI i < nI (nD D 2) := nI_lt (by omega) (by omega)
    have p2 : parD D v i 2 = nI (nD D 2) := by rw [parD_out (by omega)]; exact e2
    have h37 := r_pass37 (n := n) (st := st) (μ := μ) hS hI k9 (b_X12_passes_21 k9 fu) hv (i := i) (by omega) (nD D 2) 0 FU false (by omega) (by simp only [FU]; omega)
    simp (disch := omega) only [b_X12_passes_21, mR0 hS, some_bind, lit_aI, mA0 hS, hE, p2, q6, if_true]
    refine Eq.trans h37 ?_
    rw [← ih (i + 1) fu (by omega) (by omega)]
    congr 3
    funext q
    by_cases hq : q = 491 + 8 * i + v
    · rw [if_pos hq, hq, parD_at (by omega) b2 (by omega)]
      simp only [Bool.false_or, nwB, heB, Bool.and_eq_true, decide_eq_true_eq]
      by_cases h1 : D (491 + 8 * i + v) < 0
      · by_cases h2 : anyS (fun o => nbB D (thB D) o i && decide (¬ D (491 + 8 * o + v) < 0)) (nD D 2) 0 = true
        · rw [if_pos ⟨h2, h1⟩, if_pos ⟨by simp, h1, h2⟩]
        · rw [if_neg (fun q => h2 q.1), if_neg (fun q => h2 q.2.2)]
      · rw [if_neg (fun q => h1 q.2), if_neg (fun q => h1 q.2.1)]
    · rw [if_neg hq]
      unfold parD
      congr 1
      apply propext
      constructor
      · intro ⟨h1, h2, h3, h4, h5⟩; exact ⟨h1, h2, h3, by omega, h5⟩
      · intro ⟨h1, h2, h3, h4, h5⟩; exact ⟨h1, h2, h3, by omega, h5⟩
theorem r_passes (hS : ShM S m) (hI : Inv D) (hD : μ (m + 1) = D) : f_X12_passes (some m) (mkH n st S μ) = some (mkH n st S (setR μ (m + 1) (pasD D))) := by
  obtain ⟨e0, b0⟩ := hI.today
  obtain ⟨e1, b1⟩ := hI.wards
  obtain ⟨e2, b2⟩ := hI.men
  obtain ⟨e3, b3⟩ := hI.words
  obtain ⟨e4, b4⟩ := hI.bars
  obtain ⟨e5, b5⟩ := hI.shes
  obtain ⟨e6, b6⟩ := hI.wets
  obtain ⟨e8, b8⟩ := hI.heaped
  have hl : ∀ k v fu, v + k = nD D 3 → k < fu → b_X12_passes_9 fu (some m) (D 0) (nI v) (mkH n st S (setR μ (m + 1) (parD D v 0))) = some (mkH n st S (setR μ (m + 1) (pasD D))) := by
    intro k
    induction k with
    | zero =>
      intro v fu hj hf
      obtain ⟨fu, rfl⟩ : ∃ q, fu = q + 1 := ⟨fu - 1, by omega⟩
      obtain rfl : v = nD D 3 := by omega
      have hE : setR μ (m + 1) (parD D (nD D 3) 0) (m + 1) = parD D (nD D 3) 0 := setR_row
      have q6 : ¬ nI (nD D 3) < nI (nD D 3) := nI_nlt (by omega) (by omega)
      have p3 : parD D (nD D 3) 0 3 = nI (nD D 3) := by rw [parD_out (by omega)]; exact e3
      have p0 : parD D (nD D 3) 0 0 = D 0 := parD_out (by omega)
      simp (disch := omega) only [b_X12_passes_9, mR0 hS, some_bind, lit_aI, lit_sI, mA0 hS, mS0 hS, hE, p3, p0, q6, if_false, up2_setR]
      rfl
    | succ k ih =>
      intro v fu hj hf
      obtain ⟨fu, rfl⟩ : ∃ q, fu = q + 1 := ⟨fu - 1, by omega⟩
      have hE : setR μ (m + 1) (parD D v 0) (m + 1) = parD D v 0 := setR_row
      have q6 : nI v < nI (nD D 3) := nI_lt (by omega) (by omega)
      have p3 : parD D v 0 3 = nI (nD D 3) := by rw [parD_out (by omega)]; exact e3
      simp (disch := omega) only [b_X12_passes_9, mR0 hS, some_bind, lit_aI, mA0 hS, hE, p3, q6, if_true]
      refine Eq.trans (r_pass21 (n := n) (st := st) (μ := μ) hS hI (b_X12_passes_9 fu) (v := v) (by omega) (nD D 2) 0 FU (by omega) (by simp only [FU]; omega)) ?_
      exact ih (v + 1) fu (by omega) (by omega)
  have h0 := hl (nD D 3) 0 FU (by omega) (by simp only [FU]; omega)
  rw [parD_00, ← hD, setR_id] at h0
  simp (disch := omega) only [f_X12_passes, mR0 hS, some_bind, lit_aI, mA0 hS]
  rw [hD] at h0 ⊢
  exact h0
end DAYS
