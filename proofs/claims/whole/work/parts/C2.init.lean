-- ===== constructors =====
def paS (S : SH) (c j n K q : Nat) (sl : Nat → Option (Option Nat)) : SH := slS (upS S n (K, q, sl)) c j (some n)
def sl2 (j : Nat) : Option (Option Nat) := match j with
  | 0 => none
  | 2 => none
  | 4 => none
  | 6 => none
  | 8 => none
  | 10 => none
  | 12 => none
  | 14 => none
  | 18 => none
  | _ => some none
def sl3 (j : Nat) : Option (Option Nat) := match j with
  | 0 => none
  | 1 => none
  | 3 => none
  | _ => some none
def sl5 (j : Nat) : Option (Option Nat) := if j < 9 then none else some none
def sl10 (j : Nat) : Option (Option Nat) := if j < 2 then none else some none
def sl9 (_ : Nat) : Option (Option Nat) := none
/-- a law as it is made -/
def LawI (μ : MU) (l : Nat) : Prop := μ l 0 = 0 ∧ μ l 1 = 10 ∧ μ l 3 = 0 ∧ ∀ j, j < 4 → μ (l + 2) j = -1
section INIT
variable {n : Nat} {st : Nat → Nat} {S S' : SH} {μ μ' : MU} {c j k K B q l : Nat} {sl s : Nat → Option (Option Nat)}
theorem obS.of {a k l : Nat} {s : Nat → Option (Option Nat)} (e : S a = (k, l, s)) (h : ∀ j, j < l → s j = sl j) : obS S a k l sl := ⟨by rw [e], by rw [e], fun j hj => by rw [e]; exact h j hj⟩
theorem paS_n (h : ¬ c = n) : paS S c j n K q sl n = (K, q, sl) := by rw [paS, slS_ne (fun e => h e.symm), upS_same]
theorem paS_c (h : ¬ c = n) (e : S c = (k, l, s)) : paS S c j n K q sl c = (k, l, fun i => if i = j then some (some n) else s i) := by rw [paS, slS_at, upS_ne h, e]
theorem paS_o {z : Nat} (h1 : ¬ z = c) (h2 : ¬ z = n) : paS S c j n K q sl z = S z := by rw [paS, slS_ne h1, upS_ne h2]
theorem pairI {α : Type} {X : AH → Option α} (hk : (S c).1 = k) (hc : ¬ c = n) (hq : q ≤ B) (hB : B < 2 ^ 31) : ((nA K B (.int 0) (nI q) (mkH n st S μ)).bind fun h1 => (pR k j h1 (some c) (some (mkH n st S μ).1)).bind X) = X (mkH (n + 1) st (paS S c j n K q (fun _ => none)) (zeR μ n)) := by
  rw [nA_mk hq hB, some_bind, pR_mk (by rw [upS_ne hc]; exact hk), some_bind]
  rfl
theorem pairN {α : Type} {X : AH → Option α} (hk : (S c).1 = k) (hc : ¬ c = n) (hq : q ≤ B) (hB : B < 2 ^ 31) : ((nA K B .null (nI q) (mkH n st S μ)).bind fun h1 => (pR k j h1 (some c) (some (mkH n st S μ).1)).bind X) = X (mkH (n + 1) st (paS S c j n K q (fun _ => some none)) (zeR μ n)) := by
  rw [nN_mk hq hB, some_bind, pR_mk (by rw [upS_ne hc]; exact hk), some_bind]
  rfl
theorem ty2 (j : Nat) : defaultValue (tyX2 j) = slV (sl2 j) 0 := by
  rcases j with _ | _ | _ | _ | _ | _ | _ | _ | _ | _ | _ | _ | _ | _ | _ | _ | _ | _ | _ | _ | j <;> rfl
theorem ty3 (j : Nat) : defaultValue (tyX3 j) = slV (sl3 j) 0 := by
  rcases j with _ | _ | _ | _ | _ | _ | _ | _ | j <;> rfl
theorem ty5 (j : Nat) : defaultValue (tyX5 j) = slV (sl5 j) 0 := by
  rcases j with _ | _ | _ | _ | _ | _ | _ | _ | _ | _ | j
  case succ => rw [sl5, if_neg (by omega)]; rfl
  all_goals rfl
theorem ty10 (j : Nat) : defaultValue (tyX10 j) = slV (sl10 j) 0 := by
  rcases j with _ | _ | _ | j
  case succ => rw [sl10, if_neg (by omega)]; rfl
  all_goals rfl
theorem ty9 (j : Nat) : defaultValue (tyX9 j) = slV (sl9 j) 0 := by
  rcases j with _ | _ | _ | _ | j <;> rfl
theorem ty1 (j : Nat) : defaultValue (tyX1 j) = slV (sl9 j) 0 := by
  rcases j with _ | _ | _ | _ | j <;> rfl
theorem ty8 (j : Nat) : defaultValue (tyX8 j) = slV (sl9 j) 0 := by
  rcases j with _ | _ | _ | _ | _ | _ | _ | _ | _ | _ | _ | j <;> rfl
/-- a law is made -/
theorem k_init3 (e0 : S l = (3, 8, sl3)) : ∃ S' μ', f_X3_init l (mkH (l + 1) st S μ) = some (mkH (l + 6) st S' μ') ∧ ShL S' l ∧ (∀ z, z < l → S' z = S z) ∧ (∀ z j, z < l → μ' z j = μ z j) ∧ μ' l 1 = 10 ∧ (∀ j, ¬ j = 1 → μ' l j = μ l j) ∧ ∀ j, j < 4 → μ' (l + 2) j = -1 := by

  obtain ⟨f0, hf0⟩ : ∃ g, g = sl3 := ⟨_, rfl⟩
  rw [← hf0] at e0
  obtain ⟨S0, hS0⟩ : ∃ q, q = S := ⟨_, rfl⟩
  rw [← hS0] at e0 ⊢
  obtain ⟨S1, hS1⟩ : ∃ q, q = paS S0 l 2 (l + 1) 100 320 (fun _ => none) := ⟨_, rfl⟩
  obtain ⟨f1, hf1⟩ : ∃ g : Nat → Option (Option Nat), g = fun i => if i = 2 then some (some (l + 1)) else f0 i := ⟨_, rfl⟩
  have e1 : S1 l = (3, 8, f1) := by rw [hS1, paS_c (by omega) e0, hf1]
  have m1 : S1 (l + 1) = (100, 320, fun _ => none) := by rw [hS1, paS_n (by omega)]
  have o1 : ∀ z, ¬ z = l → ¬ z = l + 1 → S1 z = S0 z := fun z h1 h2 => by rw [hS1, paS_o h1 h2]
  obtain ⟨S2, hS2⟩ : ∃ q, q = paS S1 l 4 (l + 2) 100 4 (fun _ => none) := ⟨_, rfl⟩
  obtain ⟨f2, hf2⟩ : ∃ g : Nat → Option (Option Nat), g = fun i => if i = 4 then some (some (l + 2)) else f1 i := ⟨_, rfl⟩
  have e2 : S2 l = (3, 8, f2) := by rw [hS2, paS_c (by omega) e1, hf2]
  have m2 : S2 (l + 2) = (100, 4, fun _ => none) := by rw [hS2, paS_n (by omega)]
  have o2 : ∀ z, ¬ z = l → ¬ z = l + 2 → S2 z = S1 z := fun z h1 h2 => by rw [hS2, paS_o h1 h2]
  obtain ⟨S3, hS3⟩ : ∃ q, q = paS S2 l 5 (l + 3) 100 4 (fun _ => none) := ⟨_, rfl⟩
  obtain ⟨f3, hf3⟩ : ∃ g : Nat → Option (Option Nat), g = fun i => if i = 5 then some (some (l + 3)) else f2 i := ⟨_, rfl⟩
  have e3 : S3 l = (3, 8, f3) := by rw [hS3, paS_c (by omega) e2, hf3]
  have m3 : S3 (l + 3) = (100, 4, fun _ => none) := by rw [hS3, paS_n (by omega)]
  have o3 : ∀ z, ¬ z = l → ¬ z = l + 3 → S3 z = S2 z := fun z h1 h2 => by rw [hS3, paS_o h1 h2]
  obtain ⟨S4, hS4⟩ : ∃ q, q = paS S3 l 6 (l + 4) 100 7 (fun _ => none) := ⟨_, rfl⟩
  obtain ⟨f4, hf4⟩ : ∃ g : Nat → Option (Option Nat), g = fun i => if i = 6 then some (some (l + 4)) else f3 i := ⟨_, rfl⟩
  have e4 : S4 l = (3, 8, f4) := by rw [hS4, paS_c (by omega) e3, hf4]
  have m4 : S4 (l + 4) = (100, 7, fun _ => none) := by rw [hS4, paS_n (by omega)]
  have o4 : ∀ z, ¬ z = l → ¬ z = l + 4 → S4 z = S3 z := fun z h1 h2 => by rw [hS4, paS_o h1 h2]
  obtain ⟨S5, hS5⟩ : ∃ q, q = paS S4 l 7 (l + 5) 100 40 (fun _ => none) := ⟨_, rfl⟩
  obtain ⟨f5, hf5⟩ : ∃ g : Nat → Option (Option Nat), g = fun i => if i = 7 then some (some (l + 5)) else f4 i := ⟨_, rfl⟩
  have e5 : S5 l = (3, 8, f5) := by rw [hS5, paS_c (by omega) e4, hf5]
  have m5 : S5 (l + 5) = (100, 40, fun _ => none) := by rw [hS5, paS_n (by omega)]
  have o5 : ∀ z, ¬ z = l → ¬ z = l + 5 → S5 z = S4 z := fun z h1 h2 => by rw [hS5, paS_o h1 h2]
  obtain ⟨μ1, h1⟩ : ∃ q, q = zeR (up2 μ l 1 10) (l + 1) := ⟨_, rfl⟩
  obtain ⟨μ2, h2⟩ : ∃ q, q = (up2 (up2 (up2 (up2 (zeR μ1 (l + 2)) (l + 2) (0) (-1)) (l + 2) (1) (-1)) (l + 2) (2) (-1)) (l + 2) (3) (-1)) := ⟨_, rfl⟩
  obtain ⟨S2', hS2'⟩ : ∃ q, q = upS S1 (l + 2) (100, 4, fun _ => none) := ⟨_, rfl⟩
  have m2' : S2' (l + 2) = (100, 4, fun _ => none) := by rw [hS2', upS_same]
  have sI' : ∀ (μ : MU) (i : Nat) (v : Int32), i < 4 → sI (mkH (l + 2 + 1) st S2' μ) (some (l + 2)) (nI i) v = some (mkH (l + 2 + 1) st S2' (up2 μ (l + 2) i v)) := fun μ i v hi => sI_mk (by rw [m2']) (by rw [m2']; exact hi) (by rw [m2']; decide) (by rw [m2'])
  have s0 : ∀ (μ : MU), sI (mkH (l + 2 + 1) st S2' μ) (some (l + 2)) 0 (-1) = some (mkH (l + 2 + 1) st S2' (up2 μ (l + 2) 0 (-1))) := fun μ => sI' μ 0 (-1) (by omega)
  have s1 : ∀ (μ : MU), sI (mkH (l + 2 + 1) st S2' μ) (some (l + 2)) 1 (-1) = some (mkH (l + 2 + 1) st S2' (up2 μ (l + 2) 1 (-1))) := fun μ => sI' μ 1 (-1) (by omega)
  have s2 : ∀ (μ : MU), sI (mkH (l + 2 + 1) st S2' μ) (some (l + 2)) 2 (-1) = some (mkH (l + 2 + 1) st S2' (up2 μ (l + 2) 2 (-1))) := fun μ => sI' μ 2 (-1) (by omega)
  have s3 : ∀ (μ : MU), sI (mkH (l + 2 + 1) st S2' μ) (some (l + 2)) 3 (-1) = some (mkH (l + 2 + 1) st S2' (up2 μ (l + 2) 3 (-1))) := fun μ => sI' μ 3 (-1) (by omega)
  refine ⟨S5, zeR (zeR (zeR μ2 (l + 3)) (l + 4)) (l + 5), ?_, ?_, ?_, ?_, ?_, ?_, ?_⟩
  · unfold f_X3_init
    rw [pI_mk (by rw [e0]) (by rw [e0, hf0]; rfl), some_bind]
    refine (pairI (S := S0) (c := l) (k := 3) (j := 2) (n := l + 1) (K := 100) (B := 320) (q := 320) (by rw [e0]) (by omega) (by omega) (by omega)).trans ?_
    rw [← hS1, ← h1]
    have a4 : nA 100 4 (.int 0) 4 (mkH (l + 1 + 1) st S1 μ1) = some (mkH (l + 2 + 1) st S2' (zeR μ1 (l + 2))) := by
      rw [hS2']
      exact nA_mk (q := 4) (n := l + 2) (by omega) (by omega)
    have p4 : ∀ μ : MU, pR 3 4 (mkH (l + 2 + 1) st S2' μ) (some l) (some (l + 2)) = some (mkH (l + 3) st S2 μ) := fun μ => by
      rw [hS2, paS, ← hS2']
      exact pR_mk (by rw [hS2', upS_ne (by omega), e1])
    rw [a4, some_bind]
    simp only [show (mkH (l + 1 + 1) st S1 μ1).1 = l + 2 from rfl, s0, s1, s2, s3, some_bind, p4, ← h2]
    refine (pairI (S := S2) (c := l) (k := 3) (j := 5) (n := l + 3) (K := 100) (B := 4) (q := 4) (by rw [e2]) (by omega) (by omega) (by omega)).trans ?_
    rw [← hS3]
    refine (pairI (S := S3) (c := l) (k := 3) (j := 6) (n := l + 4) (K := 100) (B := 7) (q := 7) (by rw [e3]) (by omega) (by omega) (by omega)).trans ?_
    rw [← hS4]
    refine (pairI (S := S4) (c := l) (k := 3) (j := 7) (n := l + 5) (K := 100) (B := 40) (q := 40) (by rw [e4]) (by omega) (by omega) (by omega)).trans ?_
    rw [← hS5]
  · refine ⟨obS.of e5 (fun j hj => ?_), obS.of (s := fun _ => none) (by simp (disch := omega) only [o5, o4, o3, o2, m1]) (fun _ _ => rfl), obS.of (s := fun _ => none) (by simp (disch := omega) only [o5, o4, o3, m2]) (fun _ _ => rfl), obS.of (s := fun _ => none) (by simp (disch := omega) only [o5, o4, m3]) (fun _ _ => rfl), obS.of (s := fun _ => none) (by simp (disch := omega) only [o5, m4]) (fun _ _ => rfl), obS.of m5 (fun _ _ => rfl)⟩
    rw [hf5, hf4, hf3, hf2, hf1, hf0]
    rcases (by omega : j = 0 ∨ j = 1 ∨ j = 2 ∨ j = 3 ∨ j = 4 ∨ j = 5 ∨ j = 6 ∨ j = 7) with rfl | rfl | rfl | rfl | rfl | rfl | rfl | rfl <;> rfl
  · intro z hz
    simp (disch := omega) only [o5, o4, o3, o2, o1]
  · intro z j hz
    rw [zeR_ne (by omega), zeR_ne (by omega), zeR_ne (by omega), h2]
    simp (disch := omega) only [up2_ne]
    rw [zeR_ne (by omega), h1, zeR_ne (by omega), up2_ne (by omega)]
  · rw [zeR_ne (by omega), zeR_ne (by omega), zeR_ne (by omega), h2]
    simp (disch := omega) only [up2_ne]
    rw [zeR_ne (by omega), h1, zeR_ne (by omega), up2_same]
  · intro j hj
    rw [zeR_ne (by omega), zeR_ne (by omega), zeR_ne (by omega), h2]
    simp (disch := omega) only [up2_ne]
    rw [zeR_ne (by omega), h1, zeR_ne (by omega), up2_ne (by omega)]
  · intro j hj
    rw [zeR_ne (by omega), zeR_ne (by omega), zeR_ne (by omega), h2]
    rcases (by omega : j = 0 ∨ j = 1 ∨ j = 2 ∨ j = 3) with rfl | rfl | rfl | rfl <;> simp (disch := omega) only [up2_ne, up2_same]
/-- a loop that makes thing by thing -/
theorem loopN {LOOP : Nat → Int32 → AH → Option AH} {TAIL : AH → Option AH} {N w arr : Nat} {Sc : Nat × Nat × (Nat → Option (Option Nat))} {Obj : SH → MU → Nat → Prop}
    (hObj : ∀ (S S' : SH) (μ μ' : MU) a, (∀ z, a ≤ z → z < a + w → S' z = S z ∧ ∀ j, μ' z j = μ z j) → Obj S μ a → Obj S' μ' a)
    (hca : ¬ c = arr)
    (hstep : ∀ fu i nn (S : SH) (μ : MU), i < N → arr < nn → c < nn → S c = Sc → (S arr).1 = K → (S arr).2.1 = N → ∃ S1 μ1, LOOP (fu + 1) (nI i) (mkH nn st S μ) = LOOP fu (nI (i + 1)) (mkH (nn + w) st S1 μ1) ∧ S1 arr = (K, N, fun q => if q = i then some (some nn) else (S arr).2.2 q) ∧ (∀ z, z < nn → ¬ z = arr → S1 z = S z) ∧ Obj S1 μ1 nn ∧ (∀ z j, z < nn → μ1 z j = μ z j))
    (hend : ∀ fu nn (S : SH) (μ : MU), LOOP (fu + 1) (nI N) (mkH nn st S μ) = TAIL (mkH nn st S μ)) :
    ∀ k i fu nn (S : SH) (μ : MU), i + k = N → k < fu → arr < nn → c < nn → S c = Sc → (S arr).1 = K → (S arr).2.1 = N → ∃ S' μ', LOOP fu (nI i) (mkH nn st S μ) = TAIL (mkH (nn + w * k) st S' μ') ∧ (∀ q, q < N → (S' arr).2.2 q = if i ≤ q then some (some (nn + w * (q - i))) else (S arr).2.2 q) ∧ (S' arr).1 = K ∧ (S' arr).2.1 = N ∧ (∀ z, z < nn → ¬ z = arr → S' z = S z) ∧ (∀ q, i ≤ q → q < N → Obj S' μ' (nn + w * (q - i))) ∧ (∀ z j, z < nn → μ' z j = μ z j) := by
  intro k
  induction k with
  | zero =>
    intro i fu nn S μ hi hf ha hc e1 e2 e3
    obtain ⟨fu, rfl⟩ : ∃ q, fu = q + 1 := ⟨fu - 1, by omega⟩
    obtain rfl : i = N := by omega
    exact ⟨S, μ, hend fu nn S μ, fun q hq => by rw [if_neg (by omega)], e2, e3, fun _ _ _ => rfl, fun q h1 h2 => absurd h2 (by omega), fun _ _ _ => rfl⟩
  | succ k ih =>
    intro i fu nn S μ hi hf ha hc e1 e2 e3
    obtain ⟨fu, rfl⟩ : ∃ q, fu = q + 1 := ⟨fu - 1, by omega⟩
    obtain ⟨S1, μ1, s1, s2, s3, s4, s5⟩ := hstep fu i nn S μ (by omega) ha hc e1 e2 e3
    obtain ⟨S2, μ2, t1, t2, t3, t4, t5, t6, t7⟩ := ih (i + 1) fu (nn + w) S1 μ1 (by omega) (by omega) (by omega) (by omega) (by rw [s3 c hc hca]; exact e1) (by rw [s2]) (by rw [s2])
    have hw : nn + w + w * k = nn + w * (k + 1) := by rw [Nat.mul_succ]; omega
    have hq : ∀ q, i + 1 ≤ q → nn + w + w * (q - (i + 1)) = nn + w * (q - i) := fun q h => by
      obtain ⟨r, hr⟩ : ∃ r, q - (i + 1) = r := ⟨_, rfl⟩
      rw [hr, show q - i = r + 1 by omega, Nat.mul_succ]
      omega
    refine ⟨S2, μ2, by rw [s1, t1, hw], fun q hqN => ?_, t3, t4, fun z hz hza => by rw [t5 z (by omega) hza, s3 z hz hza], fun q h1 h2 => ?_, fun z j hz => by rw [t7 z j (by omega), s5 z j hz]⟩
    · rw [t2 q hqN, s2]
      by_cases g : i + 1 ≤ q
      · rw [if_pos g, if_pos (by omega), hq q g]
      · rw [if_neg g]
        by_cases g2 : q = i
        · subst g2
          rw [if_pos (Nat.le_refl _)]
          simp
        · rw [if_neg (by omega)]
          simp only [g2, if_false]
    · by_cases g : i + 1 ≤ q
      · rw [← hq q g]
        exact t6 q g h2
      · obtain rfl : q = i := by omega
        rw [Nat.sub_self, Nat.mul_zero, Nat.add_zero]
        refine hObj S1 S2 μ1 μ2 nn (fun z h1 h2 => ⟨t5 z h2 (by omega), fun j => t7 z j h2⟩) s4

theorem in_111 {Sc : Nat × Nat × (Nat → Option (Option Nat))} (hSc1 : Sc.1 = 2) (hSc : Sc.2.2 3 = some (some (c + 2))) : ∀ k i fu nn (S : SH) (μ : MU), i + k = 8 → k < fu → c + 2 < nn → c < nn → S c = Sc → (S (c + 2)).1 = 108 → (S (c + 2)).2.1 = 8 → ∃ S' μ', b_X2_init_111 fu (some c) (nI i) (mkH nn st S μ) = (fun h => b_X2_init_138 17 (some c) 0 h) (mkH (nn + 1 * k) st S' μ') ∧ (∀ q, q < 8 → (S' (c + 2)).2.2 q = if i ≤ q then some (some (nn + 1 * (q - i))) else (S (c + 2)).2.2 q) ∧ (S' (c + 2)).1 = 108 ∧ (S' (c + 2)).2.1 = 8 ∧ (∀ z, z < nn → ¬ z = c + 2 → S' z = S z) ∧ (∀ q, i ≤ q → q < 8 → (fun (S : SH) (μ : MU) a => nnS S a 9 4) S' μ' (nn + 1 * (q - i))) ∧ (∀ z j, z < nn → μ' z j = μ z j) := by
  refine loopN (c := c) (LOOP := fun fu i h => b_X2_init_111 fu (some c) i h) (TAIL := fun h => b_X2_init_138 17 (some c) 0 h) (w := 1) (Obj := fun (S : SH) (μ : MU) a => nnS S a 9 4) ?_ (by omega) ?_ ?_
  · intro S S' μ μ' a h q
    exact obS.to q (h a (by omega) (by omega)).1
  · intro fu i nn S μ hi ha hc e1 e2 e3
    have g : gR 2 3 (mkH nn st S μ) (some c) = some (some (c + 2)) := gR_mk (by rw [e1]; exact hSc1) (by rw [e1]; exact hSc)
    have e1' : nI i + 1 = nI (i + 1) := nI_add i 1
    have hlt : nI i < (8 : Int32) := nI_lt (b := 8) hi (by omega)
    obtain ⟨S1, h1⟩ : ∃ q, q = upS S nn (9, 4, sl9) := ⟨_, rfl⟩
    have s1n : S1 nn = (9, 4, sl9) := by rw [h1, upS_same]
    have s1o : ∀ z, ¬ z = nn → S1 z = S z := fun z h => by rw [h1, upS_ne h]
    have ei : f_X9_init nn (mkH (nn + 1) st S1 (zeR μ nn)) = some (mkH (nn + 1) st S1 (zeR μ nn)) := rfl
    obtain ⟨S2, h2⟩ : ∃ q, q = S1 := ⟨_, rfl⟩
    obtain ⟨μ2, hm2⟩ : ∃ q, q = zeR μ nn := ⟨_, rfl⟩
    rw [← h2, ← hm2] at ei
    have s2o : ∀ z, z < nn → S2 z = S z := fun z h => by rw [h2, s1o z (by omega)]
    have m2o : ∀ z j, z < nn → μ2 z j = μ z j := fun z j h => by rw [hm2, zeR_ne (by omega)]
    have ob : ∀ S' : SH, (∀ z, nn ≤ z → S' z = S2 z) → nnS S' nn 9 4 := fun S' h => obS.of (s := sl9) (by rw [h nn (by omega), h2, s1n]) (fun _ _ => rfl)
    have k2 : (S2 nn).1 = 9 := by rw [h2, s1n]
    refine ⟨slS S2 (c + 2) i (some nn), μ2, ?_, ?_, ?_, ob _ (fun z h => slS_ne (by omega)), m2o⟩
    · have hsr : sR (mkH (nn + 1) st S2 μ2) (some (c + 2)) (nI i) (some nn) = some (mkH (nn + 1) st (slS S2 (c + 2) i (some nn)) μ2) := sR_mk (k := 108) (by rw [s2o _ ha]; exact e2) (by omega) (by rw [s2o _ ha, e3]; exact hi) (by rw [s2o _ ha, e3]; omega) (fun v hv => by obtain rfl := Option.some.inj hv; rw [k2]; rfl)
      show b_X2_init_111 (fu + 1) (some c) (nI i) (mkH nn st S μ) = b_X2_init_111 fu (some c) (nI (i + 1)) (mkH (nn + 1) st (slS S2 (c + 2) i (some nn)) μ2)
      simp only [b_X2_init_111, hlt, if_true, g, some_bind, nO_mk sl9 ty9, ← h1, show (mkH nn st S μ).1 = nn from rfl]
      rw [← h2, ← hm2, ei, some_bind, hsr, some_bind, e1']
    · rw [slS_at, s2o _ ha, e2, e3]
    · intro z hz hza
      rw [slS_ne hza, s2o z hz]
  · intro fu nn S μ
    have hlt : ¬ nI 8 < (8 : Int32) := by decide
    show b_X2_init_111 (fu + 1) (some c) (nI 8) (mkH nn st S μ) = b_X2_init_138 17 (some c) 0 (mkH nn st S μ)
    simp only [b_X2_init_111, hlt, if_false]
theorem in_138 {Sc : Nat × Nat × (Nat → Option (Option Nat))} (hSc1 : Sc.1 = 2) (hSc : Sc.2.2 5 = some (some (c + 3))) : ∀ k i fu nn (S : SH) (μ : MU), i + k = 16 → k < fu → c + 3 < nn → c < nn → S c = Sc → (S (c + 3)).1 = 105 → (S (c + 3)).2.1 = 16 → ∃ S' μ', b_X2_init_138 fu (some c) (nI i) (mkH nn st S μ) = (fun h => b_X2_init_165 9 (some c) 0 h) (mkH (nn + 2 * k) st S' μ') ∧ (∀ q, q < 16 → (S' (c + 3)).2.2 q = if i ≤ q then some (some (nn + 2 * (q - i))) else (S (c + 3)).2.2 q) ∧ (S' (c + 3)).1 = 105 ∧ (S' (c + 3)).2.1 = 16 ∧ (∀ z, z < nn → ¬ z = c + 3 → S' z = S z) ∧ (∀ q, i ≤ q → q < 16 → (fun (S : SH) (μ : MU) a => obS S a 5 10 (slMan a) ∧ nnS S (a + 1) 100 16) S' μ' (nn + 2 * (q - i))) ∧ (∀ z j, z < nn → μ' z j = μ z j) := by
  refine loopN (c := c) (LOOP := fun fu i h => b_X2_init_138 fu (some c) i h) (TAIL := fun h => b_X2_init_165 9 (some c) 0 h) (w := 2) (Obj := fun (S : SH) (μ : MU) a => obS S a 5 10 (slMan a) ∧ nnS S (a + 1) 100 16) ?_ (by omega) ?_ ?_
  · rintro S S' μ μ' a h ⟨q1, q2⟩
    exact ⟨obS.to q1 (h a (by omega) (by omega)).1, obS.to q2 (h (a + 1) (by omega) (by omega)).1⟩
  · intro fu i nn S μ hi ha hc e1 e2 e3
    have g : gR 2 5 (mkH nn st S μ) (some c) = some (some (c + 3)) := gR_mk (by rw [e1]; exact hSc1) (by rw [e1]; exact hSc)
    have e1' : nI i + 1 = nI (i + 1) := nI_add i 1
    have hlt : nI i < (16 : Int32) := nI_lt (b := 16) hi (by omega)
    obtain ⟨S1, h1⟩ : ∃ q, q = upS S nn (5, 10, sl5) := ⟨_, rfl⟩
    have s1n : S1 nn = (5, 10, sl5) := by rw [h1, upS_same]
    have s1o : ∀ z, ¬ z = nn → S1 z = S z := fun z h => by rw [h1, upS_ne h]
    obtain ⟨S2, h2⟩ : ∃ q, q = paS S1 nn 9 (nn + 1) 100 16 (fun _ => none) := ⟨_, rfl⟩
    obtain ⟨μ2, hm2⟩ : ∃ q, q = zeR (zeR μ nn) (nn + 1) := ⟨_, rfl⟩
    have ei : f_X5_init nn (mkH (nn + 1) st S1 (zeR μ nn)) = some (mkH (nn + 1 + 1) st S2 μ2) := by
      unfold f_X5_init
      refine (pairI (S := S1) (c := nn) (k := 5) (j := 9) (n := nn + 1) (K := 100) (B := 16) (q := 16) (by rw [s1n]) (by omega) (by omega) (by omega)).trans ?_
      rw [← h2, ← hm2]
    have s2o : ∀ z, z < nn → S2 z = S z := fun z h => by rw [h2, paS_o (by omega) (by omega), s1o z (by omega)]
    have m2o : ∀ z j, z < nn → μ2 z j = μ z j := fun z j h => by rw [hm2, zeR_ne (by omega), zeR_ne (by omega)]
    have k2' := paS_c (S := S1) (c := nn) (j := 9) (n := nn + 1) (K := 100) (q := 16) (sl := fun _ => none) (by omega) s1n
    rw [← h2] at k2'
    have ob : ∀ S' : SH, (∀ z, nn ≤ z → S' z = S2 z) → obS S' nn 5 10 (slMan nn) ∧ nnS S' (nn + 1) 100 16 := fun S' h => ⟨obS.of (by rw [h nn (by omega), k2']) (fun j hj => by rcases (by omega : j = 0 ∨ j = 1 ∨ j = 2 ∨ j = 3 ∨ j = 4 ∨ j = 5 ∨ j = 6 ∨ j = 7 ∨ j = 8 ∨ j = 9) with rfl | rfl | rfl | rfl | rfl | rfl | rfl | rfl | rfl | rfl <;> rfl), obS.of (s := fun _ => none) (by rw [h (nn + 1) (by omega), h2, paS_n (by omega)]) (fun _ _ => rfl)⟩
    have k2 : (S2 nn).1 = 5 := by rw [k2']
    refine ⟨slS S2 (c + 3) i (some nn), μ2, ?_, ?_, ?_, ob _ (fun z h => slS_ne (by omega)), m2o⟩
    · have hsr : sR (mkH (nn + 2) st S2 μ2) (some (c + 3)) (nI i) (some nn) = some (mkH (nn + 2) st (slS S2 (c + 3) i (some nn)) μ2) := sR_mk (k := 105) (by rw [s2o _ ha]; exact e2) (by omega) (by rw [s2o _ ha, e3]; exact hi) (by rw [s2o _ ha, e3]; omega) (fun v hv => by obtain rfl := Option.some.inj hv; rw [k2]; rfl)
      show b_X2_init_138 (fu + 1) (some c) (nI i) (mkH nn st S μ) = b_X2_init_138 fu (some c) (nI (i + 1)) (mkH (nn + 2) st (slS S2 (c + 3) i (some nn)) μ2)
      simp only [b_X2_init_138, hlt, if_true, g, some_bind, nO_mk sl5 ty5, ← h1, show (mkH nn st S μ).1 = nn from rfl]
      rw [ei, some_bind]
      exact (congrArg (fun o => Option.bind o _) hsr).trans (by rw [some_bind, e1'])
    · rw [slS_at, s2o _ ha, e2, e3]
    · intro z hz hza
      rw [slS_ne hza, s2o z hz]
  · intro fu nn S μ
    have hlt : ¬ nI 16 < (16 : Int32) := by decide
    show b_X2_init_138 (fu + 1) (some c) (nI 16) (mkH nn st S μ) = b_X2_init_165 9 (some c) 0 (mkH nn st S μ)
    simp only [b_X2_init_138, hlt, if_false]
theorem in_165 {Sc : Nat × Nat × (Nat → Option (Option Nat))} (hSc1 : Sc.1 = 2) (hSc : Sc.2.2 7 = some (some (c + 4))) : ∀ k i fu nn (S : SH) (μ : MU), i + k = 8 → k < fu → c + 4 < nn → c < nn → S c = Sc → (S (c + 4)).1 = 109 → (S (c + 4)).2.1 = 8 → ∃ S' μ', b_X2_init_165 fu (some c) (nI i) (mkH nn st S μ) = (fun h => b_X2_init_192 9 (some c) 0 h) (mkH (nn + 2 * k) st S' μ') ∧ (∀ q, q < 8 → (S' (c + 4)).2.2 q = if i ≤ q then some (some (nn + 2 * (q - i))) else (S (c + 4)).2.2 q) ∧ (S' (c + 4)).1 = 109 ∧ (S' (c + 4)).2.1 = 8 ∧ (∀ z, z < nn → ¬ z = c + 4 → S' z = S z) ∧ (∀ q, i ≤ q → q < 8 → (fun (S : SH) (μ : MU) a => obS S a 10 3 (slWord a) ∧ nnS S (a + 1) 100 16) S' μ' (nn + 2 * (q - i))) ∧ (∀ z j, z < nn → μ' z j = μ z j) := by
  refine loopN (c := c) (LOOP := fun fu i h => b_X2_init_165 fu (some c) i h) (TAIL := fun h => b_X2_init_192 9 (some c) 0 h) (w := 2) (Obj := fun (S : SH) (μ : MU) a => obS S a 10 3 (slWord a) ∧ nnS S (a + 1) 100 16) ?_ (by omega) ?_ ?_
  · rintro S S' μ μ' a h ⟨q1, q2⟩
    exact ⟨obS.to q1 (h a (by omega) (by omega)).1, obS.to q2 (h (a + 1) (by omega) (by omega)).1⟩
  · intro fu i nn S μ hi ha hc e1 e2 e3
    have g : gR 2 7 (mkH nn st S μ) (some c) = some (some (c + 4)) := gR_mk (by rw [e1]; exact hSc1) (by rw [e1]; exact hSc)
    have e1' : nI i + 1 = nI (i + 1) := nI_add i 1
    have hlt : nI i < (8 : Int32) := nI_lt (b := 8) hi (by omega)
    obtain ⟨S1, h1⟩ : ∃ q, q = upS S nn (10, 3, sl10) := ⟨_, rfl⟩
    have s1n : S1 nn = (10, 3, sl10) := by rw [h1, upS_same]
    have s1o : ∀ z, ¬ z = nn → S1 z = S z := fun z h => by rw [h1, upS_ne h]
    obtain ⟨S2, h2⟩ : ∃ q, q = paS S1 nn 2 (nn + 1) 100 16 (fun _ => none) := ⟨_, rfl⟩
    obtain ⟨μ2, hm2⟩ : ∃ q, q = zeR (zeR μ nn) (nn + 1) := ⟨_, rfl⟩
    have ei : f_X10_init nn (mkH (nn + 1) st S1 (zeR μ nn)) = some (mkH (nn + 1 + 1) st S2 μ2) := by
      unfold f_X10_init
      refine (pairI (S := S1) (c := nn) (k := 10) (j := 2) (n := nn + 1) (K := 100) (B := 16) (q := 16) (by rw [s1n]) (by omega) (by omega) (by omega)).trans ?_
      rw [← h2, ← hm2]
    have s2o : ∀ z, z < nn → S2 z = S z := fun z h => by rw [h2, paS_o (by omega) (by omega), s1o z (by omega)]
    have m2o : ∀ z j, z < nn → μ2 z j = μ z j := fun z j h => by rw [hm2, zeR_ne (by omega), zeR_ne (by omega)]
    have k2' := paS_c (S := S1) (c := nn) (j := 2) (n := nn + 1) (K := 100) (q := 16) (sl := fun _ => none) (by omega) s1n
    rw [← h2] at k2'
    have ob : ∀ S' : SH, (∀ z, nn ≤ z → S' z = S2 z) → obS S' nn 10 3 (slWord nn) ∧ nnS S' (nn + 1) 100 16 := fun S' h => ⟨obS.of (by rw [h nn (by omega), k2']) (fun j hj => by rcases (by omega : j = 0 ∨ j = 1 ∨ j = 2) with rfl | rfl | rfl <;> rfl), obS.of (s := fun _ => none) (by rw [h (nn + 1) (by omega), h2, paS_n (by omega)]) (fun _ _ => rfl)⟩
    have k2 : (S2 nn).1 = 10 := by rw [k2']
    refine ⟨slS S2 (c + 4) i (some nn), μ2, ?_, ?_, ?_, ob _ (fun z h => slS_ne (by omega)), m2o⟩
    · have hsr : sR (mkH (nn + 2) st S2 μ2) (some (c + 4)) (nI i) (some nn) = some (mkH (nn + 2) st (slS S2 (c + 4) i (some nn)) μ2) := sR_mk (k := 109) (by rw [s2o _ ha]; exact e2) (by omega) (by rw [s2o _ ha, e3]; exact hi) (by rw [s2o _ ha, e3]; omega) (fun v hv => by obtain rfl := Option.some.inj hv; rw [k2]; rfl)
      show b_X2_init_165 (fu + 1) (some c) (nI i) (mkH nn st S μ) = b_X2_init_165 fu (some c) (nI (i + 1)) (mkH (nn + 2) st (slS S2 (c + 4) i (some nn)) μ2)
      simp only [b_X2_init_165, hlt, if_true, g, some_bind, nO_mk sl10 ty10, ← h1, show (mkH nn st S μ).1 = nn from rfl]
      rw [ei, some_bind]
      exact (congrArg (fun o => Option.bind o _) hsr).trans (by rw [some_bind, e1'])
    · rw [slS_at, s2o _ ha, e2, e3]
    · intro z hz hza
      rw [slS_ne hza, s2o z hz]
  · intro fu nn S μ
    have hlt : ¬ nI 8 < (8 : Int32) := by decide
    show b_X2_init_165 (fu + 1) (some c) (nI 8) (mkH nn st S μ) = b_X2_init_192 9 (some c) 0 (mkH nn st S μ)
    simp only [b_X2_init_165, hlt, if_false]
theorem in_192 {Sc : Nat × Nat × (Nat → Option (Option Nat))} (hSc1 : Sc.1 = 2) (hSc : Sc.2.2 9 = some (some (c + 5))) : ∀ k i fu nn (S : SH) (μ : MU), i + k = 8 → k < fu → c + 5 < nn → c < nn → S c = Sc → (S (c + 5)).1 = 103 → (S (c + 5)).2.1 = 8 → ∃ S' μ', b_X2_init_192 fu (some c) (nI i) (mkH nn st S μ) = (fun h => b_X2_init_219 41 (some c) 0 h) (mkH (nn + 1 * k) st S' μ') ∧ (∀ q, q < 8 → (S' (c + 5)).2.2 q = if i ≤ q then some (some (nn + 1 * (q - i))) else (S (c + 5)).2.2 q) ∧ (S' (c + 5)).1 = 103 ∧ (S' (c + 5)).2.1 = 8 ∧ (∀ z, z < nn → ¬ z = c + 5 → S' z = S z) ∧ (∀ q, i ≤ q → q < 8 → (fun (S : SH) (μ : MU) a => nnS S a 1 4) S' μ' (nn + 1 * (q - i))) ∧ (∀ z j, z < nn → μ' z j = μ z j) := by
  refine loopN (c := c) (LOOP := fun fu i h => b_X2_init_192 fu (some c) i h) (TAIL := fun h => b_X2_init_219 41 (some c) 0 h) (w := 1) (Obj := fun (S : SH) (μ : MU) a => nnS S a 1 4) ?_ (by omega) ?_ ?_
  · intro S S' μ μ' a h q
    exact obS.to q (h a (by omega) (by omega)).1
  · intro fu i nn S μ hi ha hc e1 e2 e3
    have g : gR 2 9 (mkH nn st S μ) (some c) = some (some (c + 5)) := gR_mk (by rw [e1]; exact hSc1) (by rw [e1]; exact hSc)
    have e1' : nI i + 1 = nI (i + 1) := nI_add i 1
    have hlt : nI i < (8 : Int32) := nI_lt (b := 8) hi (by omega)
    obtain ⟨S1, h1⟩ : ∃ q, q = upS S nn (1, 4, sl9) := ⟨_, rfl⟩
    have s1n : S1 nn = (1, 4, sl9) := by rw [h1, upS_same]
    have s1o : ∀ z, ¬ z = nn → S1 z = S z := fun z h => by rw [h1, upS_ne h]
    have ei : f_X1_init nn (mkH (nn + 1) st S1 (zeR μ nn)) = some (mkH (nn + 1) st S1 (zeR μ nn)) := rfl
    obtain ⟨S2, h2⟩ : ∃ q, q = S1 := ⟨_, rfl⟩
    obtain ⟨μ2, hm2⟩ : ∃ q, q = zeR μ nn := ⟨_, rfl⟩
    rw [← h2, ← hm2] at ei
    have s2o : ∀ z, z < nn → S2 z = S z := fun z h => by rw [h2, s1o z (by omega)]
    have m2o : ∀ z j, z < nn → μ2 z j = μ z j := fun z j h => by rw [hm2, zeR_ne (by omega)]
    have ob : ∀ S' : SH, (∀ z, nn ≤ z → S' z = S2 z) → nnS S' nn 1 4 := fun S' h => obS.of (s := sl9) (by rw [h nn (by omega), h2, s1n]) (fun _ _ => rfl)
    have k2 : (S2 nn).1 = 1 := by rw [h2, s1n]
    refine ⟨slS S2 (c + 5) i (some nn), μ2, ?_, ?_, ?_, ob _ (fun z h => slS_ne (by omega)), m2o⟩
    · have hsr : sR (mkH (nn + 1) st S2 μ2) (some (c + 5)) (nI i) (some nn) = some (mkH (nn + 1) st (slS S2 (c + 5) i (some nn)) μ2) := sR_mk (k := 103) (by rw [s2o _ ha]; exact e2) (by omega) (by rw [s2o _ ha, e3]; exact hi) (by rw [s2o _ ha, e3]; omega) (fun v hv => by obtain rfl := Option.some.inj hv; rw [k2]; rfl)
      show b_X2_init_192 (fu + 1) (some c) (nI i) (mkH nn st S μ) = b_X2_init_192 fu (some c) (nI (i + 1)) (mkH (nn + 1) st (slS S2 (c + 5) i (some nn)) μ2)
      simp only [b_X2_init_192, hlt, if_true, g, some_bind, nO_mk sl9 ty1, ← h1, show (mkH nn st S μ).1 = nn from rfl]
      rw [← h2, ← hm2, ei, some_bind, hsr, some_bind, e1']
    · rw [slS_at, s2o _ ha, e2, e3]
    · intro z hz hza
      rw [slS_ne hza, s2o z hz]
  · intro fu nn S μ
    have hlt : ¬ nI 8 < (8 : Int32) := by decide
    show b_X2_init_192 (fu + 1) (some c) (nI 8) (mkH nn st S μ) = b_X2_init_219 41 (some c) 0 (mkH nn st S μ)
    simp only [b_X2_init_192, hlt, if_false]
theorem in_219 {Sc : Nat × Nat × (Nat → Option (Option Nat))} (hSc1 : Sc.1 = 2) (hSc : Sc.2.2 11 = some (some (c + 6))) : ∀ k i fu nn (S : SH) (μ : MU), i + k = 40 → k < fu → c + 6 < nn → c < nn → S c = Sc → (S (c + 6)).1 = 107 → (S (c + 6)).2.1 = 40 → ∃ S' μ', b_X2_init_219 fu (some c) (nI i) (mkH nn st S μ) = (fun h => b_X2_init_246 6 (some c) 0 h) (mkH (nn + 1 * k) st S' μ') ∧ (∀ q, q < 40 → (S' (c + 6)).2.2 q = if i ≤ q then some (some (nn + 1 * (q - i))) else (S (c + 6)).2.2 q) ∧ (S' (c + 6)).1 = 107 ∧ (S' (c + 6)).2.1 = 40 ∧ (∀ z, z < nn → ¬ z = c + 6 → S' z = S z) ∧ (∀ q, i ≤ q → q < 40 → (fun (S : SH) (μ : MU) a => nnS S a 8 11) S' μ' (nn + 1 * (q - i))) ∧ (∀ z j, z < nn → μ' z j = μ z j) := by
  refine loopN (c := c) (LOOP := fun fu i h => b_X2_init_219 fu (some c) i h) (TAIL := fun h => b_X2_init_246 6 (some c) 0 h) (w := 1) (Obj := fun (S : SH) (μ : MU) a => nnS S a 8 11) ?_ (by omega) ?_ ?_
  · intro S S' μ μ' a h q
    exact obS.to q (h a (by omega) (by omega)).1
  · intro fu i nn S μ hi ha hc e1 e2 e3
    have g : gR 2 11 (mkH nn st S μ) (some c) = some (some (c + 6)) := gR_mk (by rw [e1]; exact hSc1) (by rw [e1]; exact hSc)
    have e1' : nI i + 1 = nI (i + 1) := nI_add i 1
    have hlt : nI i < (40 : Int32) := nI_lt (b := 40) hi (by omega)
    obtain ⟨S1, h1⟩ : ∃ q, q = upS S nn (8, 11, sl9) := ⟨_, rfl⟩
    have s1n : S1 nn = (8, 11, sl9) := by rw [h1, upS_same]
    have s1o : ∀ z, ¬ z = nn → S1 z = S z := fun z h => by rw [h1, upS_ne h]
    have ei : f_X8_init nn (mkH (nn + 1) st S1 (zeR μ nn)) = some (mkH (nn + 1) st S1 (zeR μ nn)) := rfl
    obtain ⟨S2, h2⟩ : ∃ q, q = S1 := ⟨_, rfl⟩
    obtain ⟨μ2, hm2⟩ : ∃ q, q = zeR μ nn := ⟨_, rfl⟩
    rw [← h2, ← hm2] at ei
    have s2o : ∀ z, z < nn → S2 z = S z := fun z h => by rw [h2, s1o z (by omega)]
    have m2o : ∀ z j, z < nn → μ2 z j = μ z j := fun z j h => by rw [hm2, zeR_ne (by omega)]
    have ob : ∀ S' : SH, (∀ z, nn ≤ z → S' z = S2 z) → nnS S' nn 8 11 := fun S' h => obS.of (s := sl9) (by rw [h nn (by omega), h2, s1n]) (fun _ _ => rfl)
    have k2 : (S2 nn).1 = 8 := by rw [h2, s1n]
    refine ⟨slS S2 (c + 6) i (some nn), μ2, ?_, ?_, ?_, ob _ (fun z h => slS_ne (by omega)), m2o⟩
    · have hsr : sR (mkH (nn + 1) st S2 μ2) (some (c + 6)) (nI i) (some nn) = some (mkH (nn + 1) st (slS S2 (c + 6) i (some nn)) μ2) := sR_mk (k := 107) (by rw [s2o _ ha]; exact e2) (by omega) (by rw [s2o _ ha, e3]; exact hi) (by rw [s2o _ ha, e3]; omega) (fun v hv => by obtain rfl := Option.some.inj hv; rw [k2]; rfl)
      show b_X2_init_219 (fu + 1) (some c) (nI i) (mkH nn st S μ) = b_X2_init_219 fu (some c) (nI (i + 1)) (mkH (nn + 1) st (slS S2 (c + 6) i (some nn)) μ2)
      simp only [b_X2_init_219, hlt, if_true, g, some_bind, nO_mk sl9 ty8, ← h1, show (mkH nn st S μ).1 = nn from rfl]
      rw [← h2, ← hm2, ei, some_bind, hsr, some_bind, e1']
    · rw [slS_at, s2o _ ha, e2, e3]
    · intro z hz hza
      rw [slS_ne hza, s2o z hz]
  · intro fu nn S μ
    have hlt : ¬ nI 40 < (40 : Int32) := by decide
    show b_X2_init_219 (fu + 1) (some c) (nI 40) (mkH nn st S μ) = b_X2_init_246 6 (some c) 0 (mkH nn st S μ)
    simp only [b_X2_init_219, hlt, if_false]
theorem in_246 {Sc : Nat × Nat × (Nat → Option (Option Nat))} (hSc1 : Sc.1 = 2) (hSc : Sc.2.2 13 = some (some (c + 7))) : ∀ k i fu nn (S : SH) (μ : MU), i + k = 5 → k < fu → c + 7 < nn → c < nn → S c = Sc → (S (c + 7)).1 = 104 → (S (c + 7)).2.1 = 5 → ∃ S' μ', b_X2_init_246 fu (some c) (nI i) (mkH nn st S μ) = (fun h => some h) (mkH (nn + 6 * k) st S' μ') ∧ (∀ q, q < 5 → (S' (c + 7)).2.2 q = if i ≤ q then some (some (nn + 6 * (q - i))) else (S (c + 7)).2.2 q) ∧ (S' (c + 7)).1 = 104 ∧ (S' (c + 7)).2.1 = 5 ∧ (∀ z, z < nn → ¬ z = c + 7 → S' z = S z) ∧ (∀ q, i ≤ q → q < 5 → (fun (S : SH) (μ : MU) a => ShL S a ∧ LawI μ a) S' μ' (nn + 6 * (q - i))) ∧ (∀ z j, z < nn → μ' z j = μ z j) := by
  refine loopN (c := c) (LOOP := fun fu i h => b_X2_init_246 fu (some c) i h) (TAIL := fun h => some h) (w := 6) (Obj := fun (S : SH) (μ : MU) a => ShL S a ∧ LawI μ a) ?_ (by omega) ?_ ?_
  · rintro S S' μ μ' a h ⟨q1, q2, q3, q4, q5⟩
    exact ⟨q1.to (fun z g1 g2 => (h z g1 g2).1), by rw [(h a (by omega) (by omega)).2]; exact q2, by rw [(h a (by omega) (by omega)).2]; exact q3, by rw [(h a (by omega) (by omega)).2]; exact q4, fun j hj => by rw [(h (a + 2) (by omega) (by omega)).2]; exact q5 j hj⟩
  · intro fu i nn S μ hi ha hc e1 e2 e3
    have g : gR 2 13 (mkH nn st S μ) (some c) = some (some (c + 7)) := gR_mk (by rw [e1]; exact hSc1) (by rw [e1]; exact hSc)
    have e1' : nI i + 1 = nI (i + 1) := nI_add i 1
    have hlt : ¬ (4 : Int32) < nI i := fun q => by
      have : nI 4 < nI i := q
      simp (disch := omega) only [nn_lt] at this
      omega
    obtain ⟨S1, h1⟩ : ∃ q, q = upS S nn (3, 8, sl3) := ⟨_, rfl⟩
    have s1n : S1 nn = (3, 8, sl3) := by rw [h1, upS_same]
    have s1o : ∀ z, ¬ z = nn → S1 z = S z := fun z h => by rw [h1, upS_ne h]
    obtain ⟨S2, μ2, ei, i1, i2, i3, i4, i5, i6⟩ := k_init3 (st := st) (S := S1) (μ := zeR μ nn) (l := nn) s1n
    have s2o : ∀ z, z < nn → S2 z = S z := fun z h => by rw [i2 z h, s1o z (by omega)]
    have m2o : ∀ z j, z < nn → μ2 z j = μ z j := fun z j h => by rw [i3 z j h, zeR_ne (by omega)]
    have ob : ∀ S' : SH, (∀ z, nn ≤ z → S' z = S2 z) → ShL S' nn ∧ LawI μ2 nn := fun S' h => ⟨i1.to (fun z g1 g2 => h z g1), by rw [i5 0 (by omega), zeR_same], i4, by rw [i5 3 (by omega), zeR_same], i6⟩
    have k2 : (S2 nn).1 = 3 := i1.obj.1
    refine ⟨slS S2 (c + 7) i (some nn), μ2, ?_, ?_, ?_, ob _ (fun z h => slS_ne (by omega)), m2o⟩
    · have hsr : sR (mkH (nn + 6) st S2 μ2) (some (c + 7)) (nI i) (some nn) = some (mkH (nn + 6) st (slS S2 (c + 7) i (some nn)) μ2) := sR_mk (k := 104) (by rw [s2o _ ha]; exact e2) (by omega) (by rw [s2o _ ha, e3]; exact hi) (by rw [s2o _ ha, e3]; omega) (fun v hv => by obtain rfl := Option.some.inj hv; rw [k2]; rfl)
      show b_X2_init_246 (fu + 1) (some c) (nI i) (mkH nn st S μ) = b_X2_init_246 fu (some c) (nI (i + 1)) (mkH (nn + 6) st (slS S2 (c + 7) i (some nn)) μ2)
      simp only [b_X2_init_246, hlt, if_false, g, some_bind, nO_mk sl3 ty3, ← h1, show (mkH nn st S μ).1 = nn from rfl]
      rw [ei, some_bind]
      exact (congrArg (fun o => Option.bind o _) hsr).trans (by rw [some_bind, e1'])
    · rw [slS_at, s2o _ ha, e2, e3]
    · intro z hz hza
      rw [slS_ne hza, s2o z hz]
  · intro fu nn S μ
    have hlt : (4 : Int32) < nI 5 := by decide
    show b_X2_init_246 (fu + 1) (some c) (nI 5) (mkH nn st S μ) = some (mkH nn st S μ)
    simp only [b_X2_init_246, hlt, if_true]
end INIT
