-- ===== a city is made; keep =====
def clM (μ : MU) (a n : Nat) : MU := fun z i => if z = n then μ a i else μ z i
section CITY
variable {n : Nat} {st : Nat → Nat} {S S' : SH} {μ μ' : MU} {x b c j k K B q l : Nat} {sl s : Nat → Option (Option Nat)} {D : DR}
theorem clM_n {a i : Nat} : clM μ a n n i = μ a i := by simp [clM]
theorem clM_o {a z i : Nat} (h : ¬ z = n) : clM μ a n z i = μ z i := by simp [clM, h]
theorem clA_mk {a L B : Nat} (h : nnS S a 200 L) (hB : L ≤ B) : clA (mkH n st S μ) (some a) B = some (mkH (n + 1) st (upS S n (100, L, (S a).2.2)) (clM μ a n)) := by
  obtain ⟨h1, h2, h3⟩ := h
  have hall : allI ((mkH n st S μ).2.1 a).2.2 0 L = true := allI_mk L (fun i hi => ⟨μ a i, by
    show slV ((S a).2.2 (0 + i)) (μ a (0 + i)) = _
    rw [Nat.zero_add, h3 i hi]
    rfl⟩)
  have e1 : ((mkH n st S μ).2.1 a).1 = 200 := h1
  have e2 : ((mkH n st S μ).2.1 a).2.1 = L := h2
  simp only [clA]
  rw [if_pos ⟨by rw [e1]; omega, by rw [e2]; exact hB, by rw [e2]; exact hall⟩, e2]
  refine congrArg some (Prod.ext rfl (Prod.ext (funext fun z => ?_) rfl))
  by_cases hz : z = n
  · subst hz
    simp [hnew, va_up, mkH, upS, clM]
  · simp [hnew, va_up, mkH, upS, clM, hz]
def nmS (S : SH) (n : Nat) : SH := upS (upS (upS S n (102, 2, fun j => some (some (n + 1 + j)))) (n + 1) (100, 5, fun _ => none)) (n + 2) (100, 5, fun _ => none)
theorem nM_mk : nM (mkH n st S μ) = some (mkH (n + 3) st (nmS S n) (zeR (zeR μ (n + 1)) (n + 2))) := by
  unfold nM
  refine congrArg some (Prod.ext rfl (Prod.ext (funext fun z => ?_) rfl))
  by_cases h2 : z = n + 2
  · subst h2
    simp [va_up, mkH, nmS, upS, zeR, slV]
  · by_cases h1 : z = n + 1
    · subst h1
      simp [va_up, mkH, nmS, upS, zeR, slV]
    · by_cases h0 : z = n
      · subst h0
        have q1 : ¬ z = z + 2 := by omega
        have q2 : ¬ z = z + 1 := by omega
        simp [va_up, mkH, nmS, upS, zeR]
        rfl
      · simp [va_up, mkH, nmS, upS, zeR, h0, h1, h2]
theorem k_init2 (e0 : S c = (2, 20, sl2)) (hB : BaseOK st S μ x b) (hx : x ≤ c) (hz : ∀ j, μ c j = 0) : ∃ S' μ', f_X2_init c (mkH (c + 1) st S μ) = some (mkH (c + 148) st S' μ') ∧ ShC S' c ∧ (∀ z, z < c → S' z = S z) ∧ (∀ z j, z < c → μ' z j = μ z j) ∧ (∀ j, ¬ j = 14 → μ' c j = 0) ∧ μ' c 14 = -1 ∧ (∀ q v, (stV 0)[q]? = some v → μ' (c + 8) q = v) ∧ (∀ t j, t < 2 → μ' (c + 10 + t) j = 0) ∧ (∀ i, i < 5 → LawI μ' (c + 118 + 6 * i)) := by
  obtain ⟨bs1, bs2, bs3⟩ := hB.2.1 0 (by omega)
  have bs2' : nnS S (st 0) 200 4 := bs2
  obtain ⟨f0, hf0⟩ : ∃ g, g = sl2 := ⟨_, rfl⟩
  rw [← hf0] at e0
  obtain ⟨S0, hS0⟩ : ∃ q, q = S := ⟨_, rfl⟩
  rw [← hS0] at e0 bs2' ⊢
  obtain ⟨v0, hv0⟩ : ∃ q, q = μ := ⟨_, rfl⟩
  rw [← hv0] at hz bs3 ⊢
  obtain ⟨S1, hS1⟩ : ∃ q, q = paS S0 c 1 (c + 1) 100 20 (fun _ => none) := ⟨_, rfl⟩
  obtain ⟨f1, hf1⟩ : ∃ g : Nat → Option (Option Nat), g = fun i => if i = 1 then some (some (c + 1)) else f0 i := ⟨_, rfl⟩
  have e1 : S1 c = (2, 20, f1) := by rw [hS1, paS_c (by omega) e0, hf1]
  have m1 : S1 (c + 1) = (100, 20, fun _ => none) := by rw [hS1, paS_n (by omega)]
  have o1 : ∀ z, ¬ z = c → ¬ z = c + 1 → S1 z = S0 z := fun z h1 h2 => by rw [hS1, paS_o h1 h2]
  obtain ⟨v1, hv1⟩ : ∃ q, q = zeR v0 (c + 1) := ⟨_, rfl⟩
  obtain ⟨S2, hS2⟩ : ∃ q, q = paS S1 c 3 (c + 2) 108 8 (fun _ => some none) := ⟨_, rfl⟩
  obtain ⟨f2, hf2⟩ : ∃ g : Nat → Option (Option Nat), g = fun i => if i = 3 then some (some (c + 2)) else f1 i := ⟨_, rfl⟩
  have e2 : S2 c = (2, 20, f2) := by rw [hS2, paS_c (by omega) e1, hf2]
  have m2 : S2 (c + 2) = (108, 8, fun _ => some none) := by rw [hS2, paS_n (by omega)]
  have o2 : ∀ z, ¬ z = c → ¬ z = c + 2 → S2 z = S1 z := fun z h1 h2 => by rw [hS2, paS_o h1 h2]
  obtain ⟨v2, hv2⟩ : ∃ q, q = zeR v1 (c + 2) := ⟨_, rfl⟩
  obtain ⟨S3, hS3⟩ : ∃ q, q = paS S2 c 5 (c + 3) 105 16 (fun _ => some none) := ⟨_, rfl⟩
  obtain ⟨f3, hf3⟩ : ∃ g : Nat → Option (Option Nat), g = fun i => if i = 5 then some (some (c + 3)) else f2 i := ⟨_, rfl⟩
  have e3 : S3 c = (2, 20, f3) := by rw [hS3, paS_c (by omega) e2, hf3]
  have m3 : S3 (c + 3) = (105, 16, fun _ => some none) := by rw [hS3, paS_n (by omega)]
  have o3 : ∀ z, ¬ z = c → ¬ z = c + 3 → S3 z = S2 z := fun z h1 h2 => by rw [hS3, paS_o h1 h2]
  obtain ⟨v3, hv3⟩ : ∃ q, q = zeR v2 (c + 3) := ⟨_, rfl⟩
  obtain ⟨S4, hS4⟩ : ∃ q, q = paS S3 c 7 (c + 4) 109 8 (fun _ => some none) := ⟨_, rfl⟩
  obtain ⟨f4, hf4⟩ : ∃ g : Nat → Option (Option Nat), g = fun i => if i = 7 then some (some (c + 4)) else f3 i := ⟨_, rfl⟩
  have e4 : S4 c = (2, 20, f4) := by rw [hS4, paS_c (by omega) e3, hf4]
  have m4 : S4 (c + 4) = (109, 8, fun _ => some none) := by rw [hS4, paS_n (by omega)]
  have o4 : ∀ z, ¬ z = c → ¬ z = c + 4 → S4 z = S3 z := fun z h1 h2 => by rw [hS4, paS_o h1 h2]
  obtain ⟨v4, hv4⟩ : ∃ q, q = zeR v3 (c + 4) := ⟨_, rfl⟩
  obtain ⟨S5, hS5⟩ : ∃ q, q = paS S4 c 9 (c + 5) 103 8 (fun _ => some none) := ⟨_, rfl⟩
  obtain ⟨f5, hf5⟩ : ∃ g : Nat → Option (Option Nat), g = fun i => if i = 9 then some (some (c + 5)) else f4 i := ⟨_, rfl⟩
  have e5 : S5 c = (2, 20, f5) := by rw [hS5, paS_c (by omega) e4, hf5]
  have m5 : S5 (c + 5) = (103, 8, fun _ => some none) := by rw [hS5, paS_n (by omega)]
  have o5 : ∀ z, ¬ z = c → ¬ z = c + 5 → S5 z = S4 z := fun z h1 h2 => by rw [hS5, paS_o h1 h2]
  obtain ⟨v5, hv5⟩ : ∃ q, q = zeR v4 (c + 5) := ⟨_, rfl⟩
  obtain ⟨S6, hS6⟩ : ∃ q, q = paS S5 c 11 (c + 6) 107 40 (fun _ => some none) := ⟨_, rfl⟩
  obtain ⟨f6, hf6⟩ : ∃ g : Nat → Option (Option Nat), g = fun i => if i = 11 then some (some (c + 6)) else f5 i := ⟨_, rfl⟩
  have e6 : S6 c = (2, 20, f6) := by rw [hS6, paS_c (by omega) e5, hf6]
  have m6 : S6 (c + 6) = (107, 40, fun _ => some none) := by rw [hS6, paS_n (by omega)]
  have o6 : ∀ z, ¬ z = c → ¬ z = c + 6 → S6 z = S5 z := fun z h1 h2 => by rw [hS6, paS_o h1 h2]
  obtain ⟨v6, hv6⟩ : ∃ q, q = zeR v5 (c + 6) := ⟨_, rfl⟩
  obtain ⟨S7, hS7⟩ : ∃ q, q = paS S6 c 13 (c + 7) 104 5 (fun _ => some none) := ⟨_, rfl⟩
  obtain ⟨f7, hf7⟩ : ∃ g : Nat → Option (Option Nat), g = fun i => if i = 13 then some (some (c + 7)) else f6 i := ⟨_, rfl⟩
  have e7 : S7 c = (2, 20, f7) := by rw [hS7, paS_c (by omega) e6, hf7]
  have m7 : S7 (c + 7) = (104, 5, fun _ => some none) := by rw [hS7, paS_n (by omega)]
  have o7 : ∀ z, ¬ z = c → ¬ z = c + 7 → S7 z = S6 z := fun z h1 h2 => by rw [hS7, paS_o h1 h2]
  obtain ⟨v7, hv7⟩ : ∃ q, q = zeR v6 (c + 7) := ⟨_, rfl⟩
  obtain ⟨v8, hv8⟩ : ∃ q, q = clM (up2 v7 c 14 (-1)) (st 0) (c + 8) := ⟨_, rfl⟩
  obtain ⟨S8', hS8'⟩ : ∃ q, q = upS S7 (c + 8) (100, 4, (S7 (st 0)).2.2) := ⟨_, rfl⟩
  obtain ⟨S8, hS8⟩ : ∃ q, q = slS S8' c 15 (some (c + 8)) := ⟨_, rfl⟩
  obtain ⟨f8, hf8⟩ : ∃ g : Nat → Option (Option Nat), g = fun i => if i = 15 then some (some (c + 8)) else f7 i := ⟨_, rfl⟩
  have st7 : S7 (st 0) = S0 (st 0) := by simp (disch := omega) only [o7, o6, o5, o4, o3, o2, o1]
  have e8' : S8' c = (2, 20, f7) := by rw [hS8', upS_ne (by omega), e7]
  have e8 : S8 c = (2, 20, f8) := by rw [hS8, slS_at, e8', hf8]
  have m8 : S8 (c + 8) = (100, 4, (S0 (st 0)).2.2) := by rw [hS8, slS_ne (by omega), hS8', upS_same, st7]
  have o8 : ∀ z, ¬ z = c → ¬ z = c + 8 → S8 z = S7 z := fun z h1 h2 => by rw [hS8, slS_ne h1, hS8', upS_ne h2]
  obtain ⟨S9', hS9'⟩ : ∃ q, q = nmS S8 (c + 9) := ⟨_, rfl⟩
  obtain ⟨S9, hS9⟩ : ∃ q, q = slS S9' c 16 (some (c + 9)) := ⟨_, rfl⟩
  obtain ⟨f9, hf9⟩ : ∃ g : Nat → Option (Option Nat), g = fun i => if i = 16 then some (some (c + 9)) else f8 i := ⟨_, rfl⟩
  obtain ⟨v9, hv9⟩ : ∃ q, q = zeR (zeR v8 (c + 9 + 1)) (c + 9 + 2) := ⟨_, rfl⟩
  have e9' : S9' c = (2, 20, f8) := by rw [hS9', nmS, upS_ne (by omega), upS_ne (by omega), upS_ne (by omega), e8]
  have e9 : S9 c = (2, 20, f9) := by rw [hS9, slS_at, e9', hf9]
  have m9 : S9 (c + 9) = (102, 2, fun j => some (some (c + 9 + 1 + j))) := by rw [hS9, slS_ne (by omega), hS9', nmS, upS_ne (by omega), upS_ne (by omega), upS_same]
  have m10 : S9 (c + 10) = (100, 5, fun _ => none) := by rw [hS9, slS_ne (by omega), hS9', nmS, upS_ne (by omega), show c + 10 = c + 9 + 1 from rfl, upS_same]
  have m11 : S9 (c + 11) = (100, 5, fun _ => none) := by rw [hS9, slS_ne (by omega), hS9', nmS, show c + 11 = c + 9 + 2 from rfl, upS_same]
  have o9 : ∀ z, ¬ z = c → ¬ z = c + 9 → ¬ z = c + 10 → ¬ z = c + 11 → S9 z = S8 z := fun z h1 h2 h3 h4 => by rw [hS9, slS_ne h1, hS9', nmS, upS_ne (by omega), upS_ne (by omega), upS_ne (by omega)]
  obtain ⟨S12, hS12⟩ : ∃ q, q = paS S9 c 17 (c + 12) 100 9 (fun _ => none) := ⟨_, rfl⟩
  obtain ⟨f12, hf12⟩ : ∃ g : Nat → Option (Option Nat), g = fun i => if i = 17 then some (some (c + 12)) else f9 i := ⟨_, rfl⟩
  have e12 : S12 c = (2, 20, f12) := by rw [hS12, paS_c (by omega) e9, hf12]
  have m12 : S12 (c + 12) = (100, 9, fun _ => none) := by rw [hS12, paS_n (by omega)]
  have o12 : ∀ z, ¬ z = c → ¬ z = c + 12 → S12 z = S9 z := fun z h1 h2 => by rw [hS12, paS_o h1 h2]
  obtain ⟨v12, hv12⟩ : ∃ q, q = zeR v9 (c + 12) := ⟨_, rfl⟩
  obtain ⟨S13, hS13⟩ : ∃ q, q = paS S12 c 19 (c + 13) 100 7 (fun _ => none) := ⟨_, rfl⟩
  obtain ⟨f13, hf13⟩ : ∃ g : Nat → Option (Option Nat), g = fun i => if i = 19 then some (some (c + 13)) else f12 i := ⟨_, rfl⟩
  have e13 : S13 c = (2, 20, f13) := by rw [hS13, paS_c (by omega) e12, hf13]
  have m13 : S13 (c + 13) = (100, 7, fun _ => none) := by rw [hS13, paS_n (by omega)]
  have o13 : ∀ z, ¬ z = c → ¬ z = c + 13 → S13 z = S12 z := fun z h1 h2 => by rw [hS13, paS_o h1 h2]
  obtain ⟨v13, hv13⟩ : ∃ q, q = zeR v12 (c + 13) := ⟨_, rfl⟩
  have p1 : S13 (c + 2) = (108, 8, fun _ => some none) := by simp (disch := omega) only [o13, o12, o9, o8, o7, o6, o5, o4, o3, m2]
  obtain ⟨T1, u1, a1, r1, k1, n1, t1, ob1, w1⟩ := in_111 (st := st) (c := c) (Sc := (2, 20, f13)) rfl (by simp only [hf13, hf12, hf9, hf8, hf7, hf6, hf5, hf4, hf3, hf2, hf1]; rfl) 8 0 9 (c + 14) S13 v13 (by omega) (by omega) (by omega) (by omega) e13 (by rw [p1]) (by rw [p1])
  have c1 : T1 c = (2, 20, f13) := by rw [t1 c (by omega) (by omega), e13]
  have z1 : nI 0 = (0 : Int32) := rfl
  have p2 : T1 (c + 3) = (105, 16, fun _ => some none) := by simp (disch := omega) only [t1, o13, o12, o9, o8, o7, o6, o5, o4, m3]
  obtain ⟨T2, u2, a2, r2, k2, n2, t2, ob2, w2⟩ := in_138 (st := st) (c := c) (Sc := (2, 20, f13)) rfl (by simp only [hf13, hf12, hf9, hf8, hf7, hf6, hf5, hf4, hf3, hf2, hf1]; rfl) 16 0 17 (c + 22) T1 u1 (by omega) (by omega) (by omega) (by omega) c1 (by rw [p2]) (by rw [p2])
  have c2 : T2 c = (2, 20, f13) := by rw [t2 c (by omega) (by omega), c1]
  have z2 : nI 0 = (0 : Int32) := rfl
  have p3 : T2 (c + 4) = (109, 8, fun _ => some none) := by simp (disch := omega) only [t2, t1, o13, o12, o9, o8, o7, o6, o5, m4]
  obtain ⟨T3, u3, a3, r3, k3, n3, t3, ob3, w3⟩ := in_165 (st := st) (c := c) (Sc := (2, 20, f13)) rfl (by simp only [hf13, hf12, hf9, hf8, hf7, hf6, hf5, hf4, hf3, hf2, hf1]; rfl) 8 0 9 (c + 54) T2 u2 (by omega) (by omega) (by omega) (by omega) c2 (by rw [p3]) (by rw [p3])
  have c3 : T3 c = (2, 20, f13) := by rw [t3 c (by omega) (by omega), c2]
  have z3 : nI 0 = (0 : Int32) := rfl
  have p4 : T3 (c + 5) = (103, 8, fun _ => some none) := by simp (disch := omega) only [t3, t2, t1, o13, o12, o9, o8, o7, o6, m5]
  obtain ⟨T4, u4, a4, r4, k4, n4, t4, ob4, w4⟩ := in_192 (st := st) (c := c) (Sc := (2, 20, f13)) rfl (by simp only [hf13, hf12, hf9, hf8, hf7, hf6, hf5, hf4, hf3, hf2, hf1]; rfl) 8 0 9 (c + 70) T3 u3 (by omega) (by omega) (by omega) (by omega) c3 (by rw [p4]) (by rw [p4])
  have c4 : T4 c = (2, 20, f13) := by rw [t4 c (by omega) (by omega), c3]
  have z4 : nI 0 = (0 : Int32) := rfl
  have p5 : T4 (c + 6) = (107, 40, fun _ => some none) := by simp (disch := omega) only [t4, t3, t2, t1, o13, o12, o9, o8, o7, m6]
  obtain ⟨T5, u5, a5, r5, k5, n5, t5, ob5, w5⟩ := in_219 (st := st) (c := c) (Sc := (2, 20, f13)) rfl (by simp only [hf13, hf12, hf9, hf8, hf7, hf6, hf5, hf4, hf3, hf2, hf1]; rfl) 40 0 41 (c + 78) T4 u4 (by omega) (by omega) (by omega) (by omega) c4 (by rw [p5]) (by rw [p5])
  have c5 : T5 c = (2, 20, f13) := by rw [t5 c (by omega) (by omega), c4]
  have z5 : nI 0 = (0 : Int32) := rfl
  have p6 : T5 (c + 7) = (104, 5, fun _ => some none) := by simp (disch := omega) only [t5, t4, t3, t2, t1, o13, o12, o9, o8, m7]
  obtain ⟨T6, u6, a6, r6, k6, n6, t6, ob6, w6⟩ := in_246 (st := st) (c := c) (Sc := (2, 20, f13)) rfl (by simp only [hf13, hf12, hf9, hf8, hf7, hf6, hf5, hf4, hf3, hf2, hf1]; rfl) 5 0 6 (c + 118) T5 u5 (by omega) (by omega) (by omega) (by omega) c5 (by rw [p6]) (by rw [p6])
  have c6 : T6 c = (2, 20, f13) := by rw [t6 c (by omega) (by omega), c5]
  have z6 : nI 0 = (0 : Int32) := rfl
  refine ⟨T6, u6, ?_, ?_, ?_, ?_, ?_, ?_, ?_, ?_, ?_⟩
  · unfold f_X2_init
    refine (pairI (S := S0) (c := c) (k := 2) (j := 1) (n := c + 1) (K := 100) (B := 20) (q := 20) (by rw [e0]) (by omega) (by omega) (by omega)).trans ?_
    rw [← hS1, ← hv1]
    refine (pairN (S := S1) (c := c) (k := 2) (j := 3) (n := c + 2) (K := 108) (B := 8) (q := 8) (by rw [e1]) (by omega) (by omega) (by omega)).trans ?_
    rw [← hS2, ← hv2]
    refine (pairN (S := S2) (c := c) (k := 2) (j := 5) (n := c + 3) (K := 105) (B := 16) (q := 16) (by rw [e2]) (by omega) (by omega) (by omega)).trans ?_
    rw [← hS3, ← hv3]
    refine (pairN (S := S3) (c := c) (k := 2) (j := 7) (n := c + 4) (K := 109) (B := 8) (q := 8) (by rw [e3]) (by omega) (by omega) (by omega)).trans ?_
    rw [← hS4, ← hv4]
    refine (pairN (S := S4) (c := c) (k := 2) (j := 9) (n := c + 5) (K := 103) (B := 8) (q := 8) (by rw [e4]) (by omega) (by omega) (by omega)).trans ?_
    rw [← hS5, ← hv5]
    refine (pairN (S := S5) (c := c) (k := 2) (j := 11) (n := c + 6) (K := 107) (B := 40) (q := 40) (by rw [e5]) (by omega) (by omega) (by omega)).trans ?_
    rw [← hS6, ← hv6]
    refine (pairN (S := S6) (c := c) (k := 2) (j := 13) (n := c + 7) (K := 104) (B := 5) (q := 5) (by rw [e6]) (by omega) (by omega) (by omega)).trans ?_
    rw [← hS7, ← hv7]
    have i14 : pI 2 14 (mkH (c + 7 + 1) st S7 v7) (some c) (-1) = some (mkH (c + 8) st S7 (up2 v7 c 14 (-1))) := pI_mk (by rw [e7]) (by rw [e7]; simp only [hf7, hf6, hf5, hf4, hf3, hf2, hf1, hf0]; rfl)
    have hcl : clA (mkH (c + 8) st S7 (up2 v7 c 14 (-1))) (some (st 0)) 4 = some (mkH (c + 9) st S8' v8) := by
      rw [hS8', hv8]
      exact clA_mk (bs2'.to st7) (by omega)
    have k8 : ((mkH (c + 9) st S8' v8).2.1 (c + 8)).1 = 100 := by
      show (S8' (c + 8)).1 = 100
      rw [hS8', upS_same]
    have q15 : pR 2 15 (mkH (c + 9) st S8' v8) (some c) (some (c + 8)) = some (mkH (c + 9) st S8 v8) := by
      rw [hS8]
      exact pR_mk (by rw [e8'])
    have hnm : nM (mkH (c + 9) st S8 v8) = some (mkH (c + 12) st S9' v9) := by
      rw [hS9', hv9]
      exact nM_mk
    have q16 : pR 2 16 (mkH (c + 12) st S9' v9) (some c) (some (c + 9)) = some (mkH (c + 12) st S9 v9) := by
      rw [hS9]
      exact pR_mk (by rw [e9'])
    rw [i14, some_bind, show (mkH (c + 8) st S7 (up2 v7 c 14 (-1))).2.2 0 = st 0 from rfl, hcl, some_bind]
    simp only [show (mkH (c + 8) st S7 (up2 v7 c 14 (-1))).1 = c + 8 from rfl, k8, if_true, q15, some_bind, hnm, show (mkH (c + 9) st S8 v8).1 = c + 9 from rfl, q16]
    refine (pairI (S := S9) (c := c) (k := 2) (j := 17) (n := c + 12) (K := 100) (B := 9) (q := 9) (by rw [e9]) (by omega) (by omega) (by omega)).trans ?_
    rw [← hS12, ← hv12]
    refine (pairI (S := S12) (c := c) (k := 2) (j := 19) (n := c + 13) (K := 100) (B := 7) (q := 7) (by rw [e12]) (by omega) (by omega) (by omega)).trans ?_
    rw [← hS13, ← hv13]
    refine a1.trans (Eq.trans ?_ a6)
    refine Eq.trans (show _ = b_X2_init_138 17 (some c) (nI 0) (mkH (c + 22) st T1 u1) from rfl) (a2.trans ?_)
    refine Eq.trans (show _ = b_X2_init_165 9 (some c) (nI 0) (mkH (c + 54) st T2 u2) from rfl) (a3.trans ?_)
    refine Eq.trans (show _ = b_X2_init_192 9 (some c) (nI 0) (mkH (c + 70) st T3 u3) from rfl) (a4.trans ?_)
    refine Eq.trans (show _ = b_X2_init_219 41 (some c) (nI 0) (mkH (c + 78) st T4 u4) from rfl) (a5.trans ?_)
    rfl
  · have F : ∀ j, f13 j = if j = 19 then some (some (c + 13)) else if j = 17 then some (some (c + 12)) else if j = 16 then some (some (c + 9)) else if j = 15 then some (some (c + 8)) else if j = 13 then some (some (c + 7)) else if j = 11 then some (some (c + 6)) else if j = 9 then some (some (c + 5)) else if j = 7 then some (some (c + 4)) else if j = 5 then some (some (c + 3)) else if j = 3 then some (some (c + 2)) else if j = 1 then some (some (c + 1)) else sl2 j := fun j => by simp only [hf13, hf12, hf9, hf8, hf7, hf6, hf5, hf4, hf3, hf2, hf1, hf0]
    have x1 : T6 (c + 2) = T1 (c + 2) := (by simp (disch := omega) only [t6, t5, t4, t3, t2])
    have y1 : rrS T6 (c + 2) 108 8 (fun j => c + 14 + j) := ⟨by rw [x1]; exact k1, by rw [x1]; exact n1, fun j hj => by rw [x1, r1 j hj, if_pos (by omega), show c + 14 + 1 * (j - 0) = c + 14 + j by omega]⟩
    have g1 : ∀ q, q < 8 → nnS T6 (c + 14 + q) 9 4 := fun q hq => by
      have h := ob1 q (by omega) hq
      rw [show c + 14 + 1 * (q - 0) = c + 14 + q by omega] at h
      exact obS.to h (by simp (disch := omega) only [t6, t5, t4, t3, t2])
    have x2 : T6 (c + 3) = T2 (c + 3) := (by simp (disch := omega) only [t6, t5, t4, t3])
    have y2 : rrS T6 (c + 3) 105 16 (fun j => c + 22 + 2 * j) := ⟨by rw [x2]; exact k2, by rw [x2]; exact n2, fun j hj => by rw [x2, r2 j hj, if_pos (by omega), show c + 22 + 2 * (j - 0) = c + 22 + 2 * j by omega]⟩
    have g2 : ∀ q, q < 16 → obS T6 (c + 22 + 2 * q) 5 10 (slMan (c + 22 + 2 * q)) ∧ nnS T6 (c + 22 + 2 * q + 1) 100 16 := fun q hq => by
      have h := ob2 q (by omega) hq
      rw [show c + 22 + 2 * (q - 0) = c + 22 + 2 * q by omega] at h
      exact ⟨obS.to h.1 (by simp (disch := omega) only [t6, t5, t4, t3]), obS.to h.2 (by simp (disch := omega) only [t6, t5, t4, t3])⟩
    have x3 : T6 (c + 4) = T3 (c + 4) := (by simp (disch := omega) only [t6, t5, t4])
    have y3 : rrS T6 (c + 4) 109 8 (fun j => c + 54 + 2 * j) := ⟨by rw [x3]; exact k3, by rw [x3]; exact n3, fun j hj => by rw [x3, r3 j hj, if_pos (by omega), show c + 54 + 2 * (j - 0) = c + 54 + 2 * j by omega]⟩
    have g3 : ∀ q, q < 8 → obS T6 (c + 54 + 2 * q) 10 3 (slWord (c + 54 + 2 * q)) ∧ nnS T6 (c + 54 + 2 * q + 1) 100 16 := fun q hq => by
      have h := ob3 q (by omega) hq
      rw [show c + 54 + 2 * (q - 0) = c + 54 + 2 * q by omega] at h
      exact ⟨obS.to h.1 (by simp (disch := omega) only [t6, t5, t4]), obS.to h.2 (by simp (disch := omega) only [t6, t5, t4])⟩
    have x4 : T6 (c + 5) = T4 (c + 5) := (by simp (disch := omega) only [t6, t5])
    have y4 : rrS T6 (c + 5) 103 8 (fun j => c + 70 + j) := ⟨by rw [x4]; exact k4, by rw [x4]; exact n4, fun j hj => by rw [x4, r4 j hj, if_pos (by omega), show c + 70 + 1 * (j - 0) = c + 70 + j by omega]⟩
    have g4 : ∀ q, q < 8 → nnS T6 (c + 70 + q) 1 4 := fun q hq => by
      have h := ob4 q (by omega) hq
      rw [show c + 70 + 1 * (q - 0) = c + 70 + q by omega] at h
      exact obS.to h (by simp (disch := omega) only [t6, t5])
    have x5 : T6 (c + 6) = T5 (c + 6) := (by simp (disch := omega) only [t6])
    have y5 : rrS T6 (c + 6) 107 40 (fun j => c + 78 + j) := ⟨by rw [x5]; exact k5, by rw [x5]; exact n5, fun j hj => by rw [x5, r5 j hj, if_pos (by omega), show c + 78 + 1 * (j - 0) = c + 78 + j by omega]⟩
    have g5 : ∀ q, q < 40 → nnS T6 (c + 78 + q) 8 11 := fun q hq => by
      have h := ob5 q (by omega) hq
      rw [show c + 78 + 1 * (q - 0) = c + 78 + q by omega] at h
      exact obS.to h (by simp (disch := omega) only [t6])
    have x6 : T6 (c + 7) = T6 (c + 7) := rfl
    have y6 : rrS T6 (c + 7) 104 5 (fun j => c + 118 + 6 * j) := ⟨by rw [x6]; exact k6, by rw [x6]; exact n6, fun j hj => by rw [x6, r6 j hj, if_pos (by omega), show c + 118 + 6 * (j - 0) = c + 118 + 6 * j by omega]⟩
    have g6 : ∀ q, q < 5 → ShL T6 (c + 118 + 6 * q) := fun q hq => by
      have h := ob6 q (by omega) hq
      rw [show c + 118 + 6 * (q - 0) = c + 118 + 6 * q by omega] at h
      exact h.1
    refine ⟨obS.of c6 (fun j hj => ?_), obS.of (s := fun _ => none) (by simp (disch := omega) only [t6, t5, t4, t3, t2, t1, o13, o12, o9, o8, o7, o6, o5, o4, o3, o2, m1]) (fun _ _ => rfl), y1, y2, y3, y4, y5, y6, obS.of (s := (S0 (st 0)).2.2) (by simp (disch := omega) only [t6, t5, t4, t3, t2, t1, o13, o12, o9, m8]) (fun j hj => bs2'.2.2 j hj), obS.of (s := fun j => some (some (c + 9 + 1 + j))) (by simp (disch := omega) only [t6, t5, t4, t3, t2, t1, o13, o12, m9]) (fun j hj => by rw [show c + 9 + 1 + j = c + 10 + j by omega]), fun i hi => ?_, obS.of (s := fun _ => none) (by simp (disch := omega) only [t6, t5, t4, t3, t2, t1, o13, m12]) (fun _ _ => rfl), obS.of (s := fun _ => none) (by simp (disch := omega) only [t6, t5, t4, t3, t2, t1, m13]) (fun _ _ => rfl), g1, fun q hq => (g2 q hq).1, fun q hq => (g2 q hq).2, fun q hq => (g3 q hq).1, fun q hq => (g3 q hq).2, g4, g5, g6⟩
    · rw [F j]
      rcases (by omega : j = 0 ∨ j = 1 ∨ j = 2 ∨ j = 3 ∨ j = 4 ∨ j = 5 ∨ j = 6 ∨ j = 7 ∨ j = 8 ∨ j = 9 ∨ j = 10 ∨ j = 11 ∨ j = 12 ∨ j = 13 ∨ j = 14 ∨ j = 15 ∨ j = 16 ∨ j = 17 ∨ j = 18 ∨ j = 19) with rfl | rfl | rfl | rfl | rfl | rfl | rfl | rfl | rfl | rfl | rfl | rfl | rfl | rfl | rfl | rfl | rfl | rfl | rfl | rfl <;> rfl
    · rcases (by omega : i = 0 ∨ i = 1) with rfl | rfl
      · exact obS.of (s := fun _ => none) (by simp (disch := omega) only [Nat.add_zero, t6, t5, t4, t3, t2, t1, o13, o12, m10]) (fun _ _ => rfl)
      · exact obS.of (s := fun _ => none) (by rw [show c + 10 + 1 = c + 11 from rfl]; simp (disch := omega) only [t6, t5, t4, t3, t2, t1, o13, o12, m11]) (fun _ _ => rfl)
  · intro z hz
    simp (disch := omega) only [t6, t5, t4, t3, t2, t1, o13, o12, o9, o8, o7, o6, o5, o4, o3, o2, o1]
  · intro z j hz
    rw [w6 z j (by omega), w5 z j (by omega), w4 z j (by omega), w3 z j (by omega), w2 z j (by omega), w1 z j (by omega)]
    rw [hv13, zeR_ne (by omega), hv12, zeR_ne (by omega), hv9, zeR_ne (by omega), zeR_ne (by omega), hv8, clM_o (by omega), up2_ne (by omega), hv7, zeR_ne (by omega), hv6, zeR_ne (by omega), hv5, zeR_ne (by omega), hv4, zeR_ne (by omega), hv3, zeR_ne (by omega), hv2, zeR_ne (by omega), hv1, zeR_ne (by omega)]
  · intro j hj
    rw [w6 _ j (by omega), w5 _ j (by omega), w4 _ j (by omega), w3 _ j (by omega), w2 _ j (by omega), w1 _ j (by omega)]
    rw [hv13, zeR_ne (by omega), hv12, zeR_ne (by omega), hv9, zeR_ne (by omega), zeR_ne (by omega), hv8, clM_o (by omega), up2_ne (by omega), hv7, zeR_ne (by omega), hv6, zeR_ne (by omega), hv5, zeR_ne (by omega), hv4, zeR_ne (by omega), hv3, zeR_ne (by omega), hv2, zeR_ne (by omega), hv1, zeR_ne (by omega), hz]
  · rw [w6 _ _ (by omega), w5 _ _ (by omega), w4 _ _ (by omega), w3 _ _ (by omega), w2 _ _ (by omega), w1 _ _ (by omega)]
    rw [hv13, zeR_ne (by omega), hv12, zeR_ne (by omega), hv9, zeR_ne (by omega), zeR_ne (by omega), hv8, clM_o (by omega), up2_same]
  · intro q v hv
    rw [w6 _ _ (by omega), w5 _ _ (by omega), w4 _ _ (by omega), w3 _ _ (by omega), w2 _ _ (by omega), w1 _ _ (by omega)]
    rw [hv13, zeR_ne (by omega), hv12, zeR_ne (by omega), hv9, zeR_ne (by omega), zeR_ne (by omega), hv8, clM_n, up2_ne (by omega), hv7, zeR_ne (by omega), hv6, zeR_ne (by omega), hv5, zeR_ne (by omega), hv4, zeR_ne (by omega), hv3, zeR_ne (by omega), hv2, zeR_ne (by omega), hv1, zeR_ne (by omega)]
    exact bs3 q v hv
  · intro t j ht
    rw [w6 _ _ (by omega), w5 _ _ (by omega), w4 _ _ (by omega), w3 _ _ (by omega), w2 _ _ (by omega), w1 _ _ (by omega)]
    rw [hv13, zeR_ne (by omega), hv12, zeR_ne (by omega), hv9]
    rcases (by omega : t = 0 ∨ t = 1) with rfl | rfl
    · rw [zeR_ne (by omega)]
      exact zeR_same
    · exact zeR_same
  · intro i hi
    have h := ob6 i (by omega) hi
    rw [show c + 118 + 6 * (i - 0) = c + 118 + 6 * i by omega] at h
    exact h.2
end CITY
