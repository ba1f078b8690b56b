-- ===== the class and the reference are made =====
def sl4 (j : Nat) : Option (Option Nat) := match j with
  | 0 => some none
  | 2 => some none
  | 11 => some none
  | _ => none
def sl6 (j : Nat) : Option (Option Nat) := match j with
  | 0 => none
  | 1 => none
  | _ => some none
def sl0 (j : Nat) : Option (Option Nat) := match j with
  | 3 => some none
  | _ => none
def sl11 (j : Nat) : Option (Option Nat) := match j with
  | 6 => none
  | 9 => none
  | _ => some none
def sl12 (j : Nat) : Option (Option Nat) := match j with
  | 0 => some none
  | 1 => some none
  | 3 => some none
  | 5 => some none
  | 6 => some none
  | 7 => some none
  | 8 => some none
  | 9 => some none
  | 10 => some none
  | 19 => some none
  | 20 => some none
  | 21 => some none
  | 27 => some none
  | 28 => some none
  | 30 => some none
  | 31 => some none
  | 32 => some none
  | 33 => some none
  | 34 => some none
  | 35 => some none
  | 36 => some none
  | 37 => some none
  | _ => none
def upF (s : Nat → Option (Option Nat)) (j n : Nat) : Nat → Option (Option Nat) := fun i => if i = j then some (some n) else s i
theorem upF_ne {s : Nat → Option (Option Nat)} {j n i : Nat} (h : ¬ i = j) : upF s j n i = s i := if_neg h
section START
variable {n : Nat} {st : Nat → Nat} {S S' : SH} {μ μ' : MU} {x b c j k K B q l : Nat} {sl s : Nat → Option (Option Nat)}
theorem ty4 (j : Nat) : defaultValue (tyX4 j) = slV (sl4 j) 0 := by
  rcases j with _ | _ | _ | _ | _ | _ | _ | _ | _ | _ | _ | _ | _ | j <;> rfl
theorem ty6 (j : Nat) : defaultValue (tyX6 j) = slV (sl6 j) 0 := by
  rcases j with _ | _ | _ | _ | _ | _ | j <;> rfl
theorem ty0 (j : Nat) : defaultValue (tyX0 j) = slV (sl0 j) 0 := by
  rcases j with _ | _ | _ | _ | _ | _ | j <;> rfl
theorem ty11 (j : Nat) : defaultValue (tyX11 j) = slV (sl11 j) 0 := by
  rcases j with _ | _ | _ | _ | _ | _ | _ | _ | _ | _ | _ | _ | _ | _ | _ | _ | _ | j <;> rfl
theorem ty12 (j : Nat) : defaultValue (tyX12 j) = slV (sl12 j) 0 := by
  rcases j with _ | _ | _ | _ | _ | _ | _ | _ | _ | _ | _ | _ | _ | _ | _ | _ | _ | _ | _ | _ | _ | _ | _ | _ | _ | _ | _ | _ | _ | _ | _ | _ | _ | _ | _ | _ | _ | _ | _ | _ | _ | _ | _ | j <;> rfl
theorem bnd {α β : Type} {f : Option α} {a : α} {X : α → Option β} (h : f = some a) : f.bind X = X a := by rw [h]; rfl
theorem stepI (e : S c = (k, l, s)) (hc : ¬ c = n) (hq : q ≤ B) (hB : B < 2 ^ 31) : ∃ S' μ', (∀ (α : Type) (X : AH → Option α), ((nA K B (.int 0) (nI q) (mkH n st S μ)).bind fun h1 => (pR k j h1 (some c) (some (mkH n st S μ).1)).bind X) = X (mkH (n + 1) st S' μ')) ∧ S' c = (k, l, upF s j n) ∧ S' n = (K, q, fun _ => none) ∧ (∀ z, ¬ z = c → ¬ z = n → S' z = S z) ∧ (∀ i, μ' n i = 0) ∧ ∀ z i, ¬ z = n → μ' z i = μ z i :=
  ⟨_, _, fun _ _ => pairI (by rw [e]) hc hq hB, paS_c hc e, paS_n hc, fun z h1 h2 => paS_o h1 h2, fun i => zeR_same, fun z i h => zeR_ne h⟩
theorem stepN (e : S c = (k, l, s)) (hc : ¬ c = n) (hq : q ≤ B) (hB : B < 2 ^ 31) : ∃ S' μ', (∀ (α : Type) (X : AH → Option α), ((nA K B .null (nI q) (mkH n st S μ)).bind fun h1 => (pR k j h1 (some c) (some (mkH n st S μ).1)).bind X) = X (mkH (n + 1) st S' μ')) ∧ S' c = (k, l, upF s j n) ∧ S' n = (K, q, fun _ => some none) ∧ (∀ z, ¬ z = c → ¬ z = n → S' z = S z) ∧ (∀ i, μ' n i = 0) ∧ ∀ z i, ¬ z = n → μ' z i = μ z i :=
  ⟨_, _, fun _ _ => pairN (by rw [e]) hc hq hB, paS_c hc e, paS_n hc, fun z h1 h2 => paS_o h1 h2, fun i => zeR_same, fun z i h => zeR_ne h⟩
/-- a thing is made -/
theorem stepO {N : Nat} {ty : Nat → FieldType} (sl : Nat → Option (Option Nat)) (h : ∀ j, defaultValue (ty j) = slV (sl j) 0) : ∃ S' μ', nO k N ty (mkH n st S μ) = some (mkH (n + 1) st S' μ') ∧ S' n = (k, N, sl) ∧ (∀ z, ¬ z = n → S' z = S z) ∧ (∀ i, μ' n i = 0) ∧ ∀ z i, ¬ z = n → μ' z i = μ z i :=
  ⟨_, _, nO_mk sl h, upS_same, fun z h => upS_ne h, fun i => zeR_same, fun z i h => zeR_ne h⟩
/-- a thing is put into a field -/
theorem stepP {r : Nat} (e : S c = (k, l, s)) : ∃ S', pR k j (mkH n st S μ) (some c) (some r) = some (mkH n st S' μ) ∧ S' c = (k, l, upF s j r) ∧ ∀ z, ¬ z = c → S' z = S z :=
  ⟨_, pR_mk (by rw [e]), by rw [slS_at, e]; rfl, fun z h => slS_ne h⟩
theorem k_init4 (e0 : S (x + 149) = (4, 13, sl4)) : ∃ S' μ', f_X4_init (x + 149) (mkH (x + 150) st S μ) = some (mkH (x + 158) st S' μ') ∧ obS S' (x + 149) 4 13 (slRd x) ∧ nnS S' (x + 150) 100 300 ∧ ShL S' (x + 151) ∧ nnS S' (x + 157) 100 300 ∧ (∀ z, z < x + 149 → S' z = S z) ∧ (∀ z i, z < x + 150 → μ' z i = μ z i) := by
  obtain ⟨S1, v1, r1, e1, m1, o1, -, w1⟩ := stepI (S := S) (μ := μ) (st := st) (n := x + 150) (K := 100) (B := 300) (q := 300) (j := 0) e0 (by omega) (by omega) (by omega)
  obtain ⟨S2, v2, r2, m2, o2, -, w2⟩ := stepO (S := S1) (μ := v1) (st := st) (n := x + 151) (k := 3) (N := 8) sl3 ty3
  obtain ⟨S3, v3, r3, hL, o3, w3, -⟩ := k_init3 (st := st) (μ := v2) m2
  have e3 := (o3 (x + 149) (by omega)).trans ((o2 (x + 149) (by omega)).trans e1)
  obtain ⟨S4, r4, e4, o4⟩ := stepP (μ := v3) (st := st) (n := x + 157) (j := 2) (r := x + 151) e3
  obtain ⟨S5, v5, r5, e5, m5, o5, -, w5⟩ := stepI (μ := v3) (st := st) (n := x + 157) (K := 100) (B := 300) (q := 300) (j := 11) e4 (by omega) (by omega) (by omega)
  refine ⟨S5, v5, ?_, obS.of e5 (fun j hj => ?_), obS.of (s := fun _ => none) (by simp (disch := omega) only [o5, o4, o3, o2, m1]) (fun _ _ => rfl), hL.to (fun a h1 h2 => by simp (disch := omega) only [o5, o4]), obS.of m5 (fun _ _ => rfl), fun z hz => by simp (disch := omega) only [o5, o4, o3, o2, o1], fun z i hz => by simp (disch := omega) only [w5, w3, w2, w1]⟩
  · unfold f_X4_init
    refine (r1 _ _).trans ?_
    refine (bnd r2).trans ?_
    refine (bnd r3).trans ?_
    refine (bnd r4).trans ?_
    exact r5 _ _
  · rcases (by omega : j = 0 ∨ j = 1 ∨ j = 2 ∨ j = 3 ∨ j = 4 ∨ j = 5 ∨ j = 6 ∨ j = 7 ∨ j = 8 ∨ j = 9 ∨ j = 10 ∨ j = 11 ∨ j = 12) with rfl | rfl | rfl | rfl | rfl | rfl | rfl | rfl | rfl | rfl | rfl | rfl | rfl <;> rfl
theorem k_init6 (e0 : S (x + 158) = (6, 6, sl6)) : ∃ S' μ', f_X6_init (x + 158) (mkH (x + 159) st S μ) = some (mkH (x + 163) st S' μ') ∧ obS S' (x + 158) 6 6 (slPo x) ∧ nnS S' (x + 159) 100 16 ∧ nnS S' (x + 160) 100 16 ∧ nnS S' (x + 161) 100 16 ∧ nnS S' (x + 162) 100 5 ∧ (∀ z, z < x + 158 → S' z = S z) ∧ (∀ z i, z < x + 159 → μ' z i = μ z i) := by
  obtain ⟨S1, v1, r1, e1, m1, o1, -, w1⟩ := stepI (μ := μ) (st := st) (n := x + 159) (K := 100) (B := 16) (q := 16) (j := 2) e0 (by omega) (by omega) (by omega)
  obtain ⟨S2, v2, r2, e2, m2, o2, -, w2⟩ := stepI (μ := v1) (st := st) (n := x + 160) (K := 100) (B := 16) (q := 16) (j := 3) e1 (by omega) (by omega) (by omega)
  obtain ⟨S3, v3, r3, e3, m3, o3, -, w3⟩ := stepI (μ := v2) (st := st) (n := x + 161) (K := 100) (B := 16) (q := 16) (j := 4) e2 (by omega) (by omega) (by omega)
  obtain ⟨S4, v4, r4, e4, m4, o4, -, w4⟩ := stepI (μ := v3) (st := st) (n := x + 162) (K := 100) (B := 5) (q := 5) (j := 5) e3 (by omega) (by omega) (by omega)
  refine ⟨S4, v4, ?_, obS.of e4 (fun j hj => ?_), obS.of (s := fun _ => none) (by simp (disch := omega) only [o4, o3, o2, m1]) (fun _ _ => rfl), obS.of (s := fun _ => none) (by simp (disch := omega) only [o4, o3, m2]) (fun _ _ => rfl), obS.of (s := fun _ => none) (by simp (disch := omega) only [o4, m3]) (fun _ _ => rfl), obS.of m4 (fun _ _ => rfl), fun z hz => by simp (disch := omega) only [o4, o3, o2, o1], fun z i hz => by simp (disch := omega) only [w4, w3, w2, w1]⟩
  · unfold f_X6_init
    refine (r1 _ _).trans ?_
    refine (r2 _ _).trans ?_
    refine (r3 _ _).trans ?_
    exact r4 _ _
  · rcases (by omega : j = 0 ∨ j = 1 ∨ j = 2 ∨ j = 3 ∨ j = 4 ∨ j = 5) with rfl | rfl | rfl | rfl | rfl | rfl <;> rfl
theorem k_init0 (e0 : S (x + 163) = (0, 6, sl0)) : ∃ S' μ', f_X0_init (x + 163) (mkH (x + 164) st S μ) = some (mkH (x + 165) st S' μ') ∧ obS S' (x + 163) 0 6 (slAc x) ∧ nnS S' (x + 164) 100 30 ∧ (∀ z, z < x + 163 → S' z = S z) ∧ (∀ z i, z < x + 164 → μ' z i = μ z i) := by
  obtain ⟨S1, v1, r1, e1, m1, o1, -, w1⟩ := stepI (μ := μ) (st := st) (n := x + 164) (K := 100) (B := 30) (q := 30) (j := 3) e0 (by omega) (by omega) (by omega)
  refine ⟨S1, v1, ?_, obS.of e1 (fun j hj => ?_), obS.of m1 (fun _ _ => rfl), fun z hz => by simp (disch := omega) only [o1], fun z i hz => by simp (disch := omega) only [w1]⟩
  · unfold f_X0_init
    exact r1 _ _
  · rcases (by omega : j = 0 ∨ j = 1 ∨ j = 2 ∨ j = 3 ∨ j = 4 ∨ j = 5) with rfl | rfl | rfl | rfl | rfl | rfl <;> rfl
/-- what holds of the memory once the class is made -/
def NewM (μ : MU) (x : Nat) : Prop := (∀ j, μ x j = 0) ∧ (∀ j, ¬ j = 14 → μ (x + 1) j = 0) ∧ μ (x + 1) 14 = -1 ∧ (∀ q v, (stV 0)[q]? = some v → μ (x + 1 + 8) q = v) ∧ (∀ t j, t < 2 → μ (x + 1 + 10 + t) j = 0) ∧ (∀ i, i < 5 → LawI μ (x + 1 + 118 + 6 * i)) ∧ (∀ j, μ (x + 149) j = 0) ∧ (∀ j, μ (x + 163) j = 0) ∧ ∀ j, j < 4 → μ (x + 169) j = 4
theorem NewM.to (h : NewM μ x) (e : ∀ z j, z < x + 175 → μ' z j = μ z j) : NewM μ' x := by
  obtain ⟨h1, h2, h3, h4, h5, h6, h7, h8, h9⟩ := h
  refine ⟨fun j => by rw [e _ _ (by omega), h1], fun j hj => by rw [e _ _ (by omega), h2 j hj], by rw [e _ _ (by omega), h3], fun q v hv => by rw [e _ _ (by omega), h4 q v hv], fun t j ht => by rw [e _ _ (by omega), h5 t j ht], fun i hi => ?_, fun j => by rw [e _ _ (by omega), h7], fun j => by rw [e _ _ (by omega), h8], fun j hj => by rw [e _ _ (by omega), h9 j hj]⟩
  obtain ⟨g1, g2, g3, g4⟩ := h6 i hi
  exact ⟨by rw [e _ _ (by omega), g1], by rw [e _ _ (by omega), g2], by rw [e _ _ (by omega), g3], fun j hj => by rw [e _ _ (by omega), g4 j hj]⟩
def NewS (S : SH) (x : Nat) : Prop := ShX S x ∧ (S x).2.2 1 = some none ∧ (∀ k, k < 4 → (S (x + 168)).2.2 k = some none) ∧ ∀ k, k < 4 → (S (x + 171)).2.2 k = some none
/-- the first half: city, reader, poll, actor -/
theorem k_init11a (e0 : S x = (11, 17, sl11)) (hB : BaseOK st S μ x b) : ∃ S' μ', (∀ (α : Type) (X : AH → Option α), ((nO 2 20 tyX2 (mkH (x + 1) st S μ)).bind fun h1 => (f_X2_init (mkH (x + 1) st S μ).1 h1).bind fun h2 => (pR 11 0 h2 (some x) (some (mkH (x + 1) st S μ).1)).bind fun h3 => (nO 4 13 tyX4 h3).bind fun h4 => (f_X4_init h3.1 h4).bind fun h5 => (pR 11 2 h5 (some x) (some h3.1)).bind fun h6 => (nO 6 6 tyX6 h6).bind fun h7 => (f_X6_init h6.1 h7).bind fun h8 => (pR 11 3 h8 (some x) (some h6.1)).bind fun h9 => (nO 0 6 tyX0 h9).bind fun h10 => (f_X0_init h9.1 h10).bind fun h11 => (pR 11 4 h11 (some x) (some h9.1)).bind X) = X (mkH (x + 165) st S' μ')) ∧ S' x = (11, 17, upF (upF (upF (upF sl11 0 (x + 1)) 2 (x + 149)) 3 (x + 158)) 4 (x + 163)) ∧ ShC S' (x + 1) ∧ (obS S' (x + 149) 4 13 (slRd x) ∧ nnS S' (x + 150) 100 300 ∧ ShL S' (x + 151) ∧ nnS S' (x + 157) 100 300) ∧ (obS S' (x + 158) 6 6 (slPo x) ∧ nnS S' (x + 159) 100 16 ∧ nnS S' (x + 160) 100 16 ∧ nnS S' (x + 161) 100 16 ∧ nnS S' (x + 162) 100 5) ∧ (obS S' (x + 163) 0 6 (slAc x) ∧ nnS S' (x + 164) 100 30) ∧ (∀ z, z < x → S' z = S z) ∧ (∀ z j, z ≤ x → μ' z j = μ z j) ∧ (∀ j, ¬ j = 14 → μ' (x + 1) j = 0) ∧ μ' (x + 1) 14 = -1 ∧ (∀ q v, (stV 0)[q]? = some v → μ' (x + 1 + 8) q = v) ∧ (∀ t j, t < 2 → μ' (x + 1 + 10 + t) j = 0) ∧ (∀ i, i < 5 → LawI μ' (x + 1 + 118 + 6 * i)) ∧ (∀ j, μ' (x + 149) j = 0) ∧ (∀ j, μ' (x + 163) j = 0) := by
  obtain ⟨S1, v1, r1, m1, o1, z1, w1⟩ := stepO (S := S) (μ := μ) (st := st) (n := x + 1) (k := 2) (N := 20) sl2 ty2
  have hB1 : BaseOK st S1 v1 x b := hB.congr (fun a h => o1 a (by omega)) (fun a j h => w1 a j (by omega))
  obtain ⟨S2, v2, r2, C2, o2, w2, c1, c2, c3, c4, c5⟩ := k_init2 m1 hB1 (by omega) z1
  have e2 := (o2 x (by omega)).trans ((o1 x (by omega)).trans e0)
  obtain ⟨S3, r3, e3, o3⟩ := stepP (μ := v2) (st := st) (n := x + 149) (j := 0) (r := x + 1) e2
  obtain ⟨S4, v4, r4, m4, o4, z4, w4⟩ := stepO (S := S3) (μ := v2) (st := st) (n := x + 149) (k := 4) (N := 13) sl4 ty4
  obtain ⟨S5, v5, r5, A1, A2, A3, A4, o5, w5⟩ := k_init4 (st := st) (μ := v4) m4
  have e5 := (o5 x (by omega)).trans ((o4 x (by omega)).trans e3)
  obtain ⟨S6, r6, e6, o6⟩ := stepP (μ := v5) (st := st) (n := x + 158) (j := 2) (r := x + 149) e5
  obtain ⟨S7, v7, r7, m7, o7, z7, w7⟩ := stepO (S := S6) (μ := v5) (st := st) (n := x + 158) (k := 6) (N := 6) sl6 ty6
  obtain ⟨S8, v8, r8, P1, P2, P3, P4, P5, o8, w8⟩ := k_init6 (st := st) (μ := v7) m7
  have e8 := (o8 x (by omega)).trans ((o7 x (by omega)).trans e6)
  obtain ⟨S9, r9, e9, o9⟩ := stepP (μ := v8) (st := st) (n := x + 163) (j := 3) (r := x + 158) e8
  obtain ⟨S10, v10, r10, m10, o10, z10, w10⟩ := stepO (S := S9) (μ := v8) (st := st) (n := x + 163) (k := 0) (N := 6) sl0 ty0
  obtain ⟨S11, v11, r11, T1, T2, o11, w11⟩ := k_init0 (st := st) (μ := v10) m10
  have e11 := (o11 x (by omega)).trans ((o10 x (by omega)).trans e9)
  obtain ⟨S12, r12, e12, o12⟩ := stepP (μ := v11) (st := st) (n := x + 165) (j := 4) (r := x + 163) e11
  have fr : ∀ z i, z < x + 149 → v11 z i = v2 z i := fun z i h => by simp (disch := omega) only [w11, w10, w8, w7, w5, w4]
  have gA : ∀ z, x + 149 ≤ z → z < x + 158 → S12 z = S5 z := fun z h1 h2 => by simp (disch := omega) only [o12, o11, o10, o9, o8, o7, o6]
  have gP : ∀ z, x + 158 ≤ z → z < x + 163 → S12 z = S8 z := fun z h1 h2 => by simp (disch := omega) only [o12, o11, o10, o9]
  have gT : ∀ z, x + 163 ≤ z → S12 z = S11 z := fun z h1 => by simp (disch := omega) only [o12]
  refine ⟨S12, v11, fun α X => ?_, e12, C2.to (fun a h1 h2 => by simp (disch := omega) only [o12, o11, o10, o9, o8, o7, o6, o5, o4, o3]), ⟨A1.to (gA _ (by omega) (by omega)), obS.to A2 (gA _ (by omega) (by omega)), A3.to (fun a h1 h2 => gA _ (by omega) (by omega)), obS.to A4 (gA _ (by omega) (by omega))⟩, ⟨P1.to (gP _ (by omega) (by omega)), obS.to P2 (gP _ (by omega) (by omega)), obS.to P3 (gP _ (by omega) (by omega)), obS.to P4 (gP _ (by omega) (by omega)), obS.to P5 (gP _ (by omega) (by omega))⟩, ⟨T1.to (gT _ (by omega)), obS.to T2 (gT _ (by omega))⟩, fun z hz => by simp (disch := omega) only [o12, o11, o10, o9, o8, o7, o6, o5, o4, o3, o2, o1], fun z i hz => by rw [fr z i (by omega), w2 z i (by omega), w1 z i (by omega)], fun j hj => by rw [fr _ _ (by omega), c1 j hj], by rw [fr _ _ (by omega), c2], fun q v hv => by rw [fr _ _ (by omega), c3 q v hv], fun t j ht => by rw [fr _ _ (by omega), c4 t j ht], fun i hi => ?_, fun j => ?_, fun j => ?_⟩
  · refine (bnd r1).trans ?_
    refine (bnd r2).trans ?_
    refine (bnd r3).trans ?_
    refine (bnd r4).trans ?_
    refine (bnd r5).trans ?_
    refine (bnd r6).trans ?_
    refine (bnd r7).trans ?_
    refine (bnd r8).trans ?_
    refine (bnd r9).trans ?_
    refine (bnd r10).trans ?_
    refine (bnd r11).trans ?_
    exact bnd r12
  · obtain ⟨g1, g2, g3, g4⟩ := c5 i hi
    exact ⟨by rw [fr _ _ (by omega), g1], by rw [fr _ _ (by omega), g2], by rw [fr _ _ (by omega), g3], fun j hj => by rw [fr _ _ (by omega), g4 j hj]⟩
  · simp (disch := omega) only [w11, w10, w8, w7, w5]
    exact z4 j
  · rw [w11 _ _ (by omega)]
    exact z10 j
/-- the loop that sets what lies on the shelf -/
theorem k_init11l {fu nn : Nat} (e0 : S x = (11, 17, s)) (es : s 11 = some (some (x + 169))) (m : S (x + 169) = (100, 4, fun _ => none)) : ∃ μ', b_X11_init_89 (fu + 5) (some x) 0 (mkH nn st S μ) = b_X11_init_89 (fu + 1) (some x) 4 (mkH nn st S μ') ∧ (∀ j, j < 4 → μ' (x + 169) j = 4) ∧ ∀ z j, ¬ z = x + 169 → μ' z j = μ z j := by
  have g : ∀ μ : MU, gR 11 11 (mkH nn st S μ) (some x) = some (some (x + 169)) := fun μ => gR_mk (by rw [e0]) (by rw [e0]; exact es)
  have p : ∀ (μ : MU) (i : Nat), i < 4 → sI (mkH nn st S μ) (some (x + 169)) (nI i) 4 = some (mkH nn st S (up2 μ (x + 169) i 4)) := fun μ i hi => sI_mk (by rw [m]) (by rw [m]; exact hi) (by rw [m]; decide) (by rw [m])
  have L : ∀ (μ : MU) (f i : Nat), i < 4 → b_X11_init_89 (f + 1) (some x) (nI i) (mkH nn st S μ) = b_X11_init_89 f (some x) (nI (i + 1)) (mkH nn st S (up2 μ (x + 169) i 4)) := fun μ f i hi => by
    have h1 : nI i < 4 := (nn_lt (a := i) (b := 4) (by omega) (by omega)).mpr hi
    have h2 : nI i + 1 = nI (i + 1) := nI_add _ _
    show (if nI i < 4 then _ else _) = _
    rw [if_pos h1, g, some_bind, p μ i hi, some_bind, h2]
  refine ⟨(up2 (up2 (up2 (up2 μ (x + 169) (0) (4)) (x + 169) (1) (4)) (x + 169) (2) (4)) (x + 169) (3) (4)), ?_, fun j hj => ?_, fun z j hz => ?_⟩
  · refine (L μ (fu + 4) 0 (by omega)).trans ?_
    refine (L _ (fu + 3) 1 (by omega)).trans ?_
    refine (L _ (fu + 2) 2 (by omega)).trans ?_
    exact L _ (fu + 1) 3 (by omega)
  · rcases (by omega : j = 0 ∨ j = 1 ∨ j = 2 ∨ j = 3) with rfl | rfl | rfl | rfl <;> simp (disch := omega) only [up2_ne, up2_same]
  · simp (disch := omega) only [up2_ne]

theorem k_init11 (e0 : S x = (11, 17, sl11)) (hB : BaseOK st S μ x b) (hz : ∀ j, μ x j = 0) : ∃ S' μ', f_X11_init x (mkH (x + 1) st S μ) = some (mkH (x + 175) st S' μ') ∧ NewS S' x ∧ NewM μ' x ∧ (∀ z, z < x → S' z = S z) ∧ ∀ z j, z < x → μ' z j = μ z j := by
  obtain ⟨S0, v0, r0, e0', C, ⟨A1, A2, A3, A4⟩, ⟨P1, P2, P3, P4, P5⟩, ⟨T1, T2⟩, o0, w0, c1, c2, c3, c4, c5, c6, c7⟩ := k_init11a e0 hB
  replace e0 := e0'
  obtain ⟨fu, hfu⟩ : ∃ q, FU = q + 5 := ⟨FU - 5, rfl⟩
  obtain ⟨S1, v1, r1, e1, m1, o1, -, w1⟩ := stepI (μ := v0) (st := st) (n := x + 165) (K := 100) (B := 16) (q := 16) (j := 5) e0 (by omega) (by omega) (by omega)
  obtain ⟨S2, v2, r2, e2, m2, o2, -, w2⟩ := stepI (μ := v1) (st := st) (n := x + 166) (K := 100) (B := 16) (q := 16) (j := 7) e1 (by omega) (by omega) (by omega)
  obtain ⟨S3, v3, r3, e3, m3, o3, -, w3⟩ := stepI (μ := v2) (st := st) (n := x + 167) (K := 100) (B := 16) (q := 16) (j := 8) e2 (by omega) (by omega) (by omega)
  obtain ⟨S4, v4, r4, e4, m4, o4, -, w4⟩ := stepN (μ := v3) (st := st) (n := x + 168) (K := 106) (B := 4) (q := 4) (j := 10) e3 (by omega) (by omega) (by omega)
  obtain ⟨S5, v5, r5, e5, m5, o5, -, w5⟩ := stepI (μ := v4) (st := st) (n := x + 169) (K := 100) (B := 4) (q := 4) (j := 11) e4 (by omega) (by omega) (by omega)
  obtain ⟨vL, rL, zL, wL⟩ := k_init11l (st := st) (μ := v5) (nn := x + 170) (fu := fu) e5 rfl m5
  obtain ⟨S6, v6, r6, e6, m6, o6, -, w6⟩ := stepI (μ := vL) (st := st) (n := x + 170) (K := 100) (B := 4) (q := 4) (j := 12) e5 (by omega) (by omega) (by omega)
  obtain ⟨S7, v7, r7, e7, m7, o7, -, w7⟩ := stepN (μ := v6) (st := st) (n := x + 171) (K := 106) (B := 4) (q := 4) (j := 13) e6 (by omega) (by omega) (by omega)
  obtain ⟨S8, v8, r8, e8, m8, o8, -, w8⟩ := stepI (μ := v7) (st := st) (n := x + 172) (K := 100) (B := 9) (q := 9) (j := 14) e7 (by omega) (by omega) (by omega)
  obtain ⟨S9, v9, r9, e9, m9, o9, -, w9⟩ := stepI (μ := v8) (st := st) (n := x + 173) (K := 100) (B := 9) (q := 9) (j := 15) e8 (by omega) (by omega) (by omega)
  obtain ⟨S10, v10, r10, e10, m10, o10, -, w10⟩ := stepI (μ := v9) (st := st) (n := x + 174) (K := 100) (B := 9) (q := 9) (j := 16) e9 (by omega) (by omega) (by omega)
  have g0 : ∀ z, ¬ z = x → z < x + 165 → S10 z = S0 z := fun z h1 h2 => by simp (disch := omega) only [o10, o9, o8, o7, o6, o5, o4, o3, o2, o1]
  have gv : ∀ z j, z < x + 165 → v10 z j = v0 z j := fun z j h => by simp (disch := omega) only [w10, w9, w8, w7, w6, wL, w5, w4, w3, w2, w1]
  have q1 : S10 (x + 165) = (100, 16, fun _ => none) := by simp (disch := omega) only [o10, o9, o8, o7, o6, o5, o4, o3, o2, m1]
  have q2 : S10 (x + 166) = (100, 16, fun _ => none) := by simp (disch := omega) only [o10, o9, o8, o7, o6, o5, o4, o3, m2]
  have q3 : S10 (x + 167) = (100, 16, fun _ => none) := by simp (disch := omega) only [o10, o9, o8, o7, o6, o5, o4, m3]
  have q4 : S10 (x + 168) = (106, 4, fun _ => some none) := by simp (disch := omega) only [o10, o9, o8, o7, o6, o5, m4]
  have q5 : S10 (x + 169) = (100, 4, fun _ => none) := by simp (disch := omega) only [o10, o9, o8, o7, o6, m5]
  have q6 : S10 (x + 170) = (100, 4, fun _ => none) := by simp (disch := omega) only [o10, o9, o8, o7, m6]
  have q7 : S10 (x + 171) = (106, 4, fun _ => some none) := by simp (disch := omega) only [o10, o9, o8, m7]
  have q8 : S10 (x + 172) = (100, 9, fun _ => none) := by simp (disch := omega) only [o10, o9, m8]
  have q9 : S10 (x + 173) = (100, 9, fun _ => none) := by simp (disch := omega) only [o10, m9]
  have q10 : S10 (x + 174) = (100, 9, fun _ => none) := by simp (disch := omega) only [m10]
  refine ⟨S10, v10, ?_, ⟨⟨⟨by rw [e10], by rw [e10], fun j hj hj1 => ?_⟩, C.to (fun a h1 h2 => g0 a (by omega) (by omega)), A1.to (g0 _ (by omega) (by omega)), obS.to A2 (g0 _ (by omega) (by omega)), A3.to (fun a h1 h2 => g0 _ (by omega) (by omega)), obS.to A4 (g0 _ (by omega) (by omega)), P1.to (g0 _ (by omega) (by omega)), obS.to P2 (g0 _ (by omega) (by omega)), obS.to P3 (g0 _ (by omega) (by omega)), obS.to P4 (g0 _ (by omega) (by omega)), obS.to P5 (g0 _ (by omega) (by omega)), T1.to (g0 _ (by omega) (by omega)), obS.to T2 (g0 _ (by omega) (by omega)), obS.of q1 (fun _ _ => rfl), obS.of q2 (fun _ _ => rfl), obS.of q3 (fun _ _ => rfl), ⟨by rw [q4], by rw [q4]⟩, obS.of q5 (fun _ _ => rfl), obS.of q6 (fun _ _ => rfl), ⟨by rw [q7], by rw [q7]⟩, obS.of q8 (fun _ _ => rfl), obS.of q9 (fun _ _ => rfl), obS.of q10 (fun _ _ => rfl)⟩, by rw [e10]; rfl, fun k _ => by rw [q4], fun k _ => by rw [q7]⟩, ⟨fun j => by rw [gv _ _ (by omega), w0 _ _ (by omega), hz], fun j hj => by rw [gv _ _ (by omega), c1 j hj], by rw [gv _ _ (by omega), c2], fun q v hv => by rw [gv _ _ (by omega), c3 q v hv], fun t j ht => by rw [gv _ _ (by omega), c4 t j ht], fun i hi => ?_, fun j => by rw [gv _ _ (by omega), c6], fun j => by rw [gv _ _ (by omega), c7], fun j hj => ?_⟩, fun z hz => by rw [g0 z (by omega) (by omega), o0 z hz], fun z j hz => by rw [gv z j (by omega), w0 z j (by omega)]⟩
  · unfold f_X11_init
    refine (r0 _ _).trans ?_
    refine (r1 _ _).trans ?_
    refine (r2 _ _).trans ?_
    refine (r3 _ _).trans ?_
    refine (r4 _ _).trans ?_
    refine (r5 _ _).trans ?_
    rw [hfu]
    refine rL.trans ?_
    rw [b_X11_init_89]
    refine (if_neg (show ¬ (4 : Int32) < 4 by decide)).trans ?_
    refine (r6 _ _).trans ?_
    refine (r7 _ _).trans ?_
    refine (r8 _ _).trans ?_
    refine (r9 _ _).trans ?_
    exact r10 _ _
  · rw [e10]
    rcases (by omega : j = 0 ∨ j = 2 ∨ j = 3 ∨ j = 4 ∨ j = 5 ∨ j = 6 ∨ j = 7 ∨ j = 8 ∨ j = 9 ∨ j = 10 ∨ j = 11 ∨ j = 12 ∨ j = 13 ∨ j = 14 ∨ j = 15 ∨ j = 16) with rfl | rfl | rfl | rfl | rfl | rfl | rfl | rfl | rfl | rfl | rfl | rfl | rfl | rfl | rfl | rfl <;> rfl
  · obtain ⟨g1, g2, g3, g4⟩ := c5 i hi
    exact ⟨by rw [gv _ _ (by omega), g1], by rw [gv _ _ (by omega), g2], by rw [gv _ _ (by omega), g3], fun j hj => by rw [gv _ _ (by omega), g4 j hj]⟩
  · simp (disch := omega) only [w10, w9, w8, w7, w6]
    exact zL j hj
/-- the row of -1 -/
theorem step4 (e : S c = (12, l, s)) (hc : ¬ c = n) : ∃ S' μ', (∀ (α : Type) (X : AH → Option α), ((nA 100 4 (.int 0) 4 (mkH n st S μ)).bind fun h31 => (sI h31 (some (mkH n st S μ).1) 0 (-1)).bind fun h32 => (sI h32 (some (mkH n st S μ).1) 1 (-1)).bind fun h33 => (sI h33 (some (mkH n st S μ).1) 2 (-1)).bind fun h34 => (sI h34 (some (mkH n st S μ).1) 3 (-1)).bind fun h35 => (pR 12 j h35 (some c) (some (mkH n st S μ).1)).bind X) = X (mkH (n + 1) st S' μ')) ∧ S' c = (12, l, upF s j n) ∧ S' n = (100, 4, fun _ => none) ∧ (∀ z, ¬ z = c → ¬ z = n → S' z = S z) ∧ (∀ i, i < 4 → μ' n i = -1) ∧ ∀ z i, ¬ z = n → μ' z i = μ z i := by
  obtain ⟨S1, hS1⟩ : ∃ q, q = upS S n (100, 4, fun _ => none) := ⟨_, rfl⟩
  have m1 : S1 n = (100, 4, fun _ => none) := by rw [hS1, upS_same]
  have o1 : ∀ z, ¬ z = n → S1 z = S z := fun z h => by rw [hS1, upS_ne h]
  have a4 : nA 100 4 (.int 0) 4 (mkH n st S μ) = some (mkH (n + 1) st S1 (zeR μ n)) := by
    rw [hS1]
    exact nA_mk (q := 4) (by omega) (by omega)
  have p : ∀ (μ : MU) (i : Nat), i < 4 → sI (mkH (n + 1) st S1 μ) (some n) (nI i) (-1) = some (mkH (n + 1) st S1 (up2 μ n i (-1))) := fun μ i hi => sI_mk (by rw [m1]) (by rw [m1]; exact hi) (by rw [m1]; decide) (by rw [m1])
  obtain ⟨S2, r2, e2, o2⟩ := stepP (μ := (up2 (up2 (up2 (up2 (zeR μ n) (n) (0) (-1)) (n) (1) (-1)) (n) (2) (-1)) (n) (3) (-1))) (st := st) (n := n + 1) (j := j) (r := n) ((o1 c hc).trans e)
  refine ⟨S2, (up2 (up2 (up2 (up2 (zeR μ n) (n) (0) (-1)) (n) (1) (-1)) (n) (2) (-1)) (n) (3) (-1)), fun α X => ?_, e2, (o2 n (fun h => hc h.symm)).trans m1, fun z h1 h2 => (o2 z h1).trans (o1 z h2), fun i hi => ?_, fun z i hz => ?_⟩
  · refine (bnd a4).trans ?_
    refine (bnd (p _ 0 (by omega))).trans ?_
    refine (bnd (p _ 1 (by omega))).trans ?_
    refine (bnd (p _ 2 (by omega))).trans ?_
    refine (bnd (p _ 3 (by omega))).trans ?_
    exact bnd r2
  · rcases (by omega : i = 0 ∨ i = 1 ∨ i = 2 ∨ i = 3) with rfl | rfl | rfl | rfl <;> simp (disch := omega) only [up2_ne, up2_same]
  · simp (disch := omega) only [up2_ne]
    exact zeR_ne hz
/-- the reference is made -/
theorem k_init12 {m : Nat} (e0 : S m = (12, 43, sl12)) (hz : ∀ j, μ m j = 0) : ∃ S' μ', f_X12_init m (mkH (m + 1) st S μ) = some (mkH (m + 23) st S' μ') ∧ ShM S' m ∧ (∀ z, z < m → S' z = S z) ∧ (∀ z j, z < m → μ' z j = μ z j) ∧ (∀ j, μ' m j = 0) ∧ (∀ j, j < 4 → μ' (m + 16) j = -1) ∧ (∀ j, μ' (m + 20) j = 0) ∧ (∀ j, μ' (m + 21) j = 0) ∧ μ' (m + 1) 7 = -1 ∧ μ' (m + 1) 9 = 300 ∧ μ' (m + 1) 10 = 3 ∧ μ' (m + 1) 11 = 1 ∧ μ' (m + 1) 12 = 4 ∧ (∀ j, j < 4 → μ' (m + 1) (1020 + j) = -1) ∧ ∀ j, ¬ j = 7 → ¬ (9 ≤ j ∧ j ≤ 12) → ¬ (1020 ≤ j ∧ j < 1024) → μ' (m + 1) j = 0 := by
  obtain ⟨fu, hfu⟩ : ∃ q, FU = q + 5 := ⟨FU - 5, rfl⟩
  obtain ⟨S0, hS0⟩ : ∃ q, q = S := ⟨_, rfl⟩
  obtain ⟨v0, hv0⟩ : ∃ q, q = μ := ⟨_, rfl⟩
  rw [← hS0] at e0
  rw [← hS0, ← hv0]
  rw [← hv0] at hz
  obtain ⟨S1, v1, r1, e1, m1, o1, z1, w1⟩ := stepI (μ := v0) (st := st) (n := m + 1) (K := 100) (B := 2224) (q := 2224) (j := 0) e0 (by omega) (by omega) (by omega)
  obtain ⟨S2, v2, r2, e2, m2, o2, z2, w2⟩ := stepI (μ := v1) (st := st) (n := m + 2) (K := 100) (B := 2224) (q := 2224) (j := 1) e1 (by omega) (by omega) (by omega)
  obtain ⟨S3, v3, r3, e3, m3, o3, z3, w3⟩ := stepI (μ := v2) (st := st) (n := m + 3) (K := 100) (B := 300) (q := 300) (j := 3) e2 (by omega) (by omega) (by omega)
  obtain ⟨S4, v4, r4, e4, m4, o4, z4, w4⟩ := stepI (μ := v3) (st := st) (n := m + 4) (K := 100) (B := 6) (q := 6) (j := 5) e3 (by omega) (by omega) (by omega)
  obtain ⟨S5, v5, r5, e5, m5, o5, z5, w5⟩ := stepI (μ := v4) (st := st) (n := m + 5) (K := 100) (B := 6) (q := 6) (j := 6) e4 (by omega) (by omega) (by omega)
  obtain ⟨S6, v6, r6, e6, m6, o6, z6, w6⟩ := stepI (μ := v5) (st := st) (n := m + 6) (K := 100) (B := 49) (q := 49) (j := 7) e5 (by omega) (by omega) (by omega)
  obtain ⟨S7, v7, r7, e7, m7, o7, z7, w7⟩ := stepI (μ := v6) (st := st) (n := m + 7) (K := 100) (B := 7) (q := 7) (j := 8) e6 (by omega) (by omega) (by omega)
  obtain ⟨S8, v8, r8, e8, m8, o8, z8, w8⟩ := stepI (μ := v7) (st := st) (n := m + 8) (K := 101) (B := 5) (q := 5) (j := 9) e7 (by omega) (by omega) (by omega)
  obtain ⟨S9, v9, r9, e9, m9, o9, z9, w9⟩ := stepI (μ := v8) (st := st) (n := m + 9) (K := 100) (B := 5) (q := 5) (j := 10) e8 (by omega) (by omega) (by omega)
  obtain ⟨S10, v10, r10, e10, m10, o10, z10, w10⟩ := stepI (μ := v9) (st := st) (n := m + 10) (K := 100) (B := 16) (q := 16) (j := 19) e9 (by omega) (by omega) (by omega)
  obtain ⟨S11, v11, r11, e11, m11, o11, z11, w11⟩ := stepI (μ := v10) (st := st) (n := m + 11) (K := 100) (B := 16) (q := 16) (j := 20) e10 (by omega) (by omega) (by omega)
  obtain ⟨S12, v12, r12, e12, m12, o12, z12, w12⟩ := stepI (μ := v11) (st := st) (n := m + 12) (K := 101) (B := 40) (q := 40) (j := 21) e11 (by omega) (by omega) (by omega)
  obtain ⟨S13, v13, r13, e13, m13, o13, z13, w13⟩ := stepI (μ := v12) (st := st) (n := m + 13) (K := 100) (B := 16) (q := 16) (j := 27) e12 (by omega) (by omega) (by omega)
  obtain ⟨S14, v14, r14, e14, m14, o14, z14, w14⟩ := stepI (μ := v13) (st := st) (n := m + 14) (K := 100) (B := 32) (q := 32) (j := 28) e13 (by omega) (by omega) (by omega)
  obtain ⟨S15, v15, r15, e15, m15, o15, z15, w15⟩ := stepI (μ := v14) (st := st) (n := m + 15) (K := 100) (B := 9) (q := 9) (j := 30) e14 (by omega) (by omega) (by omega)
  obtain ⟨S16, v16, r16, e16, m16, o16, z16, w16⟩ := step4 (μ := v15) (st := st) (n := m + 16) (j := 31) e15 (by omega)
  obtain ⟨S17, v17, r17, e17, m17, o17, z17, w17⟩ := stepI (μ := v16) (st := st) (n := m + 17) (K := 100) (B := 8) (q := 8) (j := 32) e16 (by omega) (by omega) (by omega)
  obtain ⟨S18, v18, r18, e18, m18, o18, z18, w18⟩ := stepI (μ := v17) (st := st) (n := m + 18) (K := 100) (B := 8) (q := 8) (j := 33) e17 (by omega) (by omega) (by omega)
  obtain ⟨S19, v19, r19, e19, m19, o19, z19, w19⟩ := stepI (μ := v18) (st := st) (n := m + 19) (K := 100) (B := 320) (q := 320) (j := 34) e18 (by omega) (by omega) (by omega)
  obtain ⟨S20, v20, r20, e20, m20, o20, z20, w20⟩ := stepI (μ := v19) (st := st) (n := m + 20) (K := 100) (B := 4) (q := 4) (j := 35) e19 (by omega) (by omega) (by omega)
  obtain ⟨S21, v21, r21, e21, m21, o21, z21, w21⟩ := stepI (μ := v20) (st := st) (n := m + 21) (K := 100) (B := 4) (q := 4) (j := 36) e20 (by omega) (by omega) (by omega)
  obtain ⟨S22, v22, r22, e22, m22, o22, z22, w22⟩ := stepI (μ := v21) (st := st) (n := m + 22) (K := 100) (B := 30) (q := 30) (j := 37) e21 (by omega) (by omega) (by omega)
  have hS : ShM S22 m := by
    refine ⟨e22.trans ?_, fun i q hq => ?_⟩
    · refine congrArg (fun q => (12, 43, q)) (funext fun j => ?_)
      rcases j with _ | _ | _ | _ | _ | _ | _ | _ | _ | _ | _ | _ | _ | _ | _ | _ | _ | _ | _ | _ | _ | _ | _ | _ | _ | _ | _ | _ | _ | _ | _ | _ | _ | _ | _ | _ | _ | _ | _ | _ | _ | _ | _ | j
      case succ =>
        rw [upF_ne (by omega), upF_ne (by omega), upF_ne (by omega), upF_ne (by omega), upF_ne (by omega), upF_ne (by omega), upF_ne (by omega), upF_ne (by omega), upF_ne (by omega), upF_ne (by omega), upF_ne (by omega), upF_ne (by omega), upF_ne (by omega), upF_ne (by omega), upF_ne (by omega), upF_ne (by omega), upF_ne (by omega), upF_ne (by omega), upF_ne (by omega), upF_ne (by omega), upF_ne (by omega), upF_ne (by omega)]
        rfl
      all_goals rfl
    · rcases i with _ | _ | _ | _ | _ | _ | _ | _ | _ | _ | _ | _ | _ | _ | _ | _ | _ | _ | _ | _ | _ | _ | i
      case succ => cases hq
      · obtain rfl : (100, 2224) = q := Option.some.inj hq
        show S22 (m + 1) = _
        simp (disch := omega) only [o22, o21, o20, o19, o18, o17, o16, o15, o14, o13, o12, o11, o10, o9, o8, o7, o6, o5, o4, o3, o2, m1]
      · obtain rfl : (100, 2224) = q := Option.some.inj hq
        show S22 (m + 2) = _
        simp (disch := omega) only [o22, o21, o20, o19, o18, o17, o16, o15, o14, o13, o12, o11, o10, o9, o8, o7, o6, o5, o4, o3, m2]
      · obtain rfl : (100, 300) = q := Option.some.inj hq
        show S22 (m + 3) = _
        simp (disch := omega) only [o22, o21, o20, o19, o18, o17, o16, o15, o14, o13, o12, o11, o10, o9, o8, o7, o6, o5, o4, m3]
      · obtain rfl : (100, 6) = q := Option.some.inj hq
        show S22 (m + 4) = _
        simp (disch := omega) only [o22, o21, o20, o19, o18, o17, o16, o15, o14, o13, o12, o11, o10, o9, o8, o7, o6, o5, m4]
      · obtain rfl : (100, 6) = q := Option.some.inj hq
        show S22 (m + 5) = _
        simp (disch := omega) only [o22, o21, o20, o19, o18, o17, o16, o15, o14, o13, o12, o11, o10, o9, o8, o7, o6, m5]
      · obtain rfl : (100, 49) = q := Option.some.inj hq
        show S22 (m + 6) = _
        simp (disch := omega) only [o22, o21, o20, o19, o18, o17, o16, o15, o14, o13, o12, o11, o10, o9, o8, o7, m6]
      · obtain rfl : (100, 7) = q := Option.some.inj hq
        show S22 (m + 7) = _
        simp (disch := omega) only [o22, o21, o20, o19, o18, o17, o16, o15, o14, o13, o12, o11, o10, o9, o8, m7]
      · obtain rfl : (101, 5) = q := Option.some.inj hq
        show S22 (m + 8) = _
        simp (disch := omega) only [o22, o21, o20, o19, o18, o17, o16, o15, o14, o13, o12, o11, o10, o9, m8]
      · obtain rfl : (100, 5) = q := Option.some.inj hq
        show S22 (m + 9) = _
        simp (disch := omega) only [o22, o21, o20, o19, o18, o17, o16, o15, o14, o13, o12, o11, o10, m9]
      · obtain rfl : (100, 16) = q := Option.some.inj hq
        show S22 (m + 10) = _
        simp (disch := omega) only [o22, o21, o20, o19, o18, o17, o16, o15, o14, o13, o12, o11, m10]
      · obtain rfl : (100, 16) = q := Option.some.inj hq
        show S22 (m + 11) = _
        simp (disch := omega) only [o22, o21, o20, o19, o18, o17, o16, o15, o14, o13, o12, m11]
      · obtain rfl : (101, 40) = q := Option.some.inj hq
        show S22 (m + 12) = _
        simp (disch := omega) only [o22, o21, o20, o19, o18, o17, o16, o15, o14, o13, m12]
      · obtain rfl : (100, 16) = q := Option.some.inj hq
        show S22 (m + 13) = _
        simp (disch := omega) only [o22, o21, o20, o19, o18, o17, o16, o15, o14, m13]
      · obtain rfl : (100, 32) = q := Option.some.inj hq
        show S22 (m + 14) = _
        simp (disch := omega) only [o22, o21, o20, o19, o18, o17, o16, o15, m14]
      · obtain rfl : (100, 9) = q := Option.some.inj hq
        show S22 (m + 15) = _
        simp (disch := omega) only [o22, o21, o20, o19, o18, o17, o16, m15]
      · obtain rfl : (100, 4) = q := Option.some.inj hq
        show S22 (m + 16) = _
        simp (disch := omega) only [o22, o21, o20, o19, o18, o17, m16]
      · obtain rfl : (100, 8) = q := Option.some.inj hq
        show S22 (m + 17) = _
        simp (disch := omega) only [o22, o21, o20, o19, o18, m17]
      · obtain rfl : (100, 8) = q := Option.some.inj hq
        show S22 (m + 18) = _
        simp (disch := omega) only [o22, o21, o20, o19, m18]
      · obtain rfl : (100, 320) = q := Option.some.inj hq
        show S22 (m + 19) = _
        simp (disch := omega) only [o22, o21, o20, m19]
      · obtain rfl : (100, 4) = q := Option.some.inj hq
        show S22 (m + 20) = _
        simp (disch := omega) only [o22, o21, m20]
      · obtain rfl : (100, 4) = q := Option.some.inj hq
        show S22 (m + 21) = _
        simp (disch := omega) only [o22, m21]
      · obtain rfl : (100, 30) = q := Option.some.inj hq
        show S22 (m + 22) = _
        simp (disch := omega) only [m22]
  have dv : ∀ j, v22 (m + 1) j = 0 := fun j => by
    simp (disch := omega) only [w22, w21, w20, w19, w18, w17, w16, w15, w14, w13, w12, w11, w10, w9, w8, w7, w6, w5, w4, w3, w2]
    exact z1 j
  have tail : ∀ μ : MU, b_X12_init_239 (fu + 5) (some m) 0 (mkH (m + 23) st S22 μ) = some (mkH (m + 23) st S22 (up2 (up2 (up2 (up2 μ (m + 1) (1020) (-1)) (m + 1) (1021) (-1)) (m + 1) (1022) (-1)) (m + 1) (1023) (-1))) := fun μ => by
    have L : ∀ (μ : MU) (f i : Nat), i < 4 → b_X12_init_239 (f + 1) (some m) (nI i) (mkH (m + 23) st S22 μ) = b_X12_init_239 f (some m) (nI (i + 1)) (mkH (m + 23) st S22 (up2 μ (m + 1) (1020 + i) (-1))) := fun μ f i hi => by
      have h1 : nI i < 4 := (nn_lt (a := i) (b := 4) (by omega) (by omega)).mpr hi
      have h2 : nI i + 1 = nI (i + 1) := nI_add _ _
      have h3 : 1020 + nI i = nI (1020 + i) := nI_add _ _
      show (if nI i < 4 then _ else _) = _
      rw [if_pos h1, mR0 hS, some_bind, h3, h2]
      exact bnd (wdA hS (by omega))
    refine (L μ (fu + 4) 0 (by omega)).trans ?_
    refine (L _ (fu + 3) 1 (by omega)).trans ?_
    refine (L _ (fu + 2) 2 (by omega)).trans ?_
    refine (L _ (fu + 1) 3 (by omega)).trans ?_
    have E : ∀ H : AH, b_X12_init_239 (fu + 1) (some m) 4 H = some H := fun H => by
      rw [b_X12_init_239]
      exact if_neg (show ¬ (4 : Int32) < 4 by decide)
    exact E _
  refine ⟨S22, (up2 (up2 (up2 (up2 (up2 (up2 (up2 (up2 (up2 v22 (m + 1) (7) (-1)) (m + 1) (9) (300)) (m + 1) (10) (3)) (m + 1) (11) (1)) (m + 1) (12) (4)) (m + 1) (1020) (-1)) (m + 1) (1021) (-1)) (m + 1) (1022) (-1)) (m + 1) (1023) (-1)), ?_, hS, ?_, ?_, ?_, ?_, ?_, ?_, ?_, ?_, ?_, ?_, ?_, ?_, ?_⟩
  · unfold f_X12_init
    refine (r1 _ _).trans ?_
    refine (r2 _ _).trans ?_
    refine (r3 _ _).trans ?_
    refine (r4 _ _).trans ?_
    refine (r5 _ _).trans ?_
    refine (r6 _ _).trans ?_
    refine (r7 _ _).trans ?_
    refine (r8 _ _).trans ?_
    refine (r9 _ _).trans ?_
    refine (r10 _ _).trans ?_
    refine (r11 _ _).trans ?_
    refine (r12 _ _).trans ?_
    refine (r13 _ _).trans ?_
    refine (r14 _ _).trans ?_
    refine (r15 _ _).trans ?_
    refine (r16 _ _).trans ?_
    refine (r17 _ _).trans ?_
    refine (r18 _ _).trans ?_
    refine (r19 _ _).trans ?_
    refine (r20 _ _).trans ?_
    refine (r21 _ _).trans ?_
    refine (r22 _ _).trans ?_
    refine (bnd (mR0 hS)).trans ?_
    refine (bnd (wdA hS (q := 7) (by omega))).trans ?_
    refine (bnd (mR0 hS)).trans ?_
    refine (bnd (wdA hS (q := 9) (by omega))).trans ?_
    refine (bnd (mR0 hS)).trans ?_
    refine (bnd (wdA hS (q := 10) (by omega))).trans ?_
    refine (bnd (mR0 hS)).trans ?_
    refine (bnd (wdA hS (q := 11) (by omega))).trans ?_
    refine (bnd (mR0 hS)).trans ?_
    refine (bnd (wdA hS (q := 12) (by omega))).trans ?_
    rw [hfu]
    exact tail _
  · intro z hz
    simp (disch := omega) only [o22, o21, o20, o19, o18, o17, o16, o15, o14, o13, o12, o11, o10, o9, o8, o7, o6, o5, o4, o3, o2, o1]
  · intro z j hz
    simp (disch := omega) only [up2_ne, w22, w21, w20, w19, w18, w17, w16, w15, w14, w13, w12, w11, w10, w9, w8, w7, w6, w5, w4, w3, w2, w1]
  · intro j
    simp (disch := omega) only [up2_ne, w22, w21, w20, w19, w18, w17, w16, w15, w14, w13, w12, w11, w10, w9, w8, w7, w6, w5, w4, w3, w2, w1]
    exact hz j
  · intro j hj
    simp (disch := omega) only [up2_ne, w22, w21, w20, w19, w18, w17]
    exact z16 j hj
  · intro j
    simp (disch := omega) only [up2_ne, w22, w21]
    exact z20 j
  · intro j
    simp (disch := omega) only [up2_ne, w22]
    exact z21 j
  · simp (disch := omega) only [up2_ne, up2_same]
  · simp (disch := omega) only [up2_ne, up2_same]
  · simp (disch := omega) only [up2_ne, up2_same]
  · simp (disch := omega) only [up2_ne, up2_same]
  · simp (disch := omega) only [up2_ne, up2_same]
  · intro j hj
    rcases (by omega : j = 0 ∨ j = 1 ∨ j = 2 ∨ j = 3) with rfl | rfl | rfl | rfl <;> simp (disch := omega) only [up2_ne, up2_same, Nat.add_zero, Nat.reduceAdd]
  · intro j h1 h2 h3
    simp (disch := omega) only [up2_ne]
    exact dv j
/-- class and reference, newly made, agree -/
theorem R_new {st : Nat → Nat} {S : SH} {μ : MU} {x b : Nat} (hB : BaseOK st S μ x b) : ∃ h1 S' μ', nO 11 17 tyX11 (mkH x st S μ) = some h1 ∧ ∃ h2, f_X11_init x h1 = some h2 ∧ h2.1 = x + 175 ∧ ∃ h3, nO 12 43 tyX12 h2 = some h3 ∧ f_X12_init (x + 175) h3 = some (mkH (x + 198) st S' μ') ∧ R (x + 198) st S' μ' x b ∧ (∀ z, z < x → S' z = S z) ∧ ∀ z j, z < x → μ' z j = μ z j := by
  obtain ⟨S1, v1, r1, m1, o1, z1, w1⟩ := stepO (S := S) (μ := μ) (st := st) (n := x) (k := 11) (N := 17) sl11 ty11
  have hB1 : BaseOK st S1 v1 x b := hB.congr (fun a h => o1 a (by omega)) (fun a j h => w1 a j (by omega))
  obtain ⟨S2, v2, r2, ⟨N1, N2, N3, N4⟩, M2, o2, w2⟩ := k_init11 m1 hB1 z1
  obtain ⟨S3, v3, r3, m3, o3, z3, w3⟩ := stepO (S := S2) (μ := v2) (st := st) (n := x + 175) (k := 12) (N := 43) sl12 ty12
  obtain ⟨S4, v4, r4, hS, o4, w4, g1, g2, g3, g4, g5, g6, g7, g8, g9, g10, g11⟩ := k_init12 (st := st) (μ := v3) m3 z3
  have oo : ∀ z, z < x + 175 → S4 z = S2 z := fun z h => by rw [o4 z h, o3 z (by omega)]
  have M4 : NewM v4 x := M2.to (fun z j h => by rw [w4 z j h, w3 z j (by omega)])
  have hX : ShX S4 x := N1.to (fun a h1 h2 _ _ => oo a h2) ⟨by rw [oo x (by omega)], by rw [oo x (by omega)], fun j _ => by rw [oo x (by omega)]⟩ ⟨by rw [oo _ (by omega)], by rw [oo _ (by omega)]⟩ ⟨by rw [oo _ (by omega)], by rw [oo _ (by omega)]⟩
  refine ⟨_, S4, v4, r1, _, r2, rfl, _, r3, r4, ?_, fun z hz => by rw [oo z (by omega), o2 z hz, o1 z (by omega)], fun z j hz => by rw [w4 z j (by omega), w3 z j (by omega), w2 z j hz, w1 z j (by omega)]⟩
  obtain ⟨k1, k2, k3, k4, k5, k6, k7, k8, k9⟩ := M4
  obtain ⟨D, hD⟩ : ∃ D, v4 (x + 175 + 1) = D := ⟨_, rfl⟩
  rw [hD] at g5 g6 g7 g8 g9 g10 g11
  have d : ∀ j, ¬ j = 7 → ¬ (9 ≤ j ∧ j ≤ 12) → ¬ (1020 ≤ j ∧ j < 1024) → D j = nI 0 := g11
  have N0 : ∀ j, ¬ j = 7 → ¬ (9 ≤ j ∧ j ≤ 12) → ¬ (1020 ≤ j ∧ j < 1024) → nD D j = 0 := fun j h1 h2 h3 => nD_of (d j h1 h2 h3) (by omega)
  have C0 : ∀ j b, ¬ j = 7 → ¬ (9 ≤ j ∧ j ≤ 12) → ¬ (1020 ≤ j ∧ j < 1024) → b < 2 ^ 31 → isC D j b := fun j b h1 h2 h3 hb => isC_of (d j h1 h2 h3) (by omega) hb
  have n0 := N0 0 (by omega) (by omega) (by omega)
  have n1 := N0 1 (by omega) (by omega) (by omega)
  have n2 := N0 2 (by omega) (by omega) (by omega)
  have n3 := N0 3 (by omega) (by omega) (by omega)
  have n4 := N0 4 (by omega) (by omega) (by omega)
  have n5 := N0 5 (by omega) (by omega) (by omega)
  have n6 := N0 6 (by omega) (by omega) (by omega)
  have n8 := N0 8 (by omega) (by omega) (by omega)
  have A : ∀ j q, ¬ j = 14 → ¬ q = 7 → ¬ (9 ≤ q ∧ q ≤ 12) → ¬ (1020 ≤ q ∧ q < 1024) → v4 (x + 1) j = D q := fun j q h1 h2 h3 h4 => (k2 j h1).trans (d q h2 h3 h4).symm
  have hs : Sim v4 (x + 1) D := by
    unfold Sim GA Gx Gw Gm Gv Gb Gs Ge Gr Gh Gl
    simp only [n1, n2, n3, n4, n5, n6, n8, Nat.not_lt_zero, false_implies, implies_true, and_true, true_and]
    refine ⟨A 0 0 (by omega) (by omega) (by omega) (by omega), A 2 6 (by omega) (by omega) (by omega) (by omega), A 4 1 (by omega) (by omega) (by omega) (by omega), A 6 2 (by omega) (by omega) (by omega) (by omega), A 8 3 (by omega) (by omega) (by omega) (by omega), A 10 4 (by omega) (by omega) (by omega) (by omega), A 12 5 (by omega) (by omega) (by omega) (by omega), ⟨k3.trans g5.symm, fun j hj => ?_, fun t g ht hg => (k5 t g ht).trans (d _ (by omega) (by omega) (by omega)).symm⟩, A 18 8 (by omega) (by omega) (by omega) (by omega), fun l hl => Or.inl ⟨?_, (k6 l (by omega)).1⟩, fun l hl => ⟨0, by omega, (k6 l (by omega)).2.2.1⟩⟩
    · rcases (by omega : j = 0 ∨ j = 1 ∨ j = 2 ∨ j = 3) with rfl | rfl | rfl | rfl
      · exact (k4 0 300 rfl).trans g6.symm
      · exact (k4 1 3 rfl).trans g7.symm
      · exact (k4 2 1 rfl).trans g8.symm
      · exact (k4 3 4 rfl).trans g9.symm
    · rw [g10 l hl]
      decide
  have hI : Inv D := by
    unfold Inv IA Iw Im Iv Ib Is Ix Ih Il Ir
    simp only [n1, n2, n3, n4, n5, n6, n8, Nat.not_lt_zero, false_implies, implies_true, and_true, true_and]
    refine ⟨C0 0 9999 (by omega) (by omega) (by omega) (by omega), C0 1 8 (by omega) (by omega) (by omega) (by omega), C0 2 16 (by omega) (by omega) (by omega) (by omega), C0 3 8 (by omega) (by omega) (by omega) (by omega), C0 4 8 (by omega) (by omega) (by omega) (by omega), C0 5 40 (by omega) (by omega) (by omega) (by omega), C0 6 20 (by omega) (by omega) (by omega) (by omega), C0 8 9 (by omega) (by omega) (by omega) (by omega), ⟨Or.inl g5, fun l hl h => ?_, fun l hl => Or.inl (g10 l hl), fun l k hl hk => ?_⟩, ⟨300, by omega, g6⟩, ⟨3, by omega, g7⟩, ⟨1, by omega, g8⟩, ⟨4, by omega, g9⟩, fun g hg => ⟨0, by omega, d _ (by omega) (by omega) (by omega)⟩⟩
    · rw [g5] at h
      rcases (by omega : l = 0 ∨ l = 1 ∨ l = 2 ∨ l = 3) with rfl | rfl | rfl | rfl <;> exact absurd h (by decide)
    · have e : nD D (1020 + l) = 0 := by rw [nD, g10 l hl]; rfl
      rw [e] at hk
      exact absurd hk (by omega)
  have nu : ∀ r, r < 8 → ¬ usedR v4 x r := fun r hr ⟨k, hk, h⟩ => by
    rcases h with h | ⟨h, -⟩
    · have h' := (g2 k hk).symm.trans h
      rcases (by omega : r = 0 ∨ r = 1 ∨ r = 2 ∨ r = 3 ∨ r = 4 ∨ r = 5 ∨ r = 6 ∨ r = 7) with rfl | rfl | rfl | rfl | rfl | rfl | rfl | rfl <;> exact absurd h' (by decide)
    · have h' := (g3 k).symm.trans h
      exact absurd h' (by decide)
  refine ⟨⟨hX, hS, ?_, ?_, (k6 4 (by omega)).2.1, (k6 4 (by omega)).2.2.2⟩, ⟨0, by omega, k7 1, g1 4, fun i hi => absurd hi (by omega)⟩, ⟨0, by omega, k1 9, g1 29, fun i hi => absurd hi (by omega)⟩, ⟨0, by omega, k8 4, g1 38, fun i hi => absurd hi (by omega)⟩, hB.congr (fun z hz => by rw [oo z (by omega), o2 z hz, o1 z (by omega)]) (fun z j hz => by rw [w4 z j (by omega), w3 z j (by omega), w2 z j hz, w1 z j (by omega)]), by omega, none, fun _ => 0, ⟨by rw [oo x (by omega)]; exact N2, g1 2⟩, fun k hk => Or.inl ⟨g2 k hk, by rw [oo _ (by omega)]; exact N3 k hk⟩, fun k hk => Or.inl ⟨g3 k, by rw [oo _ (by omega)]; exact N4 k hk, Or.inr (k9 k hk)⟩, fun r hr h => absurd h (nu r hr), fun r r' hr _ h => absurd h (nu r hr)⟩
  · show Sim v4 (x + 1) (v4 (x + 175 + 1))
    rw [hD]
    exact hs
  · show Inv (v4 (x + 175 + 1))
    rw [hD]
    exact hI
end START
