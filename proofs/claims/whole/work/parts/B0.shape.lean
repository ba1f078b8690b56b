-- ===== a shape that changes =====
/-- a new object at a -/
def upS (S : SH) (a : Nat) (o : Nat × Nat × (Nat → Option (Option Nat))) : SH := fun b => if b = a then o else S b
/-- a reference is put at a's place j -/
def slS (S : SH) (a j : Nat) (r : Option Nat) : SH := fun b => if b = a then ((S a).1, (S a).2.1, fun i => if i = j then some r else (S a).2.2 i) else S b
/-- an object's numbers are 0 -/
def zeR (μ : MU) (a : Nat) : MU := fun b i => if b = a then 0 else μ b i
section SHAPE
variable {n : Nat} {st : Nat → Nat} {S S' : SH} {μ : MU} {x a c l : Nat}
theorem upS_same {o : Nat × Nat × (Nat → Option (Option Nat))} : upS S a o a = o := by simp [upS]
theorem upS_ne {b : Nat} {o : Nat × Nat × (Nat → Option (Option Nat))} (h : ¬ b = a) : upS S a o b = S b := by simp [upS, h]
theorem slS_ne {b j : Nat} {r : Option Nat} (h : ¬ b = a) : slS S a j r b = S b := by simp [slS, h]
theorem slS_at {j : Nat} {r : Option Nat} : slS S a j r a = ((S a).1, (S a).2.1, fun i => if i = j then some r else (S a).2.2 i) := by simp [slS]
theorem zeR_same {i : Nat} : zeR μ a a i = 0 := by simp [zeR]
theorem zeR_ne {b i : Nat} (h : ¬ b = a) : zeR μ a b i = μ b i := by simp [zeR, h]
theorem hnew_mk {k N : Nat} {f : Nat → Value} {sl : Nat → Option (Option Nat)} (h : ∀ j, f j = slV (sl j) 0) : hnew (mkH n st S μ) (k, N, f) = mkH (n + 1) st (upS S n (k, N, sl)) (zeR μ n) := by
  unfold hnew mkH
  refine Prod.ext rfl (Prod.ext (funext fun b => ?_) rfl)
  by_cases hb : b = n
  · subst hb
    have e : f = fun j => slV (sl j) 0 := funext h
    simp [va_up, upS, zeR, e]
  · simp [va_up, upS, zeR, hb]
theorem nO_mk {k N : Nat} {ty : Nat → FieldType} (sl : Nat → Option (Option Nat)) (h : ∀ j, defaultValue (ty j) = slV (sl j) 0) : nO k N ty (mkH n st S μ) = some (mkH (n + 1) st (upS S n (k, N, sl)) (zeR μ n)) := by
  unfold nO
  rw [hnew_mk h]
theorem nA_mk {k B q : Nat} (hq : q ≤ B) (hB : B < 2 ^ 31) : nA k B (.int 0) (nI q) (mkH n st S μ) = some (mkH (n + 1) st (upS S n (k, q, fun _ => none)) (zeR μ n)) := by
  unfold nA
  rw [nI_clamp (by omega), if_pos ⟨nI_pos (by omega), hq⟩, hnew_mk (f := fun _ => Value.int 0) (sl := fun _ => none) (fun _ => rfl)]
theorem nN_mk {k B q : Nat} (hq : q ≤ B) (hB : B < 2 ^ 31) : nA k B .null (nI q) (mkH n st S μ) = some (mkH (n + 1) st (upS S n (k, q, fun _ => some none)) (zeR μ n)) := by
  unfold nA
  rw [nI_clamp (by omega), if_pos ⟨nI_pos (by omega), hq⟩, hnew_mk (f := fun _ => Value.null) (sl := fun _ => some none) (fun _ => rfl)]
theorem hputR_mk {j : Nat} {r : Option Nat} : hput (mkH n st S μ) a j (vOf (tR r)) = mkH n st (slS S a j r) μ := by
  unfold hput mkH
  refine Prod.ext rfl (Prod.ext (funext fun b => ?_) rfl)
  by_cases hb : b = a
  · subst hb
    refine Prod.ext (by simp [va_up, slS]) (Prod.ext (by simp [va_up, slS]) (funext fun i => ?_))
    by_cases hi : i = j
    · subst hi
      simp [va_up, slS, slV]
    · simp [va_up, slS, hi]
  · simp [va_up, slS, hb]
theorem pR_mk {k j : Nat} {r : Option Nat} (hk : (S a).1 = k) : pR k j (mkH n st S μ) (some a) r = some (mkH n st (slS S a j r) μ) := by
  have : ((mkH n st S μ).2.1 a).1 = k := hk
  simp only [pR, pF]
  rw [if_pos this, hputR_mk]
theorem sR_mk {q k : Nat} {r : Option Nat} (hk : (S a).1 = k) (hk2 : 103 ≤ k ∧ k < 110) (hq : q < (S a).2.1) (hl : (S a).2.1 < 2 ^ 31) (hf : ∀ v, r = some v → (S v).1 = kComp k) : sR (mkH n st S μ) (some a) (nI q) r = some (mkH n st (slS S a q r) μ) := by
  have hin : ¬ (nI q < 0 ∨ (S a).2.1 ≤ (nI q).toNatClampNeg) := nI_in hq hl
  have h1 : ((mkH n st S μ).2.1 a).1 = k := hk
  have h2 : fitK (mkH n st S μ) r (kComp ((mkH n st S μ).2.1 a).1) = true := by
    rw [show ((mkH n st S μ).2.1 a).1 = k from hk]
    cases r with
    | none => rfl
    | some v =>
      have := hf v rfl
      show ((S v).1 == kComp k) = true
      rw [this]
      simp
  have h3 : (103 ≤ ((mkH n st S μ).2.1 a).1 ∧ ((mkH n st S μ).2.1 a).1 < 110) ∧ fitK (mkH n st S μ) r (kComp ((mkH n st S μ).2.1 a).1) = true ∧ ¬ (nI q < 0 ∨ ((mkH n st S μ).2.1 a).2.1 ≤ (nI q).toNatClampNeg) := ⟨by rw [h1]; exact hk2, h2, hin⟩
  simp only [sR]
  rw [if_pos h3, nI_clamp (by omega), hputR_mk]
theorem obS.to {k q : Nat} {sl : Nat → Option (Option Nat)} (h : obS S a k q sl) (e : S' a = S a) : obS S' a k q sl := by
  unfold obS
  rw [e]
  exact h
theorem ShL.to (h : ShL S l) (e : ∀ a, l ≤ a → a < l + 6 → S' a = S a) : ShL S' l := by
  obtain ⟨h1, h2, h3, h4, h5, h6⟩ := h
  exact ⟨h1.to (e _ (by omega) (by omega)), h2.to (e _ (by omega) (by omega)), h3.to (e _ (by omega) (by omega)), h4.to (e _ (by omega) (by omega)), h5.to (e _ (by omega) (by omega)), h6.to (e _ (by omega) (by omega))⟩
theorem ShC.to (h : ShC S c) (e : ∀ a, c ≤ a → a < c + 148 → S' a = S a) : ShC S' c := by
  obtain ⟨h1, h2, h3, h4, h5, h6, h7, h8, h9, h10, h11, h12, h13, h14, h15, h16, h17, h18, h19, h20, h21⟩ := h
  exact ⟨h1.to (e _ (by omega) (by omega)), h2.to (e _ (by omega) (by omega)), h3.to (e _ (by omega) (by omega)), h4.to (e _ (by omega) (by omega)), h5.to (e _ (by omega) (by omega)), h6.to (e _ (by omega) (by omega)), h7.to (e _ (by omega) (by omega)), h8.to (e _ (by omega) (by omega)), h9.to (e _ (by omega) (by omega)), h10.to (e _ (by omega) (by omega)), fun i hi => (h11 i hi).to (e _ (by omega) (by omega)), h12.to (e _ (by omega) (by omega)), h13.to (e _ (by omega) (by omega)), fun i hi => (h14 i hi).to (e _ (by omega) (by omega)), fun i hi => (h15 i hi).to (e _ (by omega) (by omega)), fun i hi => (h16 i hi).to (e _ (by omega) (by omega)), fun i hi => (h17 i hi).to (e _ (by omega) (by omega)), fun i hi => (h18 i hi).to (e _ (by omega) (by omega)), fun i hi => (h19 i hi).to (e _ (by omega) (by omega)), fun i hi => (h20 i hi).to (e _ (by omega) (by omega)), fun i hi => (h21 i hi).to fun b q1 q2 => e b (by omega) (by omega)⟩
/-- all but what is shelved, laid, and kept -/
theorem ShX.to (h : ShX S x) (e : ∀ a, x < a → a < x + 175 → ¬ a = x + 168 → ¬ a = x + 171 → S' a = S a) (e0 : (S' x).1 = (S x).1 ∧ (S' x).2.1 = (S x).2.1 ∧ ∀ j, j ≠ 1 → (S' x).2.2 j = (S x).2.2 j) (e1 : (S' (x + 168)).1 = (S (x + 168)).1 ∧ (S' (x + 168)).2.1 = (S (x + 168)).2.1) (e2 : (S' (x + 171)).1 = (S (x + 171)).1 ∧ (S' (x + 171)).2.1 = (S (x + 171)).2.1) : ShX S' x := by
  obtain ⟨⟨h0, h00, h000⟩, h1, h2, h3, h4, h5, h6, h7, h8, h9, h10, h11, h12, h13, h14, h15, h16, h17, h18, h19, h20, h21, h22⟩ := h
  refine ⟨⟨by rw [e0.1]; exact h0, by rw [e0.2.1]; exact h00, fun j hj hj1 => by rw [e0.2.2 j hj1]; exact h000 j hj hj1⟩, h1.to (fun a q1 q2 => e a (by omega) (by omega) (by omega) (by omega)), h2.to (e _ (by omega) (by omega) (by omega) (by omega)), h3.to (e _ (by omega) (by omega) (by omega) (by omega)), h4.to (fun a q1 q2 => e a (by omega) (by omega) (by omega) (by omega)), h5.to (e _ (by omega) (by omega) (by omega) (by omega)), h6.to (e _ (by omega) (by omega) (by omega) (by omega)), h7.to (e _ (by omega) (by omega) (by omega) (by omega)), h8.to (e _ (by omega) (by omega) (by omega) (by omega)), h9.to (e _ (by omega) (by omega) (by omega) (by omega)), h10.to (e _ (by omega) (by omega) (by omega) (by omega)), h11.to (e _ (by omega) (by omega) (by omega) (by omega)), h12.to (e _ (by omega) (by omega) (by omega) (by omega)), h13.to (e _ (by omega) (by omega) (by omega) (by omega)), h14.to (e _ (by omega) (by omega) (by omega) (by omega)), h15.to (e _ (by omega) (by omega) (by omega) (by omega)), ⟨by rw [e1.1]; exact h16.1, by rw [e1.2]; exact h16.2⟩, h17.to (e _ (by omega) (by omega) (by omega) (by omega)), h18.to (e _ (by omega) (by omega) (by omega) (by omega)), ⟨by rw [e2.1]; exact h19.1, by rw [e2.2]; exact h19.2⟩, h20.to (e _ (by omega) (by omega) (by omega) (by omega)), h21.to (e _ (by omega) (by omega) (by omega) (by omega)), h22.to (e _ (by omega) (by omega) (by omega) (by omega))⟩
theorem ShM.to {m : Nat} (h : ShM S m) (e : ∀ a, m ≤ a → a < m + 23 → S' a = S a) : ShM S' m := by
  refine ⟨by rw [e _ (by omega) (by omega)]; exact h.1, fun i q hq => ?_⟩
  have hl : i < rowM.length := by
    rcases Nat.lt_or_ge i rowM.length with h | h
    · exact h
    · rw [List.getElem?_eq_none h] at hq; cases hq
  have h22 : rowM.length = 22 := rfl
  rw [e _ (by omega) (by omega)]
  exact h.2 i q hq
end SHAPE
-- ===== item, put, comesFrom =====
section ITEM
variable {n : Nat} {st : Nat → Nat} {S : SH} {μ : MU} {x b m c l : Nat} {D : DR}
theorem s_isFour (a : Int32) (h : AH) : f_X12_isFour a h = some (bI (inS a 0 3)) := by
  simp only [f_X12_isFour, s_in, some_bind, rZ_bI]
/-- what lies on sheet k -/
theorem sheet_at {K : Option Nat} {ρ : Nat → Nat} (hX : ShX S x) (hSh : SheetOK n S μ x ρ K) {k : Nat} (hk : k < 4) : (μ (x + 191) k = -1 ∧ aR (mkH n st S μ) (some (x + 168)) (nI k) = some none) ∨ ∃ r, r < 8 ∧ μ (x + 191) k = nI r ∧ aR (mkH n st S μ) (some (x + 168)) (nI k) = some (some (ρ r)) ∧ RowOK S μ x (ρ r) r ∧ usedR μ x r := by
  have hk1 : kRef (S (x + 168)).1 = true := by rw [hX.sheets.1]; rfl
  have hk2 : k < (S (x + 168)).2.1 := by rw [hX.sheets.2]; exact hk
  have hk3 : (S (x + 168)).2.1 < 2 ^ 31 := by rw [hX.sheets.2]; omega
  rcases hSh.1 k hk with ⟨h1, h2⟩ | ⟨r, h1, h2, h3⟩
  · exact Or.inl ⟨h1, aR_mk hk1 hk2 hk3 h2⟩
  · have hu : usedR μ x r := ⟨k, hk, Or.inl h2⟩
    exact Or.inr ⟨r, h1, h2, aR_mk hk1 hk2 hk3 h3, (hSh.2.2.1 r h1 hu).1, hu⟩
theorem row_gI {r a : Nat} (h : RowOK S μ x a r) : gI 7 0 (mkH n st S μ) (some a) = some (μ a 0) := ob_gI h.1 (by omega) rfl
theorem row_gR {r a : Nat} (h : RowOK S μ x a r) : gR 7 1 (mkH n st S μ) (some a) = some (some (a + 1)) := ob_gR h.1 (by omega) rfl
theorem row_ck {r a : Nat} (h : RowOK S μ x a r) {α : Type} {f : Option α} : ck 7 (mkH n st S μ) (some a) f = f := ob_ck h.1
theorem inS_len {a : Int32} {len : Nat} (hl : len ≤ 40) : inS a 0 (nI len - 1) = ixB a len := ixB_in (by omega)
theorem q_item (hR : R n st S μ x b) (a1 a2 a3 : Int32) : Que (f_X11_item (some x) a1 a2 a3) (f_X12_item (some (x + 175)) a1 a2 a3) (mkH n st S μ) := by
  obtain ⟨⟨hX, hS, hs, hI, hL0⟩, hRest⟩ := hR
  have hC := hX.city
  have hBase := hRest.2.2.2.1
  obtain ⟨D, hD⟩ : ∃ D, μ (x + 175 + 1) = D := ⟨_, rfl⟩
  replace hs : Sim μ (x + 1) (μ (x + 175 + 1)) := hs
  replace hI : Inv (μ (x + 175 + 1)) := hI
  rw [hD] at hs hI
  obtain ⟨e0, b0⟩ := hI.today
  obtain ⟨e1, b1⟩ := hI.wards
  obtain ⟨e2, b2⟩ := hI.men
  obtain ⟨e3, b3⟩ := hI.words
  obtain ⟨e4, b4⟩ := hI.bars
  obtain ⟨e5, b5⟩ := hI.shes
  obtain ⟨e6, b6⟩ := hI.wets
  obtain ⟨e8, b8⟩ := hI.heaped
  have z0 := hs.today
  have z1 := hs.wardN
  have z2 := hs.manN
  have z3 := hs.wordN
  have z4 := hs.barN
  have z5 := hs.sheN
  have z6 := hs.wetN
  have z8 := hs.heapN
  obtain ⟨-, -, -, -, hn, K, ρ, hK, hSh⟩ := hRest
  by_cases c1 : inS a1 0 3 = true
  case neg => exact ⟨-1, by simp only [f_X11_item, k_within, some_bind, c1, ite_bI0, if_false, Bool.false_eq_true], by simp only [f_X12_item, s_isFour, some_bind, c1, ite_bI0, if_false, Bool.false_eq_true]⟩
  by_cases c2 : inS a2 0 4 = true
  case neg => exact ⟨-1, by simp only [f_X11_item, k_within, some_bind, c1, c2, ite_bI0, if_true, if_false, Bool.false_eq_true], by simp only [f_X12_item, s_isFour, s_in, some_bind, c1, c2, ite_bI0, if_true, if_false, Bool.false_eq_true]⟩
  obtain ⟨k, hk, rfl⟩ := inS_n (M := 3) (by omega) c1
  have hk4 : k < 4 := by omega
  have e31 : aI (mkH n st S μ) (some (x + 175 + 16)) (nI k) = some (μ (x + 191) k) := mA31 hS hk4
  rcases sheet_at (n := n) (st := st) hX hSh hk4 with ⟨h1, h2⟩ | ⟨r, hr, h1, h2, hrow, -⟩
  · have m1 : (-1 : Int32) < 0 := by decide
    exact ⟨-11, by simp only [f_X11_item, k_within, some_bind, c1, c2, ite_bI0, if_true, xR10 hX, h2], by simp only [f_X12_item, b_X12_item_45, s_isFour, s_in, some_bind, c1, c2, ite_bI0, if_true, mR31 hS, e31, h1, m1]⟩
  · have g0 := row_gI (n := n) (st := st) hrow
    have g1 := row_gR (n := n) (st := st) hrow
    have hrow' := hrow
    obtain ⟨-, len, l1, l2, l3, l4, l5, l6⟩ := hrow'
    have r0 : ¬ nI r < (0 : Int32) := nI_pos (by omega)
    have e32 : aI (mkH n st S μ) (some (x + 175 + 17)) (nI r) = some (μ (x + 192) r) := mA32 hS hr
    have e33 : aI (mkH n st S μ) (some (x + 175 + 18)) (nI r) = some (nI len) := by rw [← l3]; exact mA33 hS hr
    have nn : ∀ v : Nat, ¬ (some v : Option Nat) = none := fun v h => by cases h
    have aLn : aL (mkH n st S μ) (some (ρ r + 1)) = some (nI len) := ob_aL l2 (by omega)
    by_cases c3 : μ (x + 192) r = a2
    case neg =>
      refine ⟨-13, ?_, ?_⟩
      · simp only [f_X11_item, k_within, some_bind, c1, c2, ite_bI0, if_true, xR10 hX, h2, nn, if_false, g0, l4, c3]
      · simp only [f_X12_item, s_isFour, s_in, some_bind, c1, c2, ite_bI0, if_true, mR31 hS, e31, h1, r0, if_false, mR32 hS, e32, c3]
    have hix := inS_len (a := a3) l1
    by_cases c4 : ixB a3 len = true
    case neg =>
      refine ⟨-12, ?_, ?_⟩
      · simp only [f_X11_item, k_within, some_bind, c1, c2, ite_bI0, if_true, xR10 hX, h2, nn, if_false, g0, l4, c3, g1, aLn, hix, c4, Bool.false_eq_true]
      · simp only [f_X12_item, b_X12_item_45, s_isFour, s_in, some_bind, c1, c2, ite_bI0, if_true, mR31 hS, e31, h1, r0, if_false, mR32 hS, e32, c3, mR33 hS, e33, hix, c4, Bool.false_eq_true]
    obtain ⟨i, hi, rfl⟩ := ixB_ex (by omega) c4
    have aIn : aI (mkH n st S μ) (some (ρ r + 1)) (nI i) = some (μ (x + 194) (40 * r + i)) := by rw [← l6 i hi]; exact ob_aI l2 hi (by omega)
    have e34 : aI (mkH n st S μ) (some (x + 175 + 19)) (nI (40 * r + i)) = some (μ (x + 194) (40 * r + i)) := mA34 hS (by omega)
    refine ⟨μ (x + 194) (40 * r + i), ?_, ?_⟩
    · simp only [f_X11_item, k_within, some_bind, c1, c2, ite_bI0, if_true, xR10 hX, h2, nn, if_false, g0, l4, c3, g1, aLn, hix, c4, aIn]
    · simp (disch := omega) only [f_X12_item, b_X12_item_45, s_isFour, s_in, some_bind, c1, c2, ite_bI0, if_true, mR31 hS, e31, h1, r0, if_false, mR32 hS, e32, c3, mR33 hS, e33, hix, c4, mR34 hS, lit_mul, nI_add, e34]
end ITEM
