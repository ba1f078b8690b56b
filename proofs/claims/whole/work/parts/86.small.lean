-- ===== the rest, part by part; rows, trace, feed =====
section PARTS
variable {n : Nat} {st : Nat → Nat} {S : SH} {μ μ' : MU} {x b : Nat}
theorem TapeOK.congr (h : TapeOK μ x) (hm : ∀ a j, (a = x + 149 ∧ j = 1) ∨ a = x + 150 ∨ (a = x + 175 ∧ j = 4) ∨ a = x + 178 → μ' a j = μ a j) : TapeOK μ' x := by
  obtain ⟨k, t1, t2, t3, t4⟩ := h
  refine ⟨k, t1, by rw [hm _ _ (by omega)]; exact t2, by rw [hm _ _ (by omega)]; exact t3, fun i hi => ?_⟩
  rw [hm (x + 150) i (by omega), hm (x + 178) i (by omega)]; exact t4 i hi
theorem RowsOK.congr (h : RowsOK μ x) (hm : ∀ a j, (a = x ∧ j = 9) ∨ a = x + 166 ∨ a = x + 167 ∨ (a = x + 175 ∧ j = 29) ∨ a = x + 189 → μ' a j = μ a j) : RowsOK μ' x := by
  obtain ⟨k, t1, t2, t3, t4⟩ := h
  refine ⟨k, t1, by rw [hm _ _ (by omega)]; exact t2, by rw [hm _ _ (by omega)]; exact t3, fun i hi => ?_⟩
  rw [hm (x + 166) i (by omega), hm (x + 167) i (by omega), hm (x + 189) _ (by omega), hm (x + 189) _ (by omega)]; exact t4 i hi
theorem TraceOK.congr (h : TraceOK μ x) (hm : ∀ a j, (a = x + 163 ∧ j = 4) ∨ a = x + 164 ∨ (a = x + 175 ∧ j = 38) ∨ a = x + 197 → μ' a j = μ a j) : TraceOK μ' x := by
  obtain ⟨k, t1, t2, t3, t4⟩ := h
  refine ⟨k, t1, by rw [hm _ _ (by omega)]; exact t2, by rw [hm _ _ (by omega)]; exact t3, fun i hi => ?_⟩
  rw [hm (x + 164) i (by omega), hm (x + 197) i (by omega)]; exact t4 i hi
theorem KeptOK.congr {K : Option Nat} (hK : KeptOK n S μ x K) (hm : ∀ a j, (a = x + 175 ∧ j = 2) ∨ a = x + 177 ∨ x + 198 ≤ a → μ' a j = μ a j) : KeptOK n S μ' x K := by
  refine ⟨hK.1, ?_⟩
  have := hK.2
  cases K with
  | none => simp only [] at this ⊢; rw [hm (x + 175) 2 (by omega)]; exact this
  | some K =>
    simp only [] at this ⊢
    obtain ⟨k1, k2, k3, k4, k5, k6⟩ := this
    have hD : μ' (x + 177) = μ (x + 177) := funext fun q => hm _ _ (by omega)
    refine ⟨by rw [hm (x + 175) 2 (by omega)]; exact k1, k2, k3, k4, ?_, by rw [hD]; exact k6⟩
    exact Sim.congr k6 k5 (fun a j h => hm a j (by omega)) (fun q => hm _ _ (by omega))
theorem SheetOK.congr {K : Option Nat} {ρ : Nat → Nat} (hSh : SheetOK n S μ x ρ K) (hm : ∀ a j, a = x + 169 ∨ a = x + 170 ∨ (x + 191 ≤ a ∧ a ≤ x + 196) ∨ x + 198 ≤ a → μ' a j = μ a j) : SheetOK n S μ' x ρ K := by
  obtain ⟨s1, s2, s3, s4⟩ := hSh
  have hu : ∀ r, usedR μ' x r ↔ usedR μ x r := by
    intro r
    unfold usedR
    simp (disch := omega) only [hm]
  refine ⟨?_, ?_, ?_, ?_⟩
  · intro k hk; rw [hm (x + 191) k (by omega)]; exact s1 k hk
  · intro k hk; rw [hm (x + 195) k (by omega), hm (x + 196) k (by omega), hm (x + 169) k (by omega), hm (x + 170) k (by omega)]; exact s2 k hk
  · intro r hr hur
    obtain ⟨⟨q1, len, q2, q3, q4, q5, q6, q7⟩, q8, q9⟩ := s3 r hr ((hu r).mp hur)
    refine ⟨⟨q1, len, q2, q3, by rw [hm (x + 193) r (by omega)]; exact q4, by rw [hm (ρ r) 0 (by omega), hm (x + 192) r (by omega)]; exact q5, by rw [hm (ρ r) 0 (by omega)]; exact q6, fun i hi => ?_⟩, q8, q9⟩
    rw [hm (ρ r + 1) i (by omega), hm (x + 194) _ (by omega)]; exact q7 i hi
  · intro r r' h1 h2 h3 h4; exact s4 r r' h1 h2 ((hu r).mp h3) ((hu r').mp h4)
theorem Core.keep (h : Core S μ x) (hm : ∀ a j, x + 1 ≤ a ∧ a ≤ x + 148 → μ' a j = μ a j) (hd : ∀ q, μ' (x + 176) q = μ (x + 176) q) : Core S μ' x := by
  obtain ⟨h1, h2, h3, h4, h5⟩ := h
  have hD : μ' (x + 176) = μ (x + 176) := funext hd
  refine ⟨h1, h2, ?_, by rw [hD]; exact h4, ?_⟩
  · exact Sim.congr h4 h3 (fun a j h => hm a j (by omega)) (fun q => by rw [hD])
  · refine ⟨by rw [hm (x + 143) 1 (by omega)]; exact h5.1, fun i hi => ?_⟩
    rw [hm (x + 143 + 2) i (by omega)]; exact h5.2 i hi
end PARTS
section SMALL
variable {n : Nat} {st : Nat → Nat} {S : SH} {μ : MU} {x b m c l : Nat} {D : DR}
theorem q_row (hR : R n st S μ x b) (a1 a2 : Int32) : Que (f_X11_row (some x) a1 a2) (f_X12_row (some (x + 175)) a1 a2) (mkH n st S μ) := by
  obtain ⟨⟨hX, hS, hs, hI, hL0⟩, hRest⟩ := hR
  have hC := hX.city
  have hBase := hRest.2.2.2.1
  obtain ⟨D, hD⟩ : ∃ D, μ (x + 175 + 1) = D := ⟨_, rfl⟩
  replace hs : Sim μ (x + 1) (μ (x + 175 + 1)) := hs
  replace hI : Inv (μ (x + 175 + 1)) := hI
  rw [hD] at hs hI
  obtain ⟨e0, b0⟩ := hI.today
  obtain ⟨e1, b1⟩ := hI.wards
  obtain ⟨e2, b2⟩ := hI.men
  obtain ⟨e3, b3⟩ := hI.words
  obtain ⟨e4, b4⟩ := hI.bars
  obtain ⟨e5, b5⟩ := hI.shes
  obtain ⟨e6, b6⟩ := hI.wets
  obtain ⟨e8, b8⟩ := hI.heaped
  have z0 := hs.today
  have z1 := hs.wardN
  have z2 := hs.manN
  have z3 := hs.wordN
  have z4 := hs.barN
  have z5 := hs.sheN
  have z6 := hs.wetN
  have z8 := hs.heapN
  obtain ⟨k, t1, t2, t3, t4⟩ := hRest.2.1
  have hix := ixB_in (a := a1) (N := k) (by omega)
  by_cases c1 : ixB a1 k = true
  case neg => exact ⟨-9, by simp only [f_X11_row, xI9 hX, some_bind, t2, k_within, hix, c1, ite_bI0, if_false, Bool.false_eq_true], by simp only [f_X12_row, mI29 hS, some_bind, t3, s_in, hix, c1, ite_bI0, if_false, Bool.false_eq_true]⟩
  by_cases c2 : inS a2 0 1 = true
  case neg => exact ⟨-9, by simp only [f_X11_row, xI9 hX, some_bind, t2, k_within, hix, c1, c2, ite_bI0, if_true, if_false, Bool.false_eq_true], by simp only [f_X12_row, mI29 hS, some_bind, t3, s_in, hix, c1, c2, ite_bI0, if_true, if_false, Bool.false_eq_true]⟩
  obtain ⟨i, hi, rfl⟩ := ixB_ex (by omega) c1
  obtain ⟨j, hj, rfl⟩ := inS_n (M := 1) (by omega) c2
  obtain ⟨u1, u2⟩ := t4 i hi
  refine ⟨μ (x + 189) (2 * i + j), ?_, ?_⟩
  · rcases (by omega : j = 0 ∨ j = 1) with rfl | rfl
    · have : nI 0 = (0 : Int32) := rfl
      simp (disch := omega) only [f_X11_row, xI9 hX, some_bind, t2, k_within, hix, c1, c2, ite_bI0, if_true, xR7 hX, xARMa hX, u1, Nat.add_zero]
      rw [if_pos this]
    · have : ¬ nI 1 = (0 : Int32) := by decide
      simp (disch := omega) only [f_X11_row, xI9 hX, some_bind, t2, k_within, hix, c1, c2, ite_bI0, if_true, this, if_false, xR8 hX, xARCl hX, u2]
  · have a28 := mA28 (n := n) (st := st) (μ := μ) hS (q := 2 * i + j) (by omega)
    simp (disch := omega) only [f_X12_row, mI29 hS, some_bind, t3, s_in, hix, c1, c2, ite_bI0, if_true, mR28 hS, lit_mul, nI_add, a28]
theorem op_alterRow (hR : R n st S μ x b) (a1 a2 a3 : Int32) : Res (f_X11_alterRow (some x) a1 a2 a3) (f_X12_alterRow (some (x + 175)) a1 a2 a3) n st S μ x b := by
  have hR' := hR
  obtain ⟨⟨hX, hS, hs, hI, hL0⟩, hRest⟩ := hR
  have hC := hX.city
  have hBase := hRest.2.2.2.1
  obtain ⟨D, hD⟩ : ∃ D, μ (x + 175 + 1) = D := ⟨_, rfl⟩
  replace hs : Sim μ (x + 1) (μ (x + 175 + 1)) := hs
  replace hI : Inv (μ (x + 175 + 1)) := hI
  rw [hD] at hs hI
  obtain ⟨e0, b0⟩ := hI.today
  obtain ⟨e1, b1⟩ := hI.wards
  obtain ⟨e2, b2⟩ := hI.men
  obtain ⟨e3, b3⟩ := hI.words
  obtain ⟨e4, b4⟩ := hI.bars
  obtain ⟨e5, b5⟩ := hI.shes
  obtain ⟨e6, b6⟩ := hI.wets
  obtain ⟨e8, b8⟩ := hI.heaped
  have z0 := hs.today
  have z1 := hs.wardN
  have z2 := hs.manN
  have z3 := hs.wordN
  have z4 := hs.barN
  have z5 := hs.sheN
  have z6 := hs.wetN
  have z8 := hs.heapN
  obtain ⟨hTape, ⟨k, t1, t2, t3, t4⟩, hTrace, -, hn, K, ρ, hK, hSh⟩ := hRest
  have hix := ixB_in (a := a1) (N := k) (by omega)
  by_cases c1 : ixB a1 k = true
  case neg => exact Res.same hR' (-9) (by simp only [f_X11_alterRow, xI9 hX, some_bind, t2, k_within, hix, c1, ite_bI0, if_false, Bool.false_eq_true]) (by simp only [f_X12_alterRow, mI29 hS, some_bind, t3, s_in, hix, c1, ite_bI0, if_false, Bool.false_eq_true])
  by_cases c2 : inS a2 0 1 = true
  case neg => exact Res.same hR' (-9) (by simp only [f_X11_alterRow, xI9 hX, some_bind, t2, k_within, hix, c1, c2, ite_bI0, if_true, if_false, Bool.false_eq_true]) (by simp only [f_X12_alterRow, mI29 hS, some_bind, t3, s_in, hix, c1, c2, ite_bI0, if_true, if_false, Bool.false_eq_true])
  obtain ⟨i, hi, rfl⟩ := ixB_ex (by omega) c1
  obtain ⟨j, hj, rfl⟩ := inS_n (M := 1) (by omega) c2
  obtain ⟨u1, u2⟩ := t4 i hi
  have hu : μ (x + 166 + j) i = μ (x + 189) (2 * i + j) := by
    rcases (by omega : j = 0 ∨ j = 1) with rfl | rfl
    · exact u1
    · exact u2
  have fx : f_X11_alterRow (some x) (nI i) (nI j) a3 (mkH n st S μ) = some (μ (x + 189) (2 * i + j), mkH n st S (up2 μ (x + 166 + j) i a3)) := by
    rcases (by omega : j = 0 ∨ j = 1) with rfl | rfl
    · have : nI 0 = (0 : Int32) := rfl
      simp (disch := omega) only [f_X11_alterRow, b_X11_alterRow_41, xI9 hX, some_bind, t2, k_within, hix, c1, c2, ite_bI0, if_true, xR7 hX, xARMa hX, xSRMa hX, u1, Nat.add_zero]
      rw [if_pos this]
    · have : ¬ nI 1 = (0 : Int32) := by decide
      simp (disch := omega) only [f_X11_alterRow, b_X11_alterRow_41, xI9 hX, some_bind, t2, k_within, hix, c1, c2, ite_bI0, if_true, this, if_false, xR8 hX, xARCl hX, xSRCl hX, u2]
  have e29 : up2 μ (x + 166 + j) i a3 (x + 175) 29 = nI k := by rw [up2_ne (by omega)]; exact t3
  have fm : f_X12_alterRow (some (x + 175)) (nI i) (nI j) a3 (mkH n st S (up2 μ (x + 166 + j) i a3)) = some (μ (x + 189) (2 * i + j), mkH n st S (up2 (up2 μ (x + 166 + j) i a3) (x + 175 + 14) (2 * i + j) a3)) := by
    have a28 := mA28 (n := n) (st := st) (μ := up2 μ (x + 166 + j) i a3) hS (q := 2 * i + j) (by omega)
    have s28 := mS28 (n := n) (st := st) (μ := up2 μ (x + 166 + j) i a3) (v := a3) hS (q := 2 * i + j) (by omega)
    rw [up2_ne (by omega)] at a28
    simp (disch := omega) only [f_X12_alterRow, mI29 hS, some_bind, e29, s_in, hix, c1, c2, ite_bI0, if_true, mR28 hS, lit_mul, nI_add, a28, s28]
  refine ⟨_, _, n, S, up2 (up2 μ (x + 166 + j) i a3) (x + 175 + 14) (2 * i + j) a3, fx, fm, ?_, ?_⟩
  · exact hR'.1.keep (fun a q h => by rw [up2_ne (by omega), up2_ne (by omega)]) (fun q => by rw [up2_ne (by omega), up2_ne (by omega)])
  · refine ⟨hTape.congr (fun a q h => by rw [up2_ne (by omega), up2_ne (by omega)]), ⟨k, t1, by rw [up2_ne (by omega), up2_ne (by omega)]; exact t2, by rw [up2_ne (by omega), up2_ne (by omega)]; exact t3, fun i' hi' => ?_⟩, hTrace.congr (fun a q h => by rw [up2_ne (by omega), up2_ne (by omega)]), hBase.congr (fun _ _ => rfl) (fun a q h => by rw [up2_ne (by omega), up2_ne (by omega)]), hn, K, ρ, hK.congr (fun a q h => by rw [up2_ne (by omega), up2_ne (by omega)]), hSh.congr (fun a q h => by rw [up2_ne (by omega), up2_ne (by omega)])⟩
    obtain ⟨v1, v2⟩ := t4 i' hi'
    have ex : x + 175 + 14 = x + 189 := by omega
    rw [ex]
    by_cases hii : i' = i
    · subst hii
      rcases (by omega : j = 0 ∨ j = 1) with rfl | rfl
      · refine ⟨?_, ?_⟩
        · simp only [Nat.add_zero]
          rw [up2_ne (by omega), up2_same, up2_same]
        · rw [up2_ne (by omega), up2_ne (by omega), up2_ne (by omega), up2_ne (by omega)]; exact v2
      · refine ⟨?_, ?_⟩
        · rw [up2_ne (by omega), up2_ne (by omega), up2_ne (by omega), up2_ne (by omega)]; exact v1
        · rw [show x + 166 + 1 = x + 167 from by omega, up2_ne (by omega), up2_same, up2_same]
    · refine ⟨?_, ?_⟩
      · rw [up2_ne (by omega), up2_ne (by omega), up2_ne (by omega), up2_ne (by omega)]; exact v1
      · rw [up2_ne (by omega), up2_ne (by omega), up2_ne (by omega), up2_ne (by omega)]; exact v2
theorem q_trace (hR : R n st S μ x b) (a1 : Int32) : Que (f_X11_trace (some x) a1) (f_X12_trace (some (x + 175)) a1) (mkH n st S μ) := by
  obtain ⟨⟨hX, hS, hs, hI, hL0⟩, hRest⟩ := hR
  have hC := hX.city
  have hBase := hRest.2.2.2.1
  obtain ⟨D, hD⟩ : ∃ D, μ (x + 175 + 1) = D := ⟨_, rfl⟩
  replace hs : Sim μ (x + 1) (μ (x + 175 + 1)) := hs
  replace hI : Inv (μ (x + 175 + 1)) := hI
  rw [hD] at hs hI
  obtain ⟨e0, b0⟩ := hI.today
  obtain ⟨e1, b1⟩ := hI.wards
  obtain ⟨e2, b2⟩ := hI.men
  obtain ⟨e3, b3⟩ := hI.words
  obtain ⟨e4, b4⟩ := hI.bars
  obtain ⟨e5, b5⟩ := hI.shes
  obtain ⟨e6, b6⟩ := hI.wets
  obtain ⟨e8, b8⟩ := hI.heaped
  have z0 := hs.today
  have z1 := hs.wardN
  have z2 := hs.manN
  have z3 := hs.wordN
  have z4 := hs.barN
  have z5 := hs.sheN
  have z6 := hs.wetN
  have z8 := hs.heapN
  obtain ⟨k, t1, t2, t3, t4⟩ := hRest.2.2.1
  have hix := ixB_in (a := a1) (N := k) (by omega)
  by_cases c1 : ixB a1 k = true
  case neg => exact ⟨-3, by simp only [f_X11_trace, xR4 hX, acI4 hX, some_bind, t2, k_within, hix, c1, ite_bI0, if_false, Bool.false_eq_true], by simp only [f_X12_trace, mI38 hS, some_bind, t3, s_in, hix, c1, ite_bI0, if_false, Bool.false_eq_true]⟩
  obtain ⟨i, hi, rfl⟩ := ixB_ex (by omega) c1
  have u := t4 i hi
  have a37 := mA37 (n := n) (st := st) (μ := μ) hS (q := i) (by omega)
  exact ⟨μ (x + 197) i, by simp (disch := omega) only [f_X11_trace, xR4 hX, acI4 hX, some_bind, t2, k_within, hix, c1, ite_bI0, if_true, acR3 hX, xATra hX, u], by simp (disch := omega) only [f_X12_trace, mI38 hS, some_bind, t3, s_in, hix, c1, ite_bI0, if_true, mR37 hS, a37]⟩
-- ===== bytes are fed =====
theorem feed_and (v : Int64) : v.toInt32 &&& 255 = (v &&& 255).toInt32 := by
  apply Int32.toBitVec_inj.mp
  show v.toBitVec.signExtend 32 &&& 255#32 = (v.toBitVec &&& 255#64).signExtend 32
  rw [BitVec.signExtend_eq_setWidth_of_le _ (by omega), BitVec.signExtend_eq_setWidth_of_le _ (by omega), BitVec.setWidth_and]
  rfl
theorem and_255 (w : Int32) : isN (w &&& 255) 256 := by
  refine ⟨(w &&& 255).toBitVec.toNat, ?_, ?_⟩
  · have : (w &&& 255).toBitVec = w.toBitVec &&& 255#32 := rfl
    rw [this, BitVec.toNat_and]
    have h2 : (255#32).toNat = 255 := by decide
    rw [h2]
    have := Nat.and_le_right (n := w.toBitVec.toNat) (m := 255)
    omega
  · apply Int32.toBitVec_inj.mp
    rw [nI_bv]
    apply BitVec.eq_of_toNat_eq
    rw [BitVec.toNat_ofNat]
    exact (Nat.mod_eq_of_lt (BitVec.isLt _)).symm
/-- the k-th byte -/
def bytS (e : Int64) (k : Nat) : Int32 := ((e >>> (((8 * nI k) : Int32).toInt64 &&& 63)) : Int64).toInt32 &&& 255
/-- a row with bytes written from z on -/
def fedR (μ : MU) (a z : Nat) (e : Int64) (lo hi : Nat) : MU := fun b i => if b = a ∧ z + lo ≤ i ∧ i < z + hi then bytS e (i - z) else μ b i
theorem fedR_ne {μ : MU} {a z lo hi b i : Nat} {e : Int64} (h : ¬ (b = a ∧ z + lo ≤ i ∧ i < z + hi)) : fedR μ a z e lo hi b i = μ b i := by simp only [fedR, if_neg h]
theorem fedR_up {μ : MU} {a z lo hi : Nat} {e : Int64} (h : lo < hi) : fedR (up2 μ a (z + lo) (bytS e lo)) a z e (lo + 1) hi = fedR μ a z e lo hi := by
  funext b i
  unfold fedR up2
  by_cases h1 : b = a ∧ i = z + lo
  · rw [if_pos h1, if_neg (by omega), if_pos (by omega), show i - z = lo from by omega]
  · by_cases h2 : b = a ∧ z + (lo + 1) ≤ i ∧ i < z + hi
    · rw [if_pos h2, if_pos (by omega)]
    · rw [if_neg h2, if_neg h1, if_neg (by omega)]
theorem fedR_nil {μ : MU} {a z lo : Nat} {e : Int64} : fedR μ a z e lo lo = μ := by
  funext b i
  unfold fedR
  rw [if_neg (by omega)]
theorem k_feedL (hX : ShX S x) (e : Int64) {z w : Nat} (hz : z + w ≤ 300) : ∀ k j fu (μ : MU), μ (x + 149) 1 = nI z → j + k = w → k < fu → b_X11_feed_33 fu (some x) e (nI w) (nI j) (mkH n st S μ) = some (nI (z + w), mkH n st S (up2 (fedR μ (x + 150) z e j w) (x + 149) 1 (nI (z + w)))) := by
  intro k
  induction k with
  | zero =>
    intro j fu μ h1 hj hf
    obtain ⟨fu, rfl⟩ : ∃ q, fu = q + 1 := ⟨fu - 1, by omega⟩
    obtain rfl : j = w := by omega
    rw [fedR_nil]
    simp (disch := omega) only [b_X11_feed_33, nn_lt, natF, if_false, xR2 hX, some_bind, rdI1 hX, h1, nI_add, rdP1 hX, up2_same]
  | succ k ih =>
    intro j fu μ h1 hj hf
    obtain ⟨fu, rfl⟩ : ∃ q, fu = q + 1 := ⟨fu - 1, by omega⟩
    have h1' : up2 μ (x + 150) (z + j) (bytS e j) (x + 149) 1 = nI z := by rw [up2_ne (by omega)]; exact h1
    have := ih (j + 1) fu _ h1' (by omega) (by omega)
    rw [fedR_up (by omega)] at this
    rw [← this]
    simp (disch := omega) only [b_X11_feed_33, nn_lt, natT, if_true, xR2 hX, some_bind, rdR0 hX, rdI1 hX, h1, nI_add, xSTap hX, nI_1]
    rfl
theorem r_feedL (hS : ShM S m) (e : Int64) {z w : Nat} (hz : z + w ≤ 300) : ∀ k j fu (μ : MU), μ m 4 = nI (z + j) → j + k = w → k < fu → ∃ μ', b_X12_feed_30 fu (some m) e (nI w) (nI j) (mkH n st S μ) = some (nI (z + w), mkH n st S μ') ∧ μ' m 4 = nI (z + w) ∧ (∀ i, z + j ≤ i → i < z + w → μ' (m + 3) i = bytS e (i - z)) ∧ ∀ a i, ¬ (a = m ∧ i = 4) → ¬ (a = m + 3 ∧ z + j ≤ i) → μ' a i = μ a i := by
  intro k
  induction k with
  | zero =>
    intro j fu μ h1 hj hf
    obtain ⟨fu, rfl⟩ : ∃ q, fu = q + 1 := ⟨fu - 1, by omega⟩
    obtain rfl : j = w := by omega
    refine ⟨μ, ?_, h1, fun i q1 q2 => absurd q1 (by omega), fun _ _ _ _ => rfl⟩
    simp (disch := omega) only [b_X12_feed_30, nn_lt, natF, if_false, mI4 hS, some_bind, h1]
  | succ k ih =>
    intro j fu μ h1 hj hf
    obtain ⟨fu, rfl⟩ : ∃ q, fu = q + 1 := ⟨fu - 1, by omega⟩
    obtain ⟨μ1, hμ1⟩ : ∃ q, q = up2 (up2 μ (m + 3) (z + j) (bytS e j)) m 4 (nI (z + (j + 1))) := ⟨_, rfl⟩
    obtain ⟨μ', r1, r2, r3, r4⟩ := ih (j + 1) fu μ1 (by rw [hμ1, up2_same]) (by omega) (by omega)
    refine ⟨μ', ?_, r2, ?_, ?_⟩
    · rw [← r1, hμ1]
      have e1 : up2 μ (m + 3) (z + j) (bytS e j) m 4 = nI (z + j) := by rw [up2_ne (by omega)]; exact h1
      have e2 : ((((e >>> (((8 * nI j) : Int32).toInt64 &&& 63)) &&& 255) : Int64).toInt32) = bytS e j := (feed_and _).symm
      simp (disch := omega) only [b_X12_feed_30, nn_lt, natT, if_true, mR3 hS, some_bind, mI4 hS, h1, e2, mS3 hS, e1, nI_1, mP4 hS]
      rfl
    · intro i q1 q2
      by_cases hi : i = z + j
      · subst hi
        rw [r4 _ _ (by omega) (by omega), hμ1, up2_ne (by omega), up2_same, show z + j - z = j from by omega]
      · exact r3 i (by omega) q2
    · intro a i q1 q2
      rw [r4 a i q1 (by omega), hμ1, up2_ne q1, up2_ne (by omega)]
theorem op_feed (hR : R n st S μ x b) (e : Int64) (a2 : Int32) : Res (f_X11_feed (some x) e a2) (f_X12_feed (some (x + 175)) e a2) n st S μ x b := by
  have hR' := hR
  obtain ⟨⟨hX, hS, hs, hI, hL0⟩, hRest⟩ := hR
  have hC := hX.city
  have hBase := hRest.2.2.2.1
  obtain ⟨D, hD⟩ : ∃ D, μ (x + 175 + 1) = D := ⟨_, rfl⟩
  replace hs : Sim μ (x + 1) (μ (x + 175 + 1)) := hs
  replace hI : Inv (μ (x + 175 + 1)) := hI
  rw [hD] at hs hI
  obtain ⟨e0, b0⟩ := hI.today
  obtain ⟨e1, b1⟩ := hI.wards
  obtain ⟨e2, b2⟩ := hI.men
  obtain ⟨e3, b3⟩ := hI.words
  obtain ⟨e4, b4⟩ := hI.bars
  obtain ⟨e5, b5⟩ := hI.shes
  obtain ⟨e6, b6⟩ := hI.wets
  obtain ⟨e8, b8⟩ := hI.heaped
  have z0 := hs.today
  have z1 := hs.wardN
  have z2 := hs.manN
  have z3 := hs.wordN
  have z4 := hs.barN
  have z5 := hs.sheN
  have z6 := hs.wetN
  have z8 := hs.heapN
  obtain ⟨⟨z, t1, t2, t3, t4⟩, hRows, hTrace, -, hn, K, ρ, hK, hSh⟩ := hRest
  by_cases c1 : inS a2 1 8 = true
  case neg => exact Res.same hR' (-1) (by simp only [f_X11_feed, k_within, c1, some_bind, ite_bI0, if_false, Bool.false_eq_true]) (by simp only [f_X12_feed, s_in, c1, some_bind, ite_bI0, if_false, Bool.false_eq_true])
  obtain ⟨w, w1, w2, rfl⟩ := inS_lo (a := 1) (c := 8) (by omega) (by omega) c1
  have es : (300 : Int32) - nI w = nI (300 - w) := pk_sub (a := 300) (by omega)
  have em : nI z + nI w = nI (z + w) := nI_add z w
  by_cases c2 : 300 < z + w
  · refine Res.same hR' (-2) ?_ ?_
    · simp (disch := omega) only [f_X11_feed, k_within, c1, some_bind, ite_bI0, if_true, xR2 hX, rdI1 hX, t2, es, nn_lt, natT]
    · simp (disch := omega) only [f_X12_feed, s_in, c1, some_bind, ite_bI0, if_true, mI4 hS, t3, em, lit_gt, natT]
  · obtain ⟨fu, hfu, hfl⟩ : ∃ q, FU = q ∧ 301 < q := ⟨FU, rfl, by decide⟩
    have kL := k_feedL (n := n) (st := st) hX e (z := z) (w := w) (by omega) w 0 fu μ t2 (by omega) (by omega)
    obtain ⟨μ1, hμ1⟩ : ∃ q, q = up2 (fedR μ (x + 150) z e 0 w) (x + 149) 1 (nI (z + w)) := ⟨_, rfl⟩
    have h1n : ∀ a j, ¬ (a = x + 149 ∧ j = 1) → ¬ (a = x + 150 ∧ z ≤ j) → μ1 a j = μ a j := fun a j q1 q2 => by rw [hμ1, up2_ne q1, fedR_ne (by omega)]
    obtain ⟨μ2, r1, r2, r3, r4⟩ := r_feedL (n := n) (st := st) hS e (z := z) (w := w) (by omega) w 0 fu μ1 (by rw [h1n _ _ (by omega) (by omega)]; exact t3) (by omega) (by omega)
    have h2n : ∀ a j, ¬ (a = x + 149 ∧ j = 1) → ¬ (a = x + 150 ∧ z ≤ j) → ¬ (a = x + 175 ∧ j = 4) → ¬ (a = x + 178 ∧ z ≤ j) → μ2 a j = μ a j := fun a j q1 q2 q3 q4 => by rw [r4 a j q3 (by omega), h1n a j q1 q2]
    refine ⟨nI (z + w), mkH n st S μ1, n, S, μ2, ?_, ?_, ?_, ?_⟩
    · rw [hμ1, ← kL, ← hfu]
      simp (disch := omega) only [f_X11_feed, k_within, c1, some_bind, ite_bI0, if_true, xR2 hX, rdI1 hX, t2, es, nn_lt, natF, if_false]
      rfl
    · have e4 : μ1 (x + 175) 4 = nI z := by rw [h1n _ _ (by omega) (by omega)]; exact t3
      rw [← r1, ← hfu]
      simp (disch := omega) only [f_X12_feed, s_in, c1, some_bind, ite_bI0, if_true, mI4 hS, e4, em, lit_gt, natF, if_false]
      rfl
    · exact hR'.1.keep (fun a q h => h2n a q (by omega) (by omega) (by omega) (by omega)) (fun q => h2n _ _ (by omega) (by omega) (by omega) (by omega))
    · refine ⟨⟨z + w, by omega, ?_, r2, fun i hi => ?_⟩, hRows.congr (fun a q h => h2n a q (by omega) (by omega) (by omega) (by omega)), hTrace.congr (fun a q h => h2n a q (by omega) (by omega) (by omega) (by omega)), hBase.congr (fun _ _ => rfl) (fun a q h => h2n a q (by omega) (by omega) (by omega) (by omega)), hn, K, ρ, hK.congr (fun a q h => h2n a q (by omega) (by omega) (by omega) (by omega)), hSh.congr (fun a q h => h2n a q (by omega) (by omega) (by omega) (by omega))⟩
      · rw [r4 _ _ (by omega) (by omega), hμ1, up2_same]
      · by_cases hiz : i < z
        · rw [h2n _ _ (by omega) (by omega) (by omega) (by omega), h2n _ _ (by omega) (by omega) (by omega) (by omega)]
          exact t4 i hiz
        · have q3 : μ2 (x + 178) i = bytS e (i - z) := r3 i (by omega) hi
          rw [q3]
          refine ⟨?_, and_255 _⟩
          rw [r4 _ _ (by omega) (by omega), hμ1, up2_ne (by omega)]
          unfold fedR
          rw [if_pos ⟨rfl, by omega, hi⟩]
end SMALL
