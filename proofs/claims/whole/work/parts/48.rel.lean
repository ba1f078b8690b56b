-- ===== the relation between class and reference =====
theorem mkH_st {n : Nat} {st : Nat → Nat} {S : SH} {μ : MU} : (mkH n st S μ).2.2 = st := rfl
theorem mkH_n {n : Nat} {st : Nat → Nat} {S : SH} {μ : MU} : (mkH n st S μ).1 = n := rfl
/-- memory that no answer of a later call rests on -/
def scr (x a j : Nat) : Prop := a = x + 14 ∨ a = x + 123 ∨ a = x + 124 ∨ a = x + 129 ∨ a = x + 130 ∨ a = x + 135 ∨ a = x + 136 ∨ a = x + 141 ∨ a = x + 142 ∨ a = x + 147 ∨ a = x + 148 ∨ (x + 151 ≤ a ∧ a ≤ x + 162) ∨ (a = x + 149 ∧ j ≠ 1) ∨ a = x + 165 ∨ (a = x ∧ j = 6) ∨ (x + 172 ≤ a ∧ a ≤ x + 174) ∨ (a = x + 163 ∧ (j = 0 ∨ j = 1 ∨ j = 2 ∨ j = 5)) ∨ (x + 179 ≤ a ∧ a ≤ x + 188) ∨ a = x + 190 ∨ (a = x + 175 ∧ ((11 ≤ j ∧ j ≤ 18) ∨ (22 ≤ j ∧ j ≤ 26) ∨ (39 ≤ j ∧ j ≤ 42)))
/-- memory outside the city of both -/
def oth (x a j : Nat) : Prop := a < x ∨ (a = x ∧ j = 9) ∨ (a = x + 149 ∧ j = 1) ∨ a = x + 150 ∨ (a = x + 163 ∧ j = 4) ∨ a = x + 164 ∨ a = x + 166 ∨ a = x + 167 ∨ a = x + 169 ∨ a = x + 170 ∨ (a = x + 175 ∧ (j = 2 ∨ j = 4 ∨ j = 29 ∨ j = 38)) ∨ a = x + 177 ∨ a = x + 178 ∨ a = x + 189 ∨ (x + 191 ≤ a ∧ a ≤ x + 197) ∨ x + 198 ≤ a
def Agr (x : Nat) (μ μ' : MU) : Prop := ∀ a j, ¬ scr x a j → μ' a j = μ a j
theorem Agr.refl {x : Nat} {μ : MU} : Agr x μ μ := fun _ _ _ => rfl
theorem Agr.trans {x : Nat} {μ μ' μ'' : MU} (h : Agr x μ μ') (h' : Agr x μ' μ'') : Agr x μ μ'' := fun a j q => (h' a j q).trans (h a j q)
theorem oth_scr {x a j : Nat} (h : oth x a j) : ¬ scr x a j := by
  unfold oth at h
  unfold scr
  omega
def stV (j : Nat) : List Int32 := match j with
  | 0 => [300, 3, 1, 4]
  | 1 => [1200, 20, 20, 36]
  | 2 => [-1, 0, 1, 1, 0, 0, 5]
  | 3 => [0, 1, 2, 4, 8, 16, 32, 3, 5, 6, 9, 10, 12, 17, 18, 20, 24, 33, 34, 36, 40, 48, 7, 11, 13, 14, 19, 21, 22, 25, 26, 28, 35, 37, 38, 41, 42, 44, 49, 50, 52, 56, 15, 23, 27, 29, 30, 39, 43, 45, 46, 51, 53, 54, 57, 58, 60, 31, 47, 55, 59, 61, 62, 63]
  | _ => [103, 111, 111, 100, 0, 101, 110, 111, 117, 103, 104, 0, 114, 101, 99, 97, 108, 108, 0, 109, 97, 121, 0, 121, 101, 97, 114, 115, 0, 111, 114, 0, 97, 110, 100, 0, 110, 111, 116, 0, 110, 97, 109, 101, 0, 115, 117, 114, 101, 0, 102, 97, 116, 104, 101, 114, 0, 119, 97, 114, 100, 0, 103, 97, 116, 101, 0, 116, 119, 111, 0, 114, 101, 97, 100, 121, 0, 116, 111, 116, 97, 108, 0, 102, 105, 114, 115, 116, 0, 115, 101, 99, 111, 110, 100, 0, 116, 114, 105, 98, 101, 115, 0, 121, 101, 115, 0, 100, 97, 121, 115, 0]
def txV (i : Nat) : List Int32 := (ksB[i]?).getD []
def BaseOK (st : Nat → Nat) (S : SH) (μ : MU) (x b : Nat) : Prop :=
  (b < x) ∧
  (∀ j, j < 5 → st j < x ∧ nnS S (st j) (200 + j) (stV j).length ∧ ∀ q v, (stV j)[q]? = some v → μ (st j) q = v) ∧
  (∀ i, i < 7 → st (60 + i) < x ∧ st (70 + i) < x ∧ (S (st (60 + i))).1 = 310 ∧ (S (st (60 + i))).2.2 0 = some (some (st (70 + i))) ∧ (S (st (60 + i))).2.2 1 = none ∧ μ (st (60 + i)) 1 = 0 ∧ nnS S (st (70 + i)) (300 + i) (txV i).length ∧ ∀ q v, (txV i)[q]? = some v → μ (st (70 + i)) q = v) ∧ st 51 = 1
theorem BaseOK.congr {st : Nat → Nat} {S S' : SH} {μ μ' : MU} {x b : Nat} (h : BaseOK st S μ x b) (hS : ∀ a, a < x → S' a = S a) (hm : ∀ a j, a < x → μ' a j = μ a j) : BaseOK st S' μ' x b := by
  obtain ⟨h1, h5, h6, h7⟩ := h
  refine ⟨h1, ?_, ?_, h7⟩
  · intro j hj
    obtain ⟨q1, q2, q3⟩ := h5 j hj
    refine ⟨q1, ?_, ?_⟩
    · unfold nnS obS at *; rw [hS _ q1]; exact q2
    · intro q v hv; rw [hm _ _ q1]; exact q3 q v hv
  · intro i hi
    obtain ⟨q1, q2, q3, q4, q5, q6, q7, q8⟩ := h6 i hi
    refine ⟨q1, q2, by rw [hS _ q1]; exact q3, by rw [hS _ q1]; exact q4, by rw [hS _ q1]; exact q5, by rw [hm _ _ q1]; exact q6, ?_, ?_⟩
    · unfold nnS obS at *; rw [hS _ q2]; exact q7
    · intro q v hv; rw [hm _ _ q2]; exact q8 q v hv
/-- a static row is read -/
theorem st_aI {n : Nat} {st : Nat → Nat} {S : SH} {μ : MU} {x b : Nat} (h : BaseOK st S μ x b) {j q : Nat} {v : Int32} (hj : j < 5) (hv : (stV j)[q]? = some v) : aI (mkH n st S μ) (some (st j)) (nI q) = some v := by
  obtain ⟨q1, q2, q3⟩ := h.2.1 j hj
  have hq : q < (stV j).length := by
    rcases Nat.lt_or_ge q (stV j).length with h | h
    · exact h
    · rw [List.getElem?_eq_none h] at hv; cases hv
  have hl : (stV j).length < 2 ^ 31 := by
    rcases j with _ | _ | _ | _ | _ | j <;> first | decide | omega
  rw [aI_mk (by rw [q2.1]; simp [kInt]; omega) (by rw [q2.2.1]; exact hq) (by rw [q2.2.1]; exact hl) (q2.2.2 q hq), q3 q v hv]
theorem st_aL {n : Nat} {st : Nat → Nat} {S : SH} {μ : MU} {x b : Nat} (h : BaseOK st S μ x b) {j : Nat} (hj : j < 5) : aL (mkH n st S μ) (some (st j)) = some (nI (stV j).length) := by
  obtain ⟨q1, q2, q3⟩ := h.2.1 j hj
  exact ob_aL q2 (by omega)
-- ===== the parts of the relation =====
def Core (S : SH) (μ : MU) (x : Nat) : Prop := ShX S x ∧ ShM S (x + 175) ∧ Sim μ (x + 1) (μ (x + 176)) ∧ Inv (μ (x + 176)) ∧ Law0 μ (x + 143)
def TapeOK (μ : MU) (x : Nat) : Prop := ∃ k, k ≤ 300 ∧ μ (x + 149) 1 = nI k ∧ μ (x + 175) 4 = nI k ∧ ∀ i, i < k → μ (x + 150) i = μ (x + 178) i ∧ isN (μ (x + 178) i) 256
def RowsOK (μ : MU) (x : Nat) : Prop := ∃ k, k ≤ 16 ∧ μ x 9 = nI k ∧ μ (x + 175) 29 = nI k ∧ ∀ i, i < k → μ (x + 166) i = μ (x + 189) (2 * i) ∧ μ (x + 167) i = μ (x + 189) (2 * i + 1)
def TraceOK (μ : MU) (x : Nat) : Prop := ∃ k, k ≤ 30 ∧ μ (x + 163) 4 = nI k ∧ μ (x + 175) 38 = nI k ∧ ∀ i, i < k → μ (x + 164) i = μ (x + 197) i
def KeptOK (n : Nat) (S : SH) (μ : MU) (x : Nat) (K : Option Nat) : Prop := (S x).2.2 1 = some K ∧ match K with
  | none => μ (x + 175) 2 = 0
  | some K => μ (x + 175) 2 = 1 ∧ x + 198 ≤ K ∧ K + 148 ≤ n ∧ ShC S K ∧ Sim μ K (μ (x + 177)) ∧ Inv (μ (x + 177))
def slRow (a j : Nat) : Option (Option Nat) := if j = 1 then some (some (a + 1)) else none
def RowOK (S : SH) (μ : MU) (x a r : Nat) : Prop := obS S a 7 2 (slRow a) ∧ ∃ len, len ≤ 40 ∧ nnS S (a + 1) 100 len ∧ μ (x + 193) r = nI len ∧ μ a 0 = μ (x + 192) r ∧ isN (μ a 0) 5 ∧ ∀ i, i < len → μ (a + 1) i = μ (x + 194) (40 * r + i)
def usedR (μ : MU) (x r : Nat) : Prop := ∃ k, k < 4 ∧ (μ (x + 191) k = nI r ∨ (μ (x + 195) k = 4 ∧ μ (x + 196) k = nI r))
def SheetOK (n : Nat) (S : SH) (μ : MU) (x : Nat) (ρ : Nat → Nat) (K : Option Nat) : Prop :=
  (∀ k, k < 4 → (μ (x + 191) k = -1 ∧ (S (x + 168)).2.2 k = some none) ∨ ∃ r, r < 8 ∧ μ (x + 191) k = nI r ∧ (S (x + 168)).2.2 k = some (some (ρ r))) ∧
  (∀ h, h < 4 → (μ (x + 195) h = 0 ∧ (S (x + 171)).2.2 h = some none ∧ (μ (x + 169) h = 3 ∨ μ (x + 169) h = 4)) ∨ (∃ w k, w < 3 ∧ k < 40 ∧ μ (x + 195) h = nI (w + 1) ∧ μ (x + 196) h = nI k ∧ (S (x + 171)).2.2 h = some none ∧ μ (x + 169) h = nI w ∧ μ (x + 170) h = nI k) ∨ (∃ r, r < 8 ∧ μ (x + 195) h = 4 ∧ μ (x + 196) h = nI r ∧ (S (x + 171)).2.2 h = some (some (ρ r)) ∧ μ (x + 169) h = 3)) ∧
  (∀ r, r < 8 → usedR μ x r → RowOK S μ x (ρ r) r ∧ x + 198 ≤ ρ r ∧ ρ r + 2 ≤ n ∧ ∀ k, K = some k → ρ r + 2 ≤ k ∨ k + 148 ≤ ρ r) ∧
  (∀ r r', r < 8 → r' < 8 → usedR μ x r → usedR μ x r' → r ≠ r' → ρ r + 2 ≤ ρ r' ∨ ρ r' + 2 ≤ ρ r)
def Rest (n : Nat) (st : Nat → Nat) (S : SH) (μ : MU) (x b : Nat) : Prop := TapeOK μ x ∧ RowsOK μ x ∧ TraceOK μ x ∧ BaseOK st S μ x b ∧ x + 198 ≤ n ∧ ∃ (K : Option Nat) (ρ : Nat → Nat), KeptOK n S μ x K ∧ SheetOK n S μ x ρ K
def R (n : Nat) (st : Nat → Nat) (S : SH) (μ : MU) (x b : Nat) : Prop := Core S μ x ∧ Rest n st S μ x b
section RCONGR
variable {n : Nat} {st : Nat → Nat} {S : SH} {μ μ' : MU} {x b : Nat}
theorem Sim.congr {c : Nat} {D D' : DR} (hI : Inv D) (hs : Sim μ c D) (hm : ∀ a j, (a = c ∧ j ≠ 19) ∨ (c < a ∧ a < c + 13) ∨ (c + 14 ≤ a ∧ a < c + 118) ∨ (c + 118 ≤ a ∧ a < c + 142 ∧ (a - (c + 118)) % 6 < 4) → μ' a j = μ a j) (hd : ∀ q, D' q = D q) : Sim μ' c D' :=
  ⟨GA.congr hI hs (fun a j h => hm a j (by omega)) (fun q _ => hd q), Gx.congr hI hs (fun a j h => hm a j (by omega)) (fun q _ => hd q), Gw.congr hI hs (fun a j h => hm a j (by omega)) (fun q _ => hd q), Gm.congr hI hs (fun a j h => hm a j (by omega)) (fun q _ => hd q), Gv.congr hI hs (fun a j h => hm a j (by omega)) (fun q _ => hd q), Gb.congr hI hs (fun a j h => hm a j (by omega)) (fun q _ => hd q), Gs.congr hI hs (fun a j h => hm a j (by omega)) (fun q _ => hd q), Ge.congr hI hs (fun a j h => hm a j (by omega)) (fun q _ => hd q), Gr.congr hI hs (fun a j h => hm a j (by omega)) (fun q _ => hd q), Gh.congr hI hs (fun a j h => hm a j (by omega)) (fun q _ => hd q), Gl.congr hI hs (fun a j h => hm a j (by omega)) (fun q _ => hd q)⟩
theorem Rest.congr (h : Rest n st S μ x b) (hm : ∀ a j, oth x a j → μ' a j = μ a j) : Rest n st S μ' x b := by
  obtain ⟨⟨tk, t1, t2, t3, t4⟩, ⟨rk, r1, r2, r3, r4⟩, ⟨ck, c1, c2, c3, c4⟩, hb, hn, K, ρ, hK, hSh⟩ := h
  have hm' : ∀ a j, oth x a j → μ' a j = μ a j := hm
  simp only [oth] at hm
  refine ⟨⟨tk, t1, by rw [hm _ _ (by omega)]; exact t2, by rw [hm _ _ (by omega)]; exact t3, fun i hi => ?_⟩, ⟨rk, r1, by rw [hm _ _ (by omega)]; exact r2, by rw [hm _ _ (by omega)]; exact r3, fun i hi => ?_⟩, ⟨ck, c1, by rw [hm _ _ (by omega)]; exact c2, by rw [hm _ _ (by omega)]; exact c3, fun i hi => ?_⟩, hb.congr (fun _ _ => rfl) (fun a j h => hm a j (by omega)), hn, K, ρ, ?_, ?_⟩
  · rw [hm (x + 150) i (by omega), hm (x + 178) i (by omega)]; exact t4 i hi
  · rw [hm (x + 166) i (by omega), hm (x + 189) _ (by omega), hm (x + 167) i (by omega), hm (x + 189) _ (by omega)]; exact r4 i hi
  · rw [hm (x + 164) i (by omega), hm (x + 197) i (by omega)]; exact c4 i hi
  · refine ⟨hK.1, ?_⟩
    have := hK.2
    cases K with
    | none => simp only [] at this ⊢; rw [hm (x + 175) 2 (by omega)]; exact this
    | some K =>
      simp only [] at this ⊢
      obtain ⟨k1, k2, k3, k4, k5, k6⟩ := this
      have hD : μ' (x + 177) = μ (x + 177) := funext fun q => hm _ _ (by omega)
      refine ⟨by rw [hm (x + 175) 2 (by omega)]; exact k1, k2, k3, k4, ?_, by rw [hD]; exact k6⟩
      exact Sim.congr k6 k5 (fun a j h => hm a j (by omega)) (fun q => hm _ _ (by omega))
  · obtain ⟨s1, s2, s3, s4⟩ := hSh
    have hu : ∀ r, usedR μ' x r ↔ usedR μ x r := by
      intro r
      unfold usedR
      simp (disch := omega) only [hm]
    refine ⟨?_, ?_, ?_, ?_⟩
    · intro k hk; rw [hm (x + 191) k (by omega)]; exact s1 k hk
    · intro k hk; rw [hm (x + 195) k (by omega), hm (x + 196) k (by omega), hm (x + 169) k (by omega), hm (x + 170) k (by omega)]; exact s2 k hk
    · intro r hr hur
      obtain ⟨⟨q1, len, q2, q3, q4, q5, q6, q7⟩, q8, q9⟩ := s3 r hr ((hu r).mp hur)
      refine ⟨⟨q1, len, q2, q3, by rw [hm (x + 193) r (by omega)]; exact q4, by rw [hm (ρ r) 0 (by omega), hm (x + 192) r (by omega)]; exact q5, by rw [hm (ρ r) 0 (by omega)]; exact q6, fun i hi => ?_⟩, q8, q9⟩
      rw [hm (ρ r + 1) i (by omega), hm (x + 194) _ (by omega)]; exact q7 i hi
    · intro r r' h1 h2 h3 h4; exact s4 r r' h1 h2 ((hu r).mp h3) ((hu r').mp h4)
theorem Core.congr (h : Core S μ x) (hm : Agr x μ μ') : Core S μ' x := by
  obtain ⟨h1, h2, h3, h4, h5⟩ := h
  have hD : μ' (x + 176) = μ (x + 176) := funext fun q => hm _ _ (by unfold scr; omega)
  refine ⟨h1, h2, ?_, by rw [hD]; exact h4, ?_⟩
  · exact Sim.congr h4 h3 (fun a j h => hm a j (by unfold scr; omega)) (fun q => by rw [hD])
  · refine ⟨by rw [hm (x + 143) 1 (by unfold scr; omega)]; exact h5.1, fun i hi => ?_⟩
    rw [hm (x + 143 + 2) i (by unfold scr; omega)]; exact h5.2 i hi
theorem R.congr (h : R n st S μ x b) (hm : Agr x μ μ') : R n st S μ' x b := ⟨h.1.congr hm, h.2.congr (fun a j q => hm a j (oth_scr q))⟩
end RCONGR
