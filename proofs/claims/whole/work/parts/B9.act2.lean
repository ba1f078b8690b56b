-- ===== act, both sides =====
def mkD (D : DR) (v q : Nat) : Int32 := if v < 4 then D (891 + q) else if v = 4 then D (619 + q) else D (171 + q)
def acV (t v : Nat) (nb mk a : Int32) : Int32 := if t = 0 then naV v nb a else if t = 1 then coV v nb mk a else if t = 2 then biV v nb mk a else teV v nb mk a
def acL (t v : Nat) : List Int32 := if t = 0 then naL v else if t = 1 then coL v else if t = 2 then biL v else teL v
def ActK (H : List Int32 → AH) (o v : Nat) (nb mk : Int32) : Prop := (∀ L, gI 0 0 (H L) (some o) = some (nI v)) ∧ (∀ L, gI 0 1 (H L) (some o) = some nb) ∧ (∀ L, gI 0 2 (H L) (some o) = some mk) ∧ (∀ L a, f_X0_runs (some o) a (H L) = some (H (L ++ [a]))) ∧ (∀ (L : List Int32) (α : Type) (f : Option α), ck 0 (H L) (some o) f = f)
def ActM (H : List Int32 → AH) (o v : Nat) (nb mk : Int32) : Prop := (∀ L, gI 12 39 (H L) (some o) = some (nI v)) ∧ (∀ L, gI 12 40 (H L) (some o) = some nb) ∧ (∀ L, gI 12 41 (H L) (some o) = some mk) ∧ (∀ L a, f_X12_begins (some o) a (H L) = some (H (L ++ [a]))) ∧ (∀ (L : List Int32) (α : Type) (f : Option α), ck 12 (H L) (some o) f = f)
section PERF
variable {H : List Int32 → AH} {o : Nat} {nb mk : Int32}
theorem k_perform0 {v t : Nat} (h1 : 1 ≤ v) (h6 : v ≤ 6) (ht : t < 4) (hA : ActK H o v nb mk) (h5 : ∀ L, gI 0 5 (H L) (some o) = some 0) (hne : t = 3 → ¬ mk = nb) (L : List Int32) (a : Int32) : f_X0_perform (some o) (nI t) a (H L) = some (acV t v nb mk a, H (L ++ acL t v)) := by
  obtain ⟨hk, hn, hm, hr, hc⟩ := hA
  rcases (by omega : t = 0 ∨ t = 1 ∨ t = 2 ∨ t = 3) with rfl | rfl | rfl | rfl
  · have g1 : ¬ (nI 0 < 0 ∨ 2 < nI 0) := by decide
    have g2 : nI 0 = (0 : Int32) := rfl
    simp only [f_X0_perform, g1, g2, if_false, if_true, hc, k_names h1 h6 hk hn hm hr hc L a, some_bind, b_X0_perform_61, h5]
    rfl
  · have g1 : ¬ (nI 1 < 0 ∨ 2 < nI 1) := by decide
    have g2 : ¬ nI 1 = (0 : Int32) := by decide
    have g3 : nI 1 = (1 : Int32) := rfl
    simp only [f_X0_perform, g1, g2, if_false, hc]
    rw [if_pos g3]
    simp only [k_counts h1 h6 hk hn hm hr hc L a, some_bind, b_X0_perform_61, h5, if_true]
    rfl
  · have g1 : ¬ (nI 2 < 0 ∨ 2 < nI 2) := by decide
    have g2 : ¬ nI 2 = (0 : Int32) := by decide
    have g3 : ¬ nI 2 = (1 : Int32) := by decide
    have g4 : nI 2 = (2 : Int32) := rfl
    simp only [f_X0_perform, g1, g2, g3, if_false, hc]
    rw [if_pos g4]
    simp only [k_binds h1 h6 hk hn hm hr hc L a, some_bind, b_X0_perform_61, h5, if_true]
    rfl
  · have g1 : nI 3 < 0 ∨ 2 < nI 3 := by decide
    simp only [f_X0_perform, g1, if_true, hc, k_tells0 h1 h6 hk hn hm hr hc (hne rfl) L a, some_bind, b_X0_perform_61, h5]
    rfl
theorem k_perform1 {v : Nat} (h1 : 1 ≤ v) (h6 : v ≤ 6) (hA : ActK H o v nb mk) (hne : mk = nb) (H1 : List Int32 → AH) (hz : ∀ L, pZ 0 5 (H L) (some o) 1 = some (H1 L)) (h5 : ∀ L, gI 0 5 (H1 L) (some o) = some 1) (L : List Int32) (a : Int32) : f_X0_perform (some o) (nI 3) a (H L) = some (-15, H1 (L ++ teH v)) := by
  obtain ⟨hk, hn, hm, hr, hc⟩ := hA
  have g1 : nI 3 < 0 ∨ 2 < nI 3 := by decide
  have i10 : ¬ (1 : Int32) = 0 := by decide
  simp only [f_X0_perform, g1, if_true, hc, k_tells1 h1 h6 hk hn hm hr hc hne L a, hz, some_bind, b_X0_perform_61, h5, i10, if_false]
theorem m_perform0 {v t : Nat} (h1 : 1 ≤ v) (h6 : v ≤ 6) (ht : t < 4) (hA : ActM H o v nb mk) (h42 : ∀ L, gI 12 42 (H L) (some o) = some 0) (hz : ∀ L, pZ 12 42 (H L) (some o) 0 = some (H L)) (hne : t = 3 → ¬ mk = nb) (L : List Int32) (a : Int32) {h0 h' : AH} (e1 : pI 12 41 h0 (some o) mk = some h') (e2 : pZ 12 42 h' (some o) 0 = some (H L)) : b_X12_act_112 (some o) (nI t) a (some o) mk h0 = some (acV t v nb mk a, H (L ++ acL t v)) := by
  obtain ⟨hk, hn, hm, hr, hc⟩ := hA
  rcases (by omega : t = 0 ∨ t = 1 ∨ t = 2 ∨ t = 3) with rfl | rfl | rfl | rfl
  · have g2 : nI 0 = (0 : Int32) := rfl
    simp only [b_X12_act_112, e1, e2, some_bind, g2, if_true, hc, m_names h1 h6 hk hn hm hr hc L a, b_X12_act_163, h42]
    rfl
  · have g2 : ¬ nI 1 = (0 : Int32) := by decide
    have g3 : nI 1 = (1 : Int32) := rfl
    simp only [b_X12_act_112, e1, e2, some_bind, g2, if_false, hc]
    rw [if_pos g3]
    simp only [m_counts h1 h6 hk hn hm hr hc L a, some_bind, b_X12_act_163, h42, if_true]
    rfl
  · have g2 : ¬ nI 2 = (0 : Int32) := by decide
    have g3 : ¬ nI 2 = (1 : Int32) := by decide
    have g4 : nI 2 = (2 : Int32) := rfl
    simp only [b_X12_act_112, e1, e2, some_bind, g2, g3, if_false, hc]
    rw [if_pos g4]
    simp only [m_binds h1 h6 hk hn hm hr hc L a, some_bind, b_X12_act_163, h42, if_true]
    rfl
  · have g2 : ¬ nI 3 = (0 : Int32) := by decide
    have g3 : ¬ nI 3 = (1 : Int32) := by decide
    have g4 : ¬ nI 3 = (2 : Int32) := by decide
    simp only [b_X12_act_112, e1, e2, some_bind, g2, g3, g4, if_false, hc, m_tells0 h1 h6 hk hn hm hr hc (hne rfl) h42 hz L a, b_X12_act_163, h42, if_true]
    rfl
theorem m_perform1 {v : Nat} (h1 : 1 ≤ v) (h6 : v ≤ 6) (hA : ActM H o v nb mk) (hne : mk = nb) (H1 : List Int32 → AH) (h42 : ∀ L, gI 12 42 (H1 L) (some o) = some 1) (hz : ∀ L, pZ 12 42 (H L) (some o) 1 = some (H1 L)) (L : List Int32) (a : Int32) {h0 h' : AH} (e1 : pI 12 41 h0 (some o) mk = some h') (e2 : pZ 12 42 h' (some o) 0 = some (H L)) : b_X12_act_112 (some o) (nI 3) a (some o) mk h0 = some (-15, H1 (L ++ teH v)) := by
  obtain ⟨hk, hn, hm, hr, hc⟩ := hA
  have g2 : ¬ nI 3 = (0 : Int32) := by decide
  have g3 : ¬ nI 3 = (1 : Int32) := by decide
  have g4 : ¬ nI 3 = (2 : Int32) := by decide
  have i10 : ¬ (1 : Int32) = 0 := by decide
  obtain ⟨w, hw⟩ := m_tells1 h1 h6 hk hn hm hr hc hne H1 h42 hz L a
  simp only [b_X12_act_112, e1, e2, some_bind, g2, g3, g4, if_false, hc, hw, b_X12_act_163, h42, i10]
end PERF
section ACT2
variable {n n' : Nat} {st : Nat → Nat} {S S' : SH} {μ μ' : MU} {x b m c l : Nat} {D : DR}
theorem kiD_cls (D : DR) {w q : Nat} (hw : w < 3) : kiD D w q = -1 ∨ ∃ v, 1 ≤ v ∧ v ≤ 6 ∧ kiD D w q = nI v ∧ ((v < 4 ∧ q < nD D 5) ∨ (v = 4 ∧ q < nD D 4) ∨ (5 ≤ v ∧ q < nD D 2)) := by
  rcases (by omega : w = 0 ∨ w = 1 ∨ w = 2) with rfl | rfl | rfl
  · unfold kiD
    rw [if_pos rfl]
    by_cases c : q < nD D 5
    · rw [if_pos c]
      right
      split
      · exact ⟨3, by omega, by omega, rfl, by omega⟩
      · split
        · exact ⟨3, by omega, by omega, rfl, by omega⟩
        · split
          · exact ⟨2, by omega, by omega, rfl, by omega⟩
          · exact ⟨1, by omega, by omega, rfl, by omega⟩
    · rw [if_neg c]; exact Or.inl rfl
  · rw [kiD_1]
    by_cases c : q < nD D 4
    · rw [if_pos c]; exact Or.inr ⟨4, by omega, by omega, rfl, by omega⟩
    · rw [if_neg c]; exact Or.inl rfl
  · rw [kiD_2]
    by_cases c : q < nD D 2
    · rw [if_pos c]
      split
      · exact Or.inl rfl
      · split
        · exact Or.inr ⟨6, by omega, by omega, rfl, by omega⟩
        · exact Or.inr ⟨5, by omega, by omega, rfl, by omega⟩
    · rw [if_neg c]; exact Or.inl rfl
theorem k_markOf (hX : ShX S x) (hs : Sim μ (x + 1) D) (hI : Inv D) (hB : BaseOK st S μ x b) {v q : Nat} (h1 : 1 ≤ v) (h6 : v ≤ 6) (hq : (v < 4 ∧ q < nD D 5) ∨ (v = 4 ∧ q < nD D 4) ∨ (5 ≤ v ∧ q < nD D 2)) : f_X11_markOf (some x) (nI v) (nI q) (mkH n st S μ) = some (mkD D v q) := by
  have hC := hX.city
  have b2 := hI.men.2
  have b4 := hI.bars.2
  have b5 := hI.shes.2
  have U : f_X11_isUnder (nI v) 5 (mkH n st S μ) = some (bI (unB v 5)) := k_isUnder (n := n) hB (v := v) (t := 5) (by omega) (by omega)
  rcases hq with ⟨hv, hq⟩ | ⟨rfl, hq⟩ | ⟨hv, hq⟩
  · have f6 := hs.she q 6 hq (by omega)
    simp only [Nat.reduceMul, Nat.reduceAdd] at f6
    have e4 : ¬ nI v = (4 : Int32) := by rcases (by omega : v = 1 ∨ v = 2 ∨ v = 3) with rfl | rfl | rfl <;> decide
    have eu : unB v 5 = false := by rcases (by omega : v = 1 ∨ v = 2 ∨ v = 3) with rfl | rfl | rfl <;> rfl
    simp (disch := omega) only [f_X11_markOf, e4, if_false, U, eu, some_bind, ite_bI0, Bool.false_eq_true, xR0 hX, cR11 hC, cEsherds hC, oSheI hC, f6, mkD]
    rw [if_pos hv]
  · have f6 := hs.bar q 0 hq (by omega)
    simp only [Nat.reduceMul, Nat.reduceAdd] at f6
    have e4 : nI 4 = (4 : Int32) := rfl
    rw [f_X11_markOf, if_pos e4]
    simp (disch := omega) only [some_bind, xR0 hX, cR9 hC, cEbargains hC, oBarI hC, f6]
    rfl
  · have f6 := hs.man q 6 hq (by omega)
    simp only [Nat.reduceMul, Nat.reduceAdd] at f6
    have e4 : ¬ nI v = (4 : Int32) := by rcases (by omega : v = 5 ∨ v = 6) with rfl | rfl <;> decide
    have eu : unB v 5 = true := by rcases (by omega : v = 5 ∨ v = 6) with rfl | rfl <;> rfl
    simp (disch := omega) only [f_X11_markOf, e4, if_false, U, eu, some_bind, ite_bI0, if_true, xR0 hX, cR5 hC, cEmen hC, oManI hC, f6, mkD]
    rw [if_neg (by omega), if_neg (by omega)]
theorem R.trace (hR : R n st S μ x b) {μ2 : MU} {T : List Int32} (hn : ∀ a j, ¬ (a = x + 163 ∨ a = x + 164 ∨ (a = x + 175 ∧ 38 ≤ j ∧ j ≤ 42) ∨ a = x + 197 ∨ (x + 179 ≤ a ∧ a ≤ x + 181)) → μ2 a j = μ a j) (h1 : StT μ2 (x + 163) 4 (x + 164) T) (h2 : StT μ2 (x + 175) 38 (x + 197) T) : R n st S μ2 x b := by
  obtain ⟨hc, ht, hr, -, hB, hx, K, ρ, hK, hSh⟩ := hR
  refine ⟨hc.keep (fun a j h => hn a j (by omega)) (fun q => hn _ _ (by omega)), ht.congr (fun a j h => hn a j (by omega)), hr.congr (fun a j h => hn a j (by omega)), ?_, hB.congr (fun _ _ => rfl) (fun a j h => hn a j (by omega)), hx, K, ρ, hK.congr (fun a j h => hn a j (by omega)), hSh.congr (fun a j h => hn a j (by omega))⟩
  refine ⟨min 30 T.length, by omega, h1.1, h2.1, fun i hi => ?_⟩
  rw [h1.2 i _ (by omega) (List.getElem?_eq_getElem (by omega)), h2.2 i _ (by omega) (List.getElem?_eq_getElem (by omega))]
theorem StT.congr {o f q : Nat} {T : List Int32} (h : StT μ o f q T) (h1 : μ' o f = μ o f) (h2 : ∀ i, μ' q i = μ q i) : StT μ' o f q T := ⟨by rw [h1]; exact h.1, fun i v hi hv => by rw [h2 i]; exact h.2 i v hi hv⟩
theorem StT.nil {o f q : Nat} (h : μ o f = 0) : StT μ o f q [] := ⟨h, fun i v _ hv => by simp at hv⟩
theorem actK_mk (hX : ShX S x) {v : Nat} {nb mk : Int32} (h0 : μ (x + 163) 0 = nI v) (h1 : μ (x + 163) 1 = nb) (h2 : μ (x + 163) 2 = mk) (hT : StT μ (x + 163) 4 (x + 164) []) : ActK (fun L => mkH n st S (runL μ (x + 163) 4 (x + 164) L)) (x + 163) v nb mk := by
  have hne : ∀ L j, ¬ j = 4 → runL μ (x + 163) 4 (x + 164) L (x + 163) j = μ (x + 163) j := fun L j hj => runL_ne (by omega) (by omega) L μ
  refine ⟨fun L => ?_, fun L => ?_, fun L => ?_, fun L a => ?_, fun L α f => ob_ck hX.actor⟩
  · show gI 0 0 (mkH n st S _) _ = _
    rw [acI0 hX, hne L 0 (by omega), h0]
  · show gI 0 1 (mkH n st S _) _ = _
    rw [acI1 hX, hne L 1 (by omega), h1]
  · show gI 0 2 (mkH n st S _) _ = _
    rw [acI2 hX, hne L 2 (by omega), h2]
  · show f_X0_runs _ a (mkH n st S _) = some (mkH n st S _)
    rw [k_runs hX (StT.run (by omega) L [] μ hT) a, runL_snoc]
theorem actM_mk (hS : ShM S m) {v : Nat} {nb mk : Int32} (h0 : μ m 39 = nI v) (h1 : μ m 40 = nb) (h2 : μ m 41 = mk) (hT : StT μ m 38 (m + 22) []) : ActM (fun L => mkH n st S (runL μ m 38 (m + 22) L)) m v nb mk := by
  have hne : ∀ L j, ¬ j = 38 → runL μ m 38 (m + 22) L m j = μ m j := fun L j hj => runL_ne (by omega) (by omega) L μ
  refine ⟨fun L => ?_, fun L => ?_, fun L => ?_, fun L a => ?_, fun L α f => rck hS⟩
  · show gI 12 39 (mkH n st S _) _ = _
    rw [mI39 hS, hne L 39 (by omega), h0]
  · show gI 12 40 (mkH n st S _) _ = _
    rw [mI40 hS, hne L 40 (by omega), h1]
  · show gI 12 41 (mkH n st S _) _ = _
    rw [mI41 hS, hne L 41 (by omega), h2]
  · show f_X12_begins _ a (mkH n st S _) = some (mkH n st S _)
    rw [r_begins hS (StT.run (by omega) L [] μ hT) a, runL_snoc]
theorem op_act (hR : R n st S μ x b) (a1 a2 a3 : Int32) : Res (f_X11_act (some x) a1 a2 a3) (f_X12_act (some (x + 175)) a1 a2 a3) n st S μ x b := by
  have hR' := hR
  obtain ⟨⟨hX, hS, hs, hI, hL0⟩, hRest⟩ := hR
  have hC := hX.city
  have hBase := hRest.2.2.2.1
  obtain ⟨D, hD⟩ : ∃ D, μ (x + 175 + 1) = D := ⟨_, rfl⟩
  replace hs : Sim μ (x + 1) (μ (x + 175 + 1)) := hs
  replace hI : Inv (μ (x + 175 + 1)) := hI
  rw [hD] at hs hI
  obtain ⟨e0, b0⟩ := hI.today
  obtain ⟨e1, b1⟩ := hI.wards
  obtain ⟨e2, b2⟩ := hI.men
  obtain ⟨e3, b3⟩ := hI.words
  obtain ⟨e4, b4⟩ := hI.bars
  obtain ⟨e5, b5⟩ := hI.shes
  obtain ⟨e6, b6⟩ := hI.wets
  obtain ⟨e8, b8⟩ := hI.heaped
  have z0 := hs.today
  have z1 := hs.wardN
  have z2 := hs.manN
  have z3 := hs.wordN
  have z4 := hs.barN
  have z5 := hs.sheN
  have z6 := hs.wetN
  have z8 := hs.heapN
  obtain ⟨-, -, -, -, hn, K, ρ, hK, hSh⟩ := hRest
  obtain ⟨μ0, h0⟩ : ∃ q, q = up2 (up2 μ (x + 163) 4 0) (x + 163) 5 0 := ⟨_, rfl⟩
  have n0 : ∀ a j, ¬ a = x + 163 → μ0 a j = μ a j := fun a j h => by rw [h0]; simp (disch := omega) only [up2_ne]
  have z5 : ∀ (μ : MU) (v : Int32), v = 0 ∨ v = 1 → pZ 0 5 (mkH n st S μ) (some (x + 163)) v = some (mkH n st S (up2 μ (x + 163) 5 v)) := fun μ v h => ob_pZ hX.actor (by omega) rfl h
  have ack : ∀ (μ : MU) (α : Type) (f : Option α), ck 0 (mkH n st S μ) (some (x + 163)) f = f := fun μ α f => ob_ck hX.actor
  have fg : f_X0_forget (some (x + 163)) (mkH n st S μ) = some (mkH n st S μ0) := by
    rw [h0]
    simp only [f_X0_forget, acP4 hX, some_bind, z5 _ 0 (Or.inl rfl)]
  have hRf : ∀ μ2 : MU, (∀ a j, ¬ (x + 179 ≤ a ∧ a ≤ x + 181) → μ2 a j = up2 μ0 (x + 175) 38 0 a j) → R n st S μ2 x b := by
    intro μ2 h
    refine hR'.trace (T := []) (fun a j q => ?_) (StT.nil ?_) (StT.nil ?_)
    · rw [h a j (by omega), h0]; simp (disch := omega) only [up2_ne]
    · rw [h _ _ (by omega), h0]; simp (disch := omega) only [up2_ne, up2_same]
    · rw [h _ _ (by omega), h0]; simp (disch := omega) only [up2_ne, up2_same]
  by_cases c1 : inS a1 0 3 = true
  case neg => exact ⟨0, mkH n st S μ0, n, S, up2 μ0 (x + 175) 38 0, by simp only [f_X11_act, xR4 hX, some_bind, ack, fg, k_within, c1, ite_bI0, if_false, Bool.false_eq_true], by simp only [f_X12_act, mP38 hS, some_bind, s_isFour, c1, ite_bI0, if_false, Bool.false_eq_true], hRf _ (fun _ _ _ => rfl)⟩
  by_cases c2 : inS a2 0 3 = true
  case neg => exact ⟨0, mkH n st S μ0, n, S, up2 μ0 (x + 175) 38 0, by simp only [f_X11_act, xR4 hX, some_bind, ack, fg, k_within, c1, c2, ite_bI0, if_true, if_false, Bool.false_eq_true], by simp only [f_X12_act, mP38 hS, some_bind, s_isFour, s_in, c1, c2, ite_bI0, if_true, if_false, Bool.false_eq_true], hRf _ (fun _ _ _ => rfl)⟩
  obtain ⟨k, hk, rfl⟩ := inS_n (M := 3) (by omega) c1
  obtain ⟨t, ht, rfl⟩ := inS_n (M := 3) (by omega) c2
  have hk4 : k < 4 := by omega
  have hs0 : Sim μ0 (x + 1) D := Sim.congr hI hs (fun a j h => n0 a j (by omega)) (fun q => rfl)
  obtain ⟨kn, kt⟩ := k_kindOn (n := n) (st := st) hX hs0 hI hk4
  rw [n0 _ _ (by omega)] at kn
  have kt' : ∀ w q, w < 3 → q < 40 → μ (x + 169) k = nI w → μ (x + 170) k = nI q → f_X11_kindOn (some x) (nI k) (mkH n st S μ0) = some (kiD D w q) := fun w q h1 h2 h3 h4 => kt w q h1 h2 (by rw [n0 _ _ (by omega)]; exact h3) (by rw [n0 _ _ (by omega)]; exact h4)
  have m1 : (-1 : Int32) < 0 := by decide
  have m2 : (-2 : Int32) < 0 := by decide
  have hD0 : up2 μ0 (x + 175) 38 0 (x + 175 + 1) = D := by
    funext q
    rw [up2_ne (by omega), n0 _ _ (by omega), hD]
  obtain ⟨rn, rr, rt⟩ := r_kindOn (n := n) (st := st) (μ := up2 μ0 (x + 175) 38 0) hS hD0 hI hk4
  have u95 : ∀ j i, x + 195 ≤ j ∧ j ≤ x + 196 → up2 μ0 (x + 175) 38 0 j i = μ j i := fun j i h => by rw [up2_ne (by omega), n0 _ _ (by omega)]
  rw [u95 _ _ (by omega)] at rn rr
  rcases hSh.2.1 k hk4 with ⟨h1, h2, h3⟩ | ⟨w, q, hw, hq, h1, h2, h3, h4, h5⟩ | ⟨r, hr, h1, h2, h3, h4⟩
  · have kk := kn h3
    have rk := rn h1
    exact ⟨0, mkH n st S μ0, n, S, up2 μ0 (x + 175) 38 0, by simp only [f_X11_act, xR4 hX, some_bind, ack, fg, k_within, c1, c2, ite_bI0, if_true, xck hX, kk, m1], by simp only [f_X12_act, mP38 hS, some_bind, s_isFour, s_in, c1, c2, ite_bI0, if_true, rck hS, rk, m1], hRf _ (fun _ _ _ => rfl)⟩
  case inr.inr =>
    have kk := kn (Or.inl h4)
    have rk := rr h1
    exact ⟨0, mkH n st S μ0, n, S, up2 μ0 (x + 175) 38 0, by simp only [f_X11_act, xR4 hX, some_bind, ack, fg, k_within, c1, c2, ite_bI0, if_true, xck hX, kk, m1], by simp only [f_X12_act, mP38 hS, some_bind, s_isFour, s_in, c1, c2, ite_bI0, if_true, rck hS, rk, m2], hRf _ (fun _ _ _ => rfl)⟩
  have kk := kt' w q hw hq h4 h5
  rcases kiD_cls D (w := w) (q := q) hw with hki | ⟨v, v1, v6, hki, hvq⟩
  · obtain ⟨μ1, rk, rF⟩ := rt w q hw hq (by rw [u95 _ _ (by omega)]; exact h1) (by rw [u95 _ _ (by omega)]; exact h2)
    rw [hki] at kk rk
    exact ⟨0, mkH n st S μ0, n, S, μ1, by simp only [f_X11_act, xR4 hX, some_bind, ack, fg, k_within, c1, c2, ite_bI0, if_true, xck hX, kk, m1], by simp only [f_X12_act, mP38 hS, some_bind, s_isFour, s_in, c1, c2, ite_bI0, if_true, rck hS, rk, m1], hRf _ (fun a j h => rF a j (by omega))⟩
  rw [hki] at kk
  have v0 : ¬ nI v < (0 : Int32) := nI_pos (by omega)
  obtain ⟨nb, hnb⟩ : ∃ z, z = nI q := ⟨_, rfl⟩
  obtain ⟨mk, hmk⟩ : ∃ z, z = mkD D v q := ⟨_, rfl⟩
  obtain ⟨μ1, e1⟩ : ∃ z, z = up2 (up2 μ0 (x + 163) 0 (nI v)) (x + 163) 1 nb := ⟨_, rfl⟩
  have n1 : ∀ a j, ¬ a = x + 163 → μ1 a j = μ a j := fun a j h => by rw [e1, ← n0 a j h]; simp (disch := omega) only [up2_ne]
  have hmo : f_X11_markOf (some x) (nI v) nb (mkH n st S μ1) = some mk := by
    rw [hmk, hnb]
    exact k_markOf hX (Sim.congr hI hs (fun a j h => n1 a j (by omega)) (fun q => rfl)) hI (hBase.congr (fun _ _ => rfl) (fun a j h => n1 a j (by omega))) v1 v6 hvq
  have a70 : aI (mkH n st S (up2 μ0 (x + 163) 0 (nI v))) (some (x + 170)) (nI k) = some nb := by
    rw [xASNu hX hk4, up2_ne (by omega), n0 _ _ (by omega), h5, hnb]
  have i1 : gI 0 1 (mkH n st S μ1) (some (x + 163)) = some nb := by rw [acI1 hX, e1, up2_same]
  obtain ⟨μa, ea⟩ : ∃ z, z = up2 μ1 (x + 163) 2 mk := ⟨_, rfl⟩
  have na : ∀ a j, ¬ a = x + 163 → μa a j = μ a j := fun a j h => by rw [ea, ← n1 a j h]; simp (disch := omega) only [up2_ne]
  have cx : f_X11_act (some x) (nI k) (nI t) a3 (mkH n st S μ) = (f_X0_perform (some (x + 163)) (nI t) a3 (mkH n st S μa)).bind fun p => some (p.1, p.2) := by
    simp only [f_X11_act, xR4 hX, some_bind, ack, fg, k_within, c1, c2, ite_bI0, if_true, xck hX, kk, v0, if_false, acP0 hX, xR12 hX, a70, acP1 hX, ← e1, i1, hmo, acP2 hX, ← ea]
  have Ta : StT μa (x + 163) 4 (x + 164) [] := StT.nil (by rw [ea, e1, h0]; simp (disch := omega) only [up2_ne, up2_same])
  have A := actK_mk (n := n) (st := st) (μ := μa) (v := v) (nb := nb) (mk := mk) hX (by rw [ea, e1]; simp (disch := omega) only [up2_ne, up2_same]) (by rw [ea, e1]; simp (disch := omega) only [up2_ne, up2_same]) (by rw [ea, up2_same]) Ta
  have a5 : μa (x + 163) 5 = 0 := by rw [ea, e1, h0]; simp (disch := omega) only [up2_ne, up2_same]
  -- the reference, from any memory that the class leaves
  have ref : ∀ μ2 : MU, (∀ a j, ¬ (a = x + 163 ∨ a = x + 164) → μ2 a j = μ a j) → ∃ μ9 : MU, f_X12_act (some (x + 175)) (nI k) (nI t) a3 (mkH n st S μ2) = b_X12_act_112 (some (x + 175)) (nI t) a3 (some (x + 175)) mk (mkH n st S μ9) ∧ (∀ a j, ¬ ((a = x + 175 ∧ 38 ≤ j ∧ j ≤ 40) ∨ (x + 179 ≤ a ∧ a ≤ x + 181)) → μ9 a j = μ2 a j) ∧ μ9 (x + 175) 38 = 0 ∧ μ9 (x + 175) 39 = nI v ∧ μ9 (x + 175) 40 = nb := by
    intro μ2 hm
    have g1 : up2 μ2 (x + 175) 38 0 (x + 175 + 1) = D := by
      funext q
      rw [up2_ne (by omega), hm _ _ (by omega), hD]
    obtain ⟨-, -, rt1⟩ := r_kindOn (n := n) (st := st) (μ := up2 μ2 (x + 175) 38 0) hS g1 hI hk4
    obtain ⟨μ3, rk1, rF1⟩ := rt1 w q hw hq (by rw [up2_ne (by omega), hm _ _ (by omega)]; exact h1) (by rw [up2_ne (by omega), hm _ _ (by omega)]; exact h2)
    have n3 : ∀ a j, ¬ (a = x + 175 ∧ j = 38) → ¬ (x + 179 ≤ a ∧ a ≤ x + 181) → μ3 a j = μ2 a j := fun a j h h' => by rw [rF1 a j (by omega), up2_ne h]
    have g3 : μ3 (x + 175 + 1) = D := by
      funext q
      rw [n3 _ _ (by omega) (by omega), hm _ _ (by omega), hD]
    obtain ⟨-, -, rt2⟩ := r_kindOn (n := n) (st := st) (μ := μ3) hS g3 hI hk4
    obtain ⟨μ4, rk2, rF2⟩ := rt2 w q hw hq (by rw [n3 _ _ (by omega) (by omega), hm _ _ (by omega)]; exact h1) (by rw [n3 _ _ (by omega) (by omega), hm _ _ (by omega)]; exact h2)
    have n4 : ∀ a j, ¬ (a = x + 175 ∧ j = 38) → ¬ (x + 179 ≤ a ∧ a ≤ x + 181) → μ4 a j = μ2 a j := fun a j h h' => by rw [rF2 a j (by omega), n3 a j h h']
    have n38 : μ4 (x + 175) 38 = 0 := by rw [rF2 _ _ (by omega), rF1 _ _ (by omega), up2_same]
    rw [hki] at rk1 rk2
    obtain ⟨μ9, e9⟩ : ∃ z, z = up2 (up2 μ4 (x + 175) 39 (nI v)) (x + 175) 40 nb := ⟨_, rfl⟩
    have a36 : aI (mkH n st S (up2 μ4 (x + 175) 39 (nI v))) (some (x + 175 + 21)) (nI k) = some nb := by
      rw [mA36 hS hk4, up2_ne (by omega), n4 _ _ (by omega) (by omega), hm _ _ (by omega), hnb, ← h2]
    have n9 : ∀ a j, ¬ ((a = x + 175 ∧ 38 ≤ j ∧ j ≤ 40) ∨ (x + 179 ≤ a ∧ a ≤ x + 181)) → μ9 a j = μ2 a j := fun a j h => by rw [e9, ← n4 a j (by omega) (by omega)]; simp (disch := omega) only [up2_ne]
    have i39 : gI 12 39 (mkH n st S μ9) (some (x + 175)) = some (nI v) := by rw [mI39 hS, e9]; simp (disch := omega) only [up2_ne, up2_same]
    have i40 : gI 12 40 (mkH n st S μ9) (some (x + 175)) = some (nI q) := by rw [mI40 hS, e9, up2_same, hnb]
    have d9 : ∀ j, j < 2224 → aI (mkH n st S μ9) (some (x + 175 + 1)) (nI j) = some (D j) := fun j hj => by rw [mA0 hS hj, n9 _ _ (by omega), hm _ _ (by omega), hD]
    have l891 : ∀ j : Nat, (891 : Int32) + nI j = nI (891 + j) := fun j => nI_add 891 j
    have l619 : ∀ j : Nat, (619 : Int32) + nI j = nI (619 + j) := fun j => nI_add 619 j
    have l171 : ∀ j : Nat, (171 : Int32) + nI j = nI (171 + j) := fun j => nI_add 171 j
    refine ⟨μ9, ?_, n9, ?_, ?_, ?_⟩
    · rcases hvq with ⟨hv, hvq⟩ | ⟨hv, hvq⟩ | ⟨hv, hvq⟩
      · have s4 : nI v < (4 : Int32) := nI_lt (b := 4) hv (by omega)
        have em : mk = D (891 + q) := by rw [hmk, mkD, if_pos hv]
        simp only [f_X12_act, mP38 hS, some_bind, s_isFour, s_in, c1, c2, ite_bI0, if_true, rck hS, rk1, v0, if_false, rk2, mP39 hS, mR36 hS, a36, mP40 hS, ← e9, i39, s4, mR0 hS, i40, l891, d9 (891 + q) (by omega), em]
      · have s4 : ¬ nI v < (4 : Int32) := by rw [hv]; decide
        have s5 : nI v = (4 : Int32) := by rw [hv]; rfl
        have em : mk = D (619 + q) := by rw [hmk, mkD, if_neg (by omega), if_pos hv]
        simp only [f_X12_act, mP38 hS, some_bind, s_isFour, s_in, c1, c2, ite_bI0, if_true, rck hS, rk1, v0, if_false, rk2, mP39 hS, mR36 hS, a36, mP40 hS, ← e9, i39, s4]
        rw [if_pos s5]
        simp only [mR0 hS, i40, some_bind, l619, d9 (619 + q) (by omega), em]
      · have s4 : ¬ nI v < (4 : Int32) := by rcases (by omega : v = 5 ∨ v = 6) with rfl | rfl <;> decide
        have s5 : ¬ nI v = (4 : Int32) := by rcases (by omega : v = 5 ∨ v = 6) with rfl | rfl <;> decide
        have em : mk = D (171 + q) := by rw [hmk, mkD, if_neg (by omega), if_neg (by omega)]
        simp only [f_X12_act, mP38 hS, some_bind, s_isFour, s_in, c1, c2, ite_bI0, if_true, rck hS, rk1, v0, if_false, rk2, mP39 hS, mR36 hS, a36, mP40 hS, ← e9, i39, s4, s5, mR0 hS, i40, l171, d9 (171 + q) (by omega), em]
    · rw [e9]; simp (disch := omega) only [up2_ne, n38]
    · rw [e9]; simp (disch := omega) only [up2_ne, up2_same]
    · rw [e9, up2_same]
  -- the end of both
  have fin : ∀ (V : Int32) (T : List Int32) (μ2 : MU), f_X0_perform (some (x + 163)) (nI t) a3 (mkH n st S μa) = some (V, mkH n st S μ2) → (∀ a j, ¬ (a = x + 163 ∨ a = x + 164) → μ2 a j = μ a j) → StT μ2 (x + 163) 4 (x + 164) T → (∀ μ9 : MU, μ9 (x + 175) 38 = 0 → μ9 (x + 175) 39 = nI v → μ9 (x + 175) 40 = nb → ∃ μ8 : MU, b_X12_act_112 (some (x + 175)) (nI t) a3 (some (x + 175)) mk (mkH n st S μ9) = some (V, mkH n st S μ8) ∧ (∀ a j, ¬ ((a = x + 175 ∧ 38 ≤ j ∧ j ≤ 42) ∨ a = x + 197) → μ8 a j = μ9 a j) ∧ StT μ8 (x + 175) 38 (x + 197) T) → Res (f_X11_act (some x) (nI k) (nI t) a3) (f_X12_act (some (x + 175)) (nI k) (nI t) a3) n st S μ x b := by
    intro V T μ2 p1 p2 p3 p4
    obtain ⟨μ9, q1, q2, q3, q4, q5⟩ := ref μ2 p2
    obtain ⟨μ8, s1, s2, s3⟩ := p4 μ9 q3 q4 q5
    refine ⟨V, mkH n st S μ2, n, S, μ8, by rw [cx, p1]; rfl, by rw [q1, s1], hR'.trace (T := T) (fun a j h => ?_) (p3.congr ?_ (fun i => ?_)) s3⟩
    · rw [s2 a j (by omega), q2 a j (by omega), p2 a j (by omega)]
    · rw [s2 _ _ (by omega), q2 _ _ (by omega)]
    · rw [s2 _ _ (by omega), q2 _ _ (by omega)]
  have refA : ∀ μ9 : MU, μ9 (x + 175) 38 = 0 → μ9 (x + 175) 39 = nI v → μ9 (x + 175) 40 = nb → ActM (fun L => mkH n st S (runL (up2 (up2 μ9 (x + 175) 41 mk) (x + 175) 42 0) (x + 175) 38 (x + 175 + 22) L)) (x + 175) v nb mk := fun μ9 q3 q4 q5 =>
    actM_mk hS (by simp (disch := omega) only [up2_ne, q4]) (by simp (disch := omega) only [up2_ne, q5]) (by simp (disch := omega) only [up2_ne, up2_same]) (StT.nil (by simp (disch := omega) only [up2_ne, q3]))
  by_cases hb : t = 3 ∧ mk = nb
  · obtain ⟨rfl, hne⟩ := hb
    refine fin (-15) (teH v) (up2 (runL μa (x + 163) 4 (x + 164) (teH v)) (x + 163) 5 1) ?_ ?_ ?_ ?_
    · exact k_perform1 v1 v6 A hne (fun L => mkH n st S (up2 (runL μa (x + 163) 4 (x + 164) L) (x + 163) 5 1)) (fun L => z5 _ 1 (Or.inr rfl)) (fun L => by show gI 0 5 (mkH n st S _) _ = _; rw [acI5 hX, up2_same]) [] a3
    · intro a j h
      rw [up2_ne (by omega), runL_ne (by omega) (by omega), na a j (by omega)]
    · exact (StT.run (by omega) (teH v) [] μa Ta).congr (up2_ne (by omega)) (fun i => up2_ne (by omega))
    · intro μ9 q3 q4 q5
      refine ⟨up2 (runL (up2 (up2 μ9 (x + 175) 41 mk) (x + 175) 42 0) (x + 175) 38 (x + 175 + 22) (teH v)) (x + 175) 42 1, ?_, ?_, ?_⟩
      · exact m_perform1 v1 v6 (refA μ9 q3 q4 q5) hne (fun L => mkH n st S (up2 (runL (up2 (up2 μ9 (x + 175) 41 mk) (x + 175) 42 0) (x + 175) 38 (x + 175 + 22) L) (x + 175) 42 1)) (fun L => by show gI 12 42 (mkH n st S _) _ = _; rw [mI42 hS, up2_same]) (fun L => mZ42_1 hS) [] a3 (mP41 hS) (mZ42_0 hS)
      · intro a j h
        rw [up2_ne (by omega), runL_ne (by omega) (by omega), up2_ne (by omega), up2_ne (by omega)]
      · exact (StT.run (by omega) (teH v) [] _ (StT.nil (by simp (disch := omega) only [up2_ne, q3]))).congr (up2_ne (by omega)) (fun i => up2_ne (by omega))
  · have hne : t = 3 → ¬ mk = nb := fun h1 h2 => hb ⟨h1, h2⟩
    refine fin (acV t v nb mk a3) (acL t v) (runL μa (x + 163) 4 (x + 164) (acL t v)) ?_ ?_ ?_ ?_
    · exact k_perform0 v1 v6 (by omega) A (fun L => by show gI 0 5 (mkH n st S _) _ = _; rw [acI5 hX, runL_ne (by omega) (by omega), a5]) hne [] a3
    · intro a j h
      rw [runL_ne (by omega) (by omega), na a j (by omega)]
    · exact StT.run (by omega) (acL t v) [] μa Ta
    · intro μ9 q3 q4 q5
      refine ⟨runL (up2 (up2 μ9 (x + 175) 41 mk) (x + 175) 42 0) (x + 175) 38 (x + 175 + 22) (acL t v), ?_, ?_, ?_⟩
      · have r42 : ∀ L, runL (up2 (up2 μ9 (x + 175) 41 mk) (x + 175) 42 0) (x + 175) 38 (x + 175 + 22) L (x + 175) 42 = 0 := fun L => by rw [runL_ne (by omega) (by omega), up2_same]
        refine m_perform0 v1 v6 (by omega) (refA μ9 q3 q4 q5) (fun L => by show gI 12 42 (mkH n st S _) _ = _; rw [mI42 hS, r42 L]) (fun L => ?_) hne [] a3 (mP41 hS) (mZ42_0 hS)
        show pZ 12 42 (mkH n st S _) _ 0 = some (mkH n st S _)
        rw [mZ42_0 hS]
        congr 2
        funext a j
        by_cases h : a = x + 175 ∧ j = 42
        · obtain ⟨rfl, rfl⟩ := h
          rw [up2_same, r42 L]
        · rw [up2_ne h]
      · intro a j h
        rw [runL_ne (by omega) (by omega), up2_ne (by omega), up2_ne (by omega)]
      · exact StT.run (by omega) (acL t v) [] _ (StT.nil (by simp (disch := omega) only [up2_ne, q3]))
end ACT2
