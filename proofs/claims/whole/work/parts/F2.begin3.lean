-- ===== the heap at the law's entry: what lies in it =====
section BEGIN2
variable {s : State} {b L : Nat} {xs : Nat → Int32}
theorem OF_one {o n d : String} {v v' : Value} {t : Nat} {A : Nat → Prop} {U : State} {H : Heap} (h : va_OF o n d v t A U H) (h' : va_OF o n d v' t A U H) : v = v' := by
  obtain ⟨cf, k, i, f, cell, h1, h2, h3, h4, h5, h6⟩ := h
  obtain ⟨cf', k', i', f', cell', g1, g2, g3, g4, g5, g6⟩ := h'
  cases h1.symm.trans g1
  cases h3.symm.trans g3
  exact Option.some.inj (h5.symm.trans g5)
theorem tmA5 (i : Nat) : tmA (i + 5) = .field (tmS i) "java/lang/String" "value" "[B" := by
  unfold tmA
  rw [if_neg (by omega), Nat.add_sub_cancel]
theorem tyA5 (i : Nat) : tyA (i + 5) = .byte := by
  unfold tyA
  rw [if_neg (by omega)]
theorem vaA5 (i : Nat) : vaA (i + 5) = txV i := by
  unfold vaA
  rw [if_neg (by omega), Nat.add_sub_cancel]
/-- where the arrays and the texts lie -/
theorem adr_all (hg : (Jvm.Cond.and given_1 narrow_1).before #[Value.ref b] s = true) : ∃ AA : Nat → Nat, vk_S 7 ksL ksB (fun i => AA (12 + i)) (fun i => AA (5 + i)) (fun q => s.heap.size ≤ q) s s.heap ∧ (∀ i, i < 7 → (tmS i).eval #[Value.ref b] s none [] s = some (.ref (AA (12 + i)))) ∧ (∀ k, k < 5 → (tmA k).eval #[Value.ref b] s none [] s = some (.ref (AA k))) ∧ ∀ k, k < 12 → ArrB s (AA k) (tyA k) (vaA k) := by
  have hA : ∀ a : Nat, a < s.heap.size → ¬ (fun q : Nat => s.heap.size ≤ q) a := fun a h => Nat.not_le.mpr h
  have hs := flat_of_before _ hg
  have h0 : ∀ k, ∃ a : Nat, k < 12 → (tmA k).eval #[Value.ref b] s none [] s = some (.ref a) ∧ ArrB s a (tyA k) (vaA k) := by
    intro k
    by_cases hk : k < 12
    · obtain ⟨a, h⟩ := arr_at hg hk
      exact ⟨a, fun _ => h⟩
    · exact ⟨0, fun h => absurd h hk⟩
  obtain ⟨A, hAA⟩ := Classical.axiomOfChoice h0
  have l1 : ∀ i, i < 7 → ksL.getD i 0 < 2 ^ 31 := by decide +kernel
  have l2 : ∀ i, i < 7 → (vaA (i + 5)).length = ksL.getD i 0 := by decide +kernel
  obtain ⟨adK, adV, hS, hK⟩ := vk_Sof (args := #[Value.ref b]) (s := s) (N := 7) (tm := tmS) (len := ksL) (byt := ksB) (A := fun q : Nat => s.heap.size ≤ q) l1 (fun i hi => hs _ (List.mem_of_getElem? (fl_sx i hi))) (fun i hi => hs _ (List.mem_of_getElem? (fl_sc i hi))) (fun i hi => by
    have h := hs _ (List.mem_of_getElem? (fl_arr (i + 5) (by omega)))
    rw [tmA5, tyA5] at h
    exact h) (fun i hi => by
    have h := hs _ (List.mem_of_getElem? (fl_len (i + 5) (by omega)))
    rw [tmA5, l2 i hi] at h
    exact h) (fun i hi j hj => by
    have h := hs _ (List.mem_of_getElem? (fl_el (i + 5) (by omega) j (by rw [l2 i hi]; exact hj)))
    rw [tmA5, vaA5] at h
    exact h) (fun i j hi hj hne => by
    rcases Nat.lt_or_gt_of_ne hne with h | h
    · exact Or.inl (hs _ (List.mem_of_getElem? (fl_ne j hj i h)))
    · exact Or.inr (hs _ (List.mem_of_getElem? (fl_ne i hi j h)))) hA
  have hV : ∀ i, i < 7 → adV i = A (i + 5) := by
    intro i hi
    have h1 := (hAA (i + 5) (by omega)).1
    rw [tmA5] at h1
    exact Value.ref.inj (OF_one (hS.1 i hi).2.2.1 (vk_OFof (hK i hi) h1 hA))
  refine ⟨fun k => if k < 5 then A k else if k < 12 then adV (k - 5) else adK (k - 12), ⟨fun i hi => ?_, fun i j hi hj e => ?_⟩, fun i hi => ?_, fun k hk => ?_, fun k hk => ?_⟩
  · have e1 : (if 12 + i < 5 then A (12 + i) else if 12 + i < 12 then adV (12 + i - 5) else adK (12 + i - 12)) = adK i := by
      rw [if_neg (by omega), if_neg (by omega), Nat.add_sub_cancel_left]
    have e2 : (if 5 + i < 5 then A (5 + i) else if 5 + i < 12 then adV (5 + i - 5) else adK (5 + i - 12)) = adV i := by
      rw [if_neg (by omega), if_pos (by omega), Nat.add_sub_cancel_left]
    simp only [e1, e2]
    exact hS.1 i hi
  · have e1 : ∀ i, (if 12 + i < 5 then A (12 + i) else if 12 + i < 12 then adV (12 + i - 5) else adK (12 + i - 12)) = adK i := fun i => by
      rw [if_neg (by omega), if_neg (by omega), Nat.add_sub_cancel_left]
    simp only [e1] at e
    exact hS.2 i j hi hj e
  · have e1 : (if 12 + i < 5 then A (12 + i) else if 12 + i < 12 then adV (12 + i - 5) else adK (12 + i - 12)) = adK i := by
      rw [if_neg (by omega), if_neg (by omega), Nat.add_sub_cancel_left]
    simp only [e1]
    exact hK i hi
  · have e1 : (if k < 5 then A k else if k < 12 then adV (k - 5) else adK (k - 12)) = A k := if_pos hk
    simp only [e1]
    exact (hAA k (by omega)).1
  · have e1 : (if k < 5 then A k else if k < 12 then adV (k - 5) else adK (k - 12)) = A k := by
      by_cases h5 : k < 5
      · rw [if_pos h5]
      · rw [if_neg h5, if_pos hk, hV (k - 5) (by omega), Nat.sub_add_cancel (by omega)]
    simp only [e1]
    exact (hAA k hk).2
theorem va_tab : ∀ i, i < 12 → ∀ j, j < 12 → (vaA i).length = (vaA j).length → ((vaA i)[0]?).getD 0 = ((vaA j)[0]?).getD 0 → i = j := by decide +kernel
theorem va_fst : ∀ i, i < 12 → (vaA i)[0]? = some (((vaA i)[0]?).getD 0) := by decide +kernel
/-- they are apart -/
theorem adr_inj {AA : Nat → Nat} (hS : vk_S 7 ksL ksB (fun i => AA (12 + i)) (fun i => AA (5 + i)) (fun q => s.heap.size ≤ q) s s.heap) (hA : ∀ k, k < 12 → ArrB s (AA k) (tyA k) (vaA k)) : ∀ i j, i < 19 → j < 19 → AA i = AA j → i = j := by
  have mixed : ∀ i j, i < 12 → j < 7 → ¬ AA i = AA (12 + j) := by
    intro i j hi hj e
    obtain ⟨cell, g1, -, -, g4, g5⟩ := hA i hi
    obtain ⟨cf, k, fi, f, cell', -, -, q3, -, q5, -⟩ := (hS.1 j hj).2.2.1
    have q3' : s.heap[AA i]? = some cell' := by rw [e]; exact q3
    cases g1.symm.trans q3'
    have hlt : f.slot < cell.slots.size := (Array.getElem?_eq_some_iff.mp q5).1
    rw [g4] at hlt
    have h := g5 f.slot _ (List.getElem?_eq_getElem hlt)
    cases h.symm.trans q5
  intro i j hi hj e
  by_cases h1 : i < 12
  · by_cases h2 : j < 12
    · obtain ⟨cell, g1, -, -, g4, g5⟩ := hA i h1
      obtain ⟨cell', q1, -, -, q4, q5⟩ := hA j h2
      rw [e] at g1
      cases g1.symm.trans q1
      have a1 := g5 0 _ (va_fst i h1)
      have a2 := q5 0 _ (va_fst j h2)
      exact va_tab i h1 j h2 (g4.symm.trans q4) (Value.int.inj (Option.some.inj (a1.symm.trans a2)))
    · exact absurd (e.trans (congrArg AA (by omega : j = 12 + (j - 12)))) (mixed i (j - 12) h1 (by omega))
  · by_cases h2 : j < 12
    · exact absurd (e.symm.trans (congrArg AA (by omega : i = 12 + (i - 12)))) (mixed j (i - 12) h2 (by omega))
    · have h := hS.2 (i - 12) (j - 12) (by omega) (by omega) ((congrArg AA (by omega : 12 + (i - 12) = i)).trans (e.trans (congrArg AA (by omega : j = 12 + (j - 12)))))
      omega
theorem hOb_arr {D : va_G} {a κ : Nat} {ty : FieldType} {vs : List Int32} (h1 : 200 ≤ κ) (h2 : κ < 310) (hA : ArrB s a ty vs) (hc : ∀ cell, s.heap[a]? = some cell → cell.cls = D.1 κ) : hOb D s.heap a (κ, vs.length, fun j => .int ((vs[j]?).getD 0)) := by
  obtain ⟨cell, g1, g2, g3, g4, g5⟩ := hA
  refine ⟨fun h => ?_, fun _ h => ?_, fun _ _ => ⟨cell, g1, hc cell g1, g2.1, g3, g4, fun j hj => ?_⟩, fun h => ?_⟩
  · have h' : κ < 100 := h
    omega
  · have h' : κ < 200 := h
    omega
  · have hj' : j < vs.length := hj
    have e := List.getElem?_eq_getElem hj'
    show cell.slots[j]? = some (.int ((vs[j]?).getD 0))
    rw [e]
    exact g5 j _ e
  · have h' : 310 ≤ κ := h
    omega
def clAt (H : Heap) (a : Nat) : ClassId := ((H[a]?).map fun q => q.cls).getD 0
theorem clAt_of {H : Heap} {a : Nat} {cell : Cell} (h : H[a]? = some cell) : clAt H a = cell.cls := by
  unfold clAt
  rw [h]
  rfl
def sf (AA : Nat → Nat) (z j : Nat) : Nat := if j < 5 then AA j else if j = 50 then z else if j = 51 then 1 else if j < 70 then AA (j - 48) else AA (j - 65)
theorem sf_a {AA : Nat → Nat} {z j : Nat} (h : j < 5) : sf AA z j = AA j := if_pos h
theorem sf_k {AA : Nat → Nat} {z i : Nat} (h : i < 7) : sf AA z (60 + i) = AA (12 + i) := by
  unfold sf
  rw [if_neg (by omega), if_neg (by omega), if_neg (by omega), if_pos (by omega)]
  exact congrArg AA (by omega)
theorem sf_v {AA : Nat → Nat} {z i : Nat} (h : i < 7) : sf AA z (70 + i) = AA (5 + i) := by
  unfold sf
  rw [if_neg (by omega), if_neg (by omega), if_neg (by omega), if_neg (by omega)]
  exact congrArg AA (by omega)
theorem sf_f {AA : Nat → Nat} {z : Nat} : sf AA z 50 = z := rfl
theorem sf_c {AA : Nat → Nat} {z : Nat} : sf AA z 51 = 1 := rfl
def dcF (H : Heap) (b : Nat) (AA : Nat → Nat) (d : Nat → ClassId × (Nat → Nat)) (e : Nat → ClassId) (k : Nat) : ClassId := if k < 13 then (d k).1 else if k < 110 then e k else if k = 250 then clAt H b else if k < 300 then e 100 else if k < 307 then clAt H (AA (5 + (k - 300))) else e 300
def diF (AA : Nat → Nat) (z : Nat) (d : Nat → ClassId × (Nat → Nat)) (c : Nat) : Nat → Nat := if c = 98 then sf AA z else (d c).2
theorem diF_98 {AA : Nat → Nat} {z : Nat} {d : Nat → ClassId × (Nat → Nat)} : diF AA z d 98 = sf AA z := rfl
theorem atyI {k : Nat} (h1 : 110 ≤ k) (h2 : k < 300) : aty k = .int := by
  unfold aty
  rw [if_neg (by omega), if_neg (by omega), if_neg (by omega), if_neg (by omega), if_neg (by omega), if_neg (by omega), if_neg (by omega), if_neg (by omega), if_neg (by omega), if_neg (by omega)]
theorem atyB {k : Nat} (h1 : 300 ≤ k) : aty k = .byte := by
  unfold aty
  rw [if_neg (by omega), if_neg (by omega), if_neg (by omega), if_neg (by omega), if_neg (by omega), if_neg (by omega), if_neg (by omega), if_neg (by omega), if_neg (by omega), if_pos h1]
theorem z_all (hts : ∀ w ∈ lw_tbl, w.before #[Value.ref b] s = true) {AA : Nat → Nat} (hE : ∀ k, k < 5 → (tmA k).eval #[Value.ref b] s none [] s = some (.ref (AA k))) : ∀ j, j < 5 → va_Z (sNm j).1 (sNm j).2.1 (sNm j).2.2 (.ref (AA j)) (fun q => s.heap.size ≤ q) s s.heap := by
  have hA : ∀ a : Nat, a < s.heap.size → ¬ (fun q : Nat => s.heap.size ≤ q) a := fun a h => Nat.not_le.mpr h
  intro j hj
  rcases (by omega : j = 0 ∨ j = 1 ∨ j = 2 ∨ j = 3 ∨ j = 4) with rfl | rfl | rfl | rfl | rfl
  · exact va_Zof (hts _ ls_0) (hts _ (tbIn tb_1)) (hE 0 hj) hA
  · exact va_Zof (hts _ ls_1) (hts _ (tbIn tb_1)) (hE 1 hj) hA
  · exact va_Zof (hts _ ls_2) (hts _ (tbIn tb_1)) (hE 2 hj) hA
  · exact va_Zof (hts _ ls_3) (hts _ (tbIn tb_1)) (hE 3 hj) hA
  · exact va_Zof (hts _ ls_4) (hts _ (tbIn tb_12)) (hE 4 hj) hA
theorem r_all (hts : ∀ w ∈ lw_tbl, w.before #[Value.ref b] s = true) {AA : Nat → Nat} (hE : ∀ i, i < 7 → (tmS i).eval #[Value.ref b] s none [] s = some (.ref (AA (12 + i)))) : ∀ (j : Nat) (q : Nat × String), KS[j]? = some q → vk_R RX4 q.1 q.2 (AA (12 + j)) s := by
  intro j q hq
  rcases j with _ | _ | _ | _ | _ | _ | _ | j
  · obtain rfl := Option.some.inj hq
    exact vk_R.of (hts _ sr_0) (hE 0 (by omega))
  · obtain rfl := Option.some.inj hq
    exact vk_R.of (hts _ sr_1) (hE 1 (by omega))
  · obtain rfl := Option.some.inj hq
    exact vk_R.of (hts _ sr_2) (hE 2 (by omega))
  · obtain rfl := Option.some.inj hq
    exact vk_R.of (hts _ sr_3) (hE 3 (by omega))
  · obtain rfl := Option.some.inj hq
    exact vk_R.of (hts _ sr_4) (hE 4 (by omega))
  · obtain rfl := Option.some.inj hq
    exact vk_R.of (hts _ sr_5) (hE 5 (by omega))
  · obtain rfl := Option.some.inj hq
    exact vk_R.of (hts _ sr_6) (hE 6 (by omega))
  · cases hq
/-- all that the start gives -/
theorem start_all (hts : ∀ w ∈ lw_tbl, w.before #[Value.ref b] s = true) (hX : va_X b L xs s s.heap) (hbl : b < s.heap.size) (hg : (Jvm.Cond.and given_1 narrow_1).before #[Value.ref b] s = true) : ∃ (D : va_G) (S : SH) (μ : MU), KF D s.heap s ∧ (∃ cell : Cell, s.heap[b]? = some cell ∧ cell.cls = D.1 250 ∧ (∀ q, cell.vm ≠ .statics q) ∧ cell.vm ≠ .unknown ∧ cell.slots.size = L ∧ ∀ j, j < L → cell.slots[j]? = some (.int (xs j))) ∧ Rel D s.heap s.heap (mkH s.heap.size (D.2 98) S μ) ∧ BaseOK (D.2 98) S μ s.heap.size b := by
  have hA : ∀ a : Nat, a < s.heap.size → ¬ (fun q : Nat => s.heap.size ≤ q) a := fun a h => Nat.not_le.mpr h
  have hs := flat_of_before _ hg
  obtain ⟨AA, hS, hK, hE, hAr⟩ := adr_all hg
  have inj := adr_inj hS hAr
  obtain ⟨d, hd⟩ := kn_all hts
  obtain ⟨e, he, heb, hei⟩ := ar_all hts
  obtain ⟨z, hz⟩ : ∃ z, va_Z "jdk/internal/util/Preconditions" "SIOOBE_FORMATTER" "Ljava/util/function/BiFunction;" (vOf (tR (sio z))) (fun q => s.heap.size ≤ q) s s.heap := by
    rcases va_Zqof (A := fun q : Nat => s.heap.size ≤ q) (hts _ ls_sf) (hts _ in_pc) (hs _ (List.mem_of_getElem? fl_sf)) hA with h | ⟨t, h⟩
    · exact ⟨0, h⟩
    · exact ⟨t + 1, h⟩
  have hcs : va_Z "java/lang/String" "COMPACT_STRINGS" "Z" (.int (Int32.ofNat 1)) (fun q => s.heap.size ≤ q) s s.heap := va_Zof (hts _ ls_cs) (hts _ in_st) (va_eqi (hs _ (List.mem_of_getElem? fl_cs))) hA
  obtain ⟨scr, x1, x2, x3, x4, x5⟩ := hX
  obtain ⟨S, S1, S2⟩ := ext_fun (N := 19) (A := AA) (β := Nat × Nat × (Nat → Option (Option Nat))) (fun k => if k < 5 then (200 + k, (vaA k).length, fun _ => none) else if k < 12 then (300 + (k - 5), (vaA k).length, fun _ => none) else (310, 2, fun j => if j = 0 then some (some (AA (5 + (k - 12)))) else none)) (99, 0, fun _ => none) inj
  obtain ⟨μ, M1, -⟩ := ext_fun (N := 19) (A := AA) (β := Nat → Int32) (fun k j => if k < 12 then ((vaA k)[j]?).getD 0 else 0) (fun _ => 0) inj
  have SA : ∀ k, k < 5 → S (AA k) = (200 + k, (vaA k).length, fun _ => none) := fun k hk => by
    rw [S1 k (by omega), if_pos hk]
  have SV : ∀ i, i < 7 → S (AA (5 + i)) = (300 + i, (txV i).length, fun _ => none) := fun i hi => by
    rw [S1 (5 + i) (by omega), if_neg (by omega), if_pos (by omega), Nat.add_sub_cancel_left, Nat.add_comm 5 i, vaA5]
  have SK : ∀ i, i < 7 → S (AA (12 + i)) = (310, 2, fun j => if j = 0 then some (some (AA (5 + i))) else none) := fun i hi => by
    rw [S1 (12 + i) (by omega), if_neg (by omega), if_neg (by omega), Nat.add_sub_cancel_left]
  have MA : ∀ k j, k < 12 → μ (AA k) j = ((vaA k)[j]?).getD 0 := fun k j hk => by
    rw [M1 k (by omega)]
    exact if_pos hk
  have MK : ∀ i j, i < 7 → μ (AA (12 + i)) j = 0 := fun i j hi => by
    rw [M1 (12 + i) (by omega)]
    exact if_neg (by omega)
  have lt : ∀ k, k < 12 → AA k < s.heap.size := fun k hk => by
    obtain ⟨cell, g1, -⟩ := hAr k hk
    exact (Array.getElem?_eq_some_iff.mp g1).1
  have ltK : ∀ i, i < 7 → AA (12 + i) < s.heap.size := fun i hi => by
    obtain ⟨cell, g1, -⟩ := (hS.1 i hi).1
    exact (Array.getElem?_eq_some_iff.mp g1).1
  have d13 : ∀ k, k < 13 → dcF s.heap b AA d e k = (d k).1 := fun k hk => if_pos hk
  have d110 : ∀ k, 13 ≤ k → k < 110 → dcF s.heap b AA d e k = e k := fun k h1 h2 => by
    unfold dcF
    rw [if_neg (by omega), if_pos h2]
  have d250 : dcF s.heap b AA d e 250 = clAt s.heap b := rfl
  have d200 : ∀ k, 110 ≤ k → k < 300 → ¬ k = 250 → dcF s.heap b AA d e k = e 100 := fun k h1 h2 h3 => by
    unfold dcF
    rw [if_neg (by omega), if_neg (by omega), if_neg h3, if_pos h2]
  have d300 : ∀ k, 300 ≤ k → k < 307 → dcF s.heap b AA d e k = clAt s.heap (AA (5 + (k - 300))) := fun k h1 h2 => by
    unfold dcF
    rw [if_neg (by omega), if_neg (by omega), if_neg (by omega), if_neg (by omega), if_pos h2]
  have d307 : ∀ k, 307 ≤ k → dcF s.heap b AA d e k = e 300 := fun k h1 => by
    unfold dcF
    rw [if_neg (by omega), if_neg (by omega), if_neg (by omega), if_neg (by omega), if_neg (by omega)]
  have byt : ∀ i, i < 7 → ArrOfT s (clAt s.heap (AA (5 + i))) .byte := fun i hi => by
    obtain ⟨cell, g1, g2, -⟩ := hAr (5 + i) (by omega)
    rw [clAt_of g1]
    rw [Nat.add_comm 5 i, tyA5] at g2
    exact arrT_cell g2
  have hVw : ∀ i, i < 7 → ArrB s (AA (5 + i)) .byte (txV i) := fun i hi => by
    have h := hAr (5 + i) (by omega)
    rw [Nat.add_comm 5 i, tyA5, vaA5, Nat.add_comm i 5] at h
    exact h
  have hKF : KF (dcF s.heap b AA d e, diF AA z d) s.heap s := by
    refine ⟨fun c q hq => ?_, fun k h1 h2 => ?_, fun k h1 h2 => ?_, fun j hj => ?_, nw_all hts, va_Nw.of rfl (hts _ fn_0), ⟨fun i hi => ?_, fun i j hi hj h => ?_⟩, fun j q hq => ?_, hcs, ao_all hts, ?_, fun k h1 h2 => ?_, hts _ ao_ii, ?_⟩
    · have hc : c < 13 := (List.getElem?_eq_some_iff.mp hq).1
      show u_Kn s q.1 q.2.1 q.2.2 (dcF s.heap b AA d e c) (diF AA z d c)
      rw [d13 c hc]
      have e2 : diF AA z d c = (d c).2 := if_neg (by omega)
      rw [e2]
      exact hd c q hq
    · show ArrOfT s (dcF s.heap b AA d e k) (aty k)
      by_cases q1 : k < 110
      · rw [d110 k (by omega) q1]
        exact (he k h1 q1).1
      by_cases q2 : k < 300
      · rw [atyI (by omega) q2]
        by_cases q3 : k = 250
        · subst q3
          rw [d250, clAt_of x1]
          exact arrT_cell x2
        · rw [d200 k (by omega) q2 q3]
          exact (he 100 (by omega) (by omega)).1
      rw [atyB (by omega)]
      by_cases q4 : k < 307
      · rw [d300 k (by omega) q4]
        exact byt (k - 300) (by omega)
      · rw [d307 k (by omega)]
        exact heb
    · show va_RA s (dcF s.heap b AA d e k) (aty k)
      rw [d110 k (by omega) h2]
      exact (he k h1 h2).2
    · show va_Z _ _ _ (.ref (diF AA z d 98 j)) _ _ _
      rw [diF_98, sf_a hj]
      exact z_all hts hE j hj
    · show va_O _ (diF AA z d 98 (60 + i)) _ _ _ ∧ va_OF _ _ _ _ (diF AA z d 98 (60 + i)) _ _ _ ∧ va_OF _ _ _ (.ref (diF AA z d 98 (70 + i))) (diF AA z d 98 (60 + i)) _ _ _ ∧ va_T _ (diF AA z d 98 (70 + i)) _ _ _ _ _
      rw [diF_98, sf_k hi, sf_v hi]
      exact hS.1 i hi
    · have h' : diF AA z d 98 (60 + i) = diF AA z d 98 (60 + j) := h
      rw [diF_98, sf_k hi, sf_k hj] at h'
      exact hS.2 i j hi hj h'
    · have hj : j < 7 := (List.getElem?_eq_some_iff.mp hq).1
      show vk_R RX4 q.1 q.2 (diF AA z d 98 (60 + j)) s
      rw [diF_98, sf_k hj]
      exact r_all hts hK j q hq
    · obtain ⟨c, t, q1, q2, q3⟩ := Cond.castable_spec (args := #[Value.ref b]) (first := s) (o := none) (s := s) (idx := []) (hts _ cl_ci)
      exact ⟨c, t, q1, q2, q3⟩
    · show dcF s.heap b AA d e k = dcF s.heap b AA d e 100
      rw [d200 k (by omega) (by omega) (by omega), d110 100 (by omega) (by omega)]
    · exact hz
  refine ⟨(dcF s.heap b AA d e, diF AA z d), S, μ, hKF, ⟨scr, x1, (clAt_of x1).symm, x2.1, x3, x4, x5⟩, ⟨rfl, Nat.le_refl _, fun _ _ => rfl, fun _ => rfl, fun a ha => ?_⟩, hbl, fun j hj => ?_, fun i hi => ?_, rfl⟩
  · show hOb (dcF s.heap b AA d e, diF AA z d) s.heap a ((S a).1, (S a).2.1, fun j => slV ((S a).2.2 j) (μ a j)) ∧ ((S a).1 < 200 → s.heap.size ≤ a)
    have ha' : ¬ (S a).1 = 99 := ha
    rcases Classical.em (∃ k, k < 19 ∧ AA k = a) with ⟨k, hk, rfl⟩ | hno
    · by_cases k5 : k < 5
      · rw [SA k k5]
        refine ⟨?_, fun h => absurd h (by show ¬ 200 + k < 200; omega)⟩
        have e1 : (fun j => slV ((fun _ => none : Nat → Option (Option Nat)) j) (μ (AA k) j)) = fun j => Value.int (((vaA k)[j]?).getD 0) := funext fun j => congrArg Value.int (MA k j (by omega))
        show hOb _ _ _ (200 + k, (vaA k).length, fun j => slV ((fun _ => none : Nat → Option (Option Nat)) j) (μ (AA k) j))
        rw [e1]
        refine hOb_arr (by omega) (by omega) (hAr k (by omega)) (fun cell hc => ?_)
        show cell.cls = dcF s.heap b AA d e (200 + k)
        rw [d200 (200 + k) (by omega) (by omega) (by omega)]
        obtain ⟨a', c', cell', kk, q1, q2, q3, -, -, q6, -⟩ := Cond.exactly_spec (args := #[Value.ref b]) (first := s) (o := none) (s := s) (idx := []) (hs _ (List.mem_of_getElem? (fl_ex k k5)))
        cases (hE k k5).symm.trans q1
        cases hc.symm.trans q3
        rw [q6]
        exact Option.some.inj (q2.symm.trans hei)
      by_cases k12 : k < 12
      · obtain ⟨i, rfl⟩ : ∃ i, k = 5 + i := ⟨k - 5, by omega⟩
        have hi : i < 7 := by omega
        rw [SV i hi]
        refine ⟨?_, fun h => absurd h (by show ¬ 300 + i < 200; omega)⟩
        have e1 : (fun j => slV ((fun _ => none : Nat → Option (Option Nat)) j) (μ (AA (5 + i)) j)) = fun j => Value.int (((txV i)[j]?).getD 0) := funext fun j => congrArg Value.int (by rw [MA (5 + i) j (by omega), Nat.add_comm 5 i, vaA5])
        show hOb _ _ _ (300 + i, (txV i).length, fun j => slV ((fun _ => none : Nat → Option (Option Nat)) j) (μ (AA (5 + i)) j))
        rw [e1]
        refine hOb_arr (by omega) (by omega) (hVw i hi) (fun cell hc => ?_)
        show cell.cls = dcF s.heap b AA d e (300 + i)
        rw [d300 (300 + i) (by omega) (by omega), Nat.add_sub_cancel_left, clAt_of hc]
      · obtain ⟨i, rfl⟩ : ∃ i, k = 12 + i := ⟨k - 12, by omega⟩
        have hi : i < 7 := by omega
        rw [SK i hi]
        refine ⟨⟨fun h => absurd h (by show ¬ 310 < 100; omega), fun _ h => absurd h (by show ¬ 310 < 200; omega), fun _ h => absurd h (by show ¬ 310 < 310; omega), fun _ => ⟨ltK i hi, i, hi, ?_, ?_, ?_⟩⟩, fun h => absurd h (by show ¬ 310 < 200; omega)⟩
        · show AA (12 + i) = diF AA z d 98 (60 + i)
          rw [diF_98, sf_k hi]
        · show Value.ref (AA (5 + i)) = Value.ref (diF AA z d 98 (70 + i))
          rw [diF_98, sf_v hi]
        · show Value.int (μ (AA (12 + i)) 1) = Value.int 0
          rw [MK i 1 hi]
    · exact absurd (by rw [S2 a (fun k hk q => hno ⟨k, hk, q⟩)]) ha'
  · show diF AA z d 98 j < s.heap.size ∧ nnS S (diF AA z d 98 j) (200 + j) (stV j).length ∧ ∀ q v, (stV j)[q]? = some v → μ (diF AA z d 98 j) q = v
    rw [diF_98, sf_a hj]
    have ev : vaA j = stV j := if_pos hj
    refine ⟨lt j (by omega), obS.of (ev ▸ SA j hj) (fun _ _ => rfl), fun q v hv => ?_⟩
    rw [MA j q (by omega), ev, hv]
    rfl
  · show diF AA z d 98 (60 + i) < s.heap.size ∧ diF AA z d 98 (70 + i) < s.heap.size ∧ (S (diF AA z d 98 (60 + i))).1 = 310 ∧ (S (diF AA z d 98 (60 + i))).2.2 0 = some (some (diF AA z d 98 (70 + i))) ∧ (S (diF AA z d 98 (60 + i))).2.2 1 = none ∧ μ (diF AA z d 98 (60 + i)) 1 = 0 ∧ nnS S (diF AA z d 98 (70 + i)) (300 + i) (txV i).length ∧ ∀ q v, (txV i)[q]? = some v → μ (diF AA z d 98 (70 + i)) q = v
    rw [diF_98, sf_k hi, sf_v hi]
    refine ⟨ltK i hi, lt (5 + i) (by omega), by rw [SK i hi], by rw [SK i hi]; rfl, by rw [SK i hi]; rfl, MK i 1 hi, obS.of (SV i hi) (fun _ _ => rfl), fun q v hv => ?_⟩
    rw [MA (5 + i) q (by omega), Nat.add_comm 5 i, vaA5, hv]
    rfl
end BEGIN2
