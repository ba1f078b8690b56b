-- ===== what the Statement gives at the law's entry =====
section BEGIN0
variable {s : State} {args : Array Value}
theorem arrT_of {c : ClassId} {k : Class} {comp : ClassId} {ty : FieldType} (h1 : s.vm.classes[c]? = some k) (h2 : k.kind = .array comp ty) : ArrOfT s c ty :=
  fun _ _ => ⟨fun _ h => (by cases h), k, h1, comp, h2⟩
theorem arrT_cell {cell : Cell} {ty : FieldType} (h : s.isArrayOf cell ty) : ArrOfT s cell.cls ty := by
  obtain ⟨-, k, h1, comp, h2⟩ := h
  exact arrT_of h1 h2
theorem arrP {ty : FieldType} (h : (Cond.arrayClass ty).before args s = true) : ∃ c, ArrOfT s c ty ∧ s.vm.findClass ("[" ++ ty.toString) = some c := by
  obtain ⟨c, k, comp, h1, h2, h3⟩ := Cond.arrayClass_spec (args := args) (first := s) (o := none) (s := s) (idx := []) h
  exact ⟨c, arrT_of h2 h3, h1⟩
theorem arrO {n : String} (h : (Cond.arrayOver (.object n)).before args s = true) : ∃ c, ArrOfT s c (.object n) ∧ va_RA s c (.object n) := by
  obtain ⟨comp, c, k, h1, h2, h3, h4, h5⟩ := Cond.arrayOver_spec (args := args) (first := s) (o := none) (s := s) (idx := []) h
  exact ⟨c, arrT_of h3 h4, k, comp, h3, h4, h1, h5⟩
theorem arrA {ty : FieldType} (h : (Cond.arrayOver (.array ty)).before args s = true) : ∃ c, ArrOfT s c (.array ty) ∧ s.vm.findClass ("[" ++ (FieldType.array ty).toString) = some c := by
  simp only [Cond.before, Cond.holds, Cond.value, beq_iff_eq] at h
  cases hc : s.vm.findClass (FieldType.array ty).toString with
  | none => simp [hc] at h
  | some comp =>
    simp only [hc, Option.bind_some, Option.bind_eq_some_iff, Option.map_eq_some_iff] at h
    obtain ⟨c, hi, k, hk, hb⟩ := h
    obtain ⟨hlt, hp, -⟩ := Array.findIdx?_eq_some_iff_getElem.mp hi
    rw [(Array.getElem?_eq_some_iff.mp hk).2] at hp
    cases hkind : k.kind with
    | array component t2 =>
      rw [hkind] at hb hp
      simp at hb hp
      exact ⟨c, arrT_of (comp := comp) hk (by rw [hkind, hp, hb.1]), hb.2⟩
    | _ => rw [hkind] at hb; simp at hb
/-- an array that lies in the heap at the start, its length and its ints -/
def ArrB (s : State) (a : Nat) (ty : FieldType) (vs : List Int32) : Prop := ∃ cell : Cell, s.heap[a]? = some cell ∧ s.isArrayOf cell ty ∧ cell.vm ≠ .unknown ∧ cell.slots.size = vs.length ∧ ∀ (j : Nat) (v : Int32), vs[j]? = some v → cell.slots[j]? = some (.int v)
theorem arr_of {tm : Term} {ty : FieldType} {vs : List Int32} (hN : vs.length < 2 ^ 31) (harr : (Cond.arrayOf tm ty).before args s = true) (hlen : (Cond.eq (.length tm) (.int (Int32.ofNat vs.length))).before args s = true) (hel : ∀ (j : Nat) (v : Int32), vs[j]? = some v → (Cond.eq (.elem tm (.int (Int32.ofNat j))) (.int v)).before args s = true) : ∃ a : Nat, tm.eval args s none [] s = some (.ref a) ∧ ArrB s a ty vs := by
  have hl := va_eqt hlen
  obtain ⟨a, cell, ht, hat, hv⟩ := Term.length_spec hl
  have hsz : cell.slots.size < 2 ^ 31 := by
    simp only [Term.eval, ht, hat, Option.bind_eq_bind, Option.bind_some] at hl
    by_cases hlt : cell.slots.size < 2147483648
    · exact hlt
    · simp [hlt] at hl
  obtain ⟨hcell, hkn, -, -⟩ := State.arrayAt?_spec hat
  obtain ⟨hof, -⟩ := Cond.arrayOf_spec harr ht hcell
  have hs : cell.slots.size = vs.length := by
    have e : nI vs.length = nI cell.slots.size := Value.int.inj hv
    exact ((nI_eq hN hsz).mp e).symm
  refine ⟨a, ht, cell, hcell, hof, hkn, hs, fun j v hj => ?_⟩
  have hjl : j < vs.length := (List.getElem?_eq_some_iff.mp hj).1
  obtain ⟨a', i, cell', h1, h2, h3, h4, h5⟩ := Term.elem_spec (va_eqt (hel j v hj))
  cases ht.symm.trans h1
  cases hat.symm.trans h3
  have hi : i = nI j := by
    have e : (Term.int (Int32.ofNat j)).eval args s none [] s = some (.int (nI j)) := rfl
    cases h2.symm.trans e
    rfl
  rw [hi, nI_clamp (by omega)] at h5
  exact h5
/-- values at some places, apart from each other -/
theorem ext_fun {β : Type} {N : Nat} {A : Nat → Nat} (F : Nat → β) (d : β) (inj : ∀ i j, i < N → j < N → A i = A j → i = j) : ∃ S : Nat → β, (∀ k, k < N → S (A k) = F k) ∧ ∀ a, (∀ k, k < N → ¬ A k = a) → S a = d := by
  have h0 : ∀ a, ∃ v : β, (∀ k, k < N → A k = a → v = F k) ∧ ((∀ k, k < N → ¬ A k = a) → v = d) := by
    intro a
    rcases Classical.em (∃ k, k < N ∧ A k = a) with ⟨k, hk, e⟩ | h
    · exact ⟨F k, fun i hi e2 => congrArg F (inj k i hk hi (e.trans e2.symm)), fun h => absurd e (h k hk)⟩
    · exact ⟨d, fun i hi e2 => absurd ⟨i, hi, e2⟩ h, fun _ => rfl⟩
  obtain ⟨S, hS⟩ := Classical.axiomOfChoice h0
  exact ⟨S, fun k hk => (hS (A k)).1 k hk rfl, fun a h => (hS a).2 h⟩
/-- the terms and values of the twelve arrays: five static ones, seven texts' bytes -/
def tmS (i : Nat) : Term := .string RX4 ((KS[i]?).getD (0, "")).1
def tmA (k : Nat) : Term := if k < 5 then .static (sNm k).1 (sNm k).2.1 (sNm k).2.2 else .field (tmS (k - 5)) "java/lang/String" "value" "[B"
def tyA (k : Nat) : FieldType := if k < 5 then .int else .byte
def vaA (k : Nat) : List Int32 := if k < 5 then stV k else txV (k - 5)
def flN : List Cond := flatC (Jvm.Cond.and given_1 narrow_1)
def paL : List Nat := [5, 12, 91, 24, 101, 308, 340, 348, 390, 422, 439, 458]
theorem fl_arr : ∀ k, k < 12 → flN[(paL[k]?).getD 0]? = some (Cond.arrayOf (tmA k) (tyA k)) := by decide +kernel
theorem fl_len : ∀ k, k < 12 → flN[(paL[k]?).getD 0 + 1]? = some (Cond.eq (.length (tmA k)) (.int (Int32.ofNat (vaA k).length))) := by decide +kernel
theorem fl_el : ∀ k, k < 12 → ∀ j, j < (vaA k).length → flN[(paL[k]?).getD 0 + 2 + j]? = some (Cond.eq (.elem (tmA k) (.int (Int32.ofNat j))) (.int (((vaA k)[j]?).getD 0))) := by decide +kernel
def pxL : List Nat := [477, 478, 480, 479, 481]
theorem fl_ex : ∀ k, k < 5 → flN[(pxL[k]?).getD 0]? = some (Cond.exactly (tmA k) "[I") := by decide +kernel
theorem fl_sx : ∀ k, k < 7 → flN[(paL[k + 5]?).getD 0 - 2]? = some (Cond.exactly (tmS k) "java/lang/String") := by decide +kernel
theorem fl_sc : ∀ k, k < 7 → flN[(paL[k + 5]?).getD 0 - 1]? = some (Cond.eq (.field (tmS k) "java/lang/String" "coder" "B") (.int 0)) := by decide +kernel
def pnL (i j : Nat) : Nat := (([[], [345], [386, 387], [417, 418, 419], [433, 434, 435, 436], [451, 452, 453, 454, 455], [466, 467, 468, 469, 470, 471]] : List (List Nat)).getD i []).getD j 0
theorem fl_ne : ∀ i, i < 7 → ∀ j, j < i → flN[pnL i j]? = some (Cond.not (Cond.eq (tmS j) (tmS i))) := by decide +kernel
theorem fl_cs : flN[18]? = some (Cond.eq (.static "java/lang/String" "COMPACT_STRINGS" "Z") (.int 1)) := by decide +kernel
theorem fl_sf : flN[19]? = some (Cond.isRef (.static "jdk/internal/util/Preconditions" "SIOOBE_FORMATTER" "Ljava/util/function/BiFunction;")) := by decide +kernel
theorem arr_at (hg : (Jvm.Cond.and given_1 narrow_1).before args s = true) {k : Nat} (hk : k < 12) : ∃ a : Nat, (tmA k).eval args s none [] s = some (.ref a) ∧ ArrB s a (tyA k) (vaA k) := by
  have hs := flat_of_before _ hg
  have hl : ∀ k, k < 12 → (vaA k).length < 2 ^ 31 := by decide +kernel
  refine arr_of (hl k hk) (hs _ (List.mem_of_getElem? (fl_arr k hk))) (hs _ (List.mem_of_getElem? (fl_len k hk))) (fun j v hj => ?_)
  have h := hs _ (List.mem_of_getElem? (fl_el k hk j (List.getElem?_eq_some_iff.mp hj).1))
  rw [hj] at h
  exact h
end BEGIN0
