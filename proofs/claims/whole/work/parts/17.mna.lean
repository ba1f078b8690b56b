/-- Rel when several cells were made at once -/
theorem Rel.push3 {D : va_G} {B0 H H' : Heap} {h : AH} {o1 o2 o3 : OB} (hR : Rel D B0 H h) (hs : H'.size = H.size + 3) (hq : ∀ q, q < H.size → H'[q]? = H[q]?) (h1 : hOb D H' H.size o1) (h2 : hOb D H' (H.size + 1) o2) (h3 : hOb D H' (H.size + 2) o3) : Rel D B0 H' (h.1 + 3, va_up (va_up (va_up h.2.1 h.1 o1) (h.1 + 1) o2) (h.1 + 2) o3, h.2.2) := by
  obtain ⟨r1, r2, r3, r4, r5⟩ := hR
  refine ⟨by rw [hs]; exact congrArg (· + 3) r1, by rw [hs]; omega, fun q hlt => by rw [hq q (by omega)]; exact r3 q hlt, r4, fun q hne => ?_⟩
  show hOb D H' q (va_up (va_up (va_up h.2.1 h.1 o1) (h.1 + 1) o2) (h.1 + 2) o3 q) ∧ ((va_up (va_up (va_up h.2.1 h.1 o1) (h.1 + 1) o2) (h.1 + 2) o3 q).1 < 200 → _)
  have hne : (va_up (va_up (va_up h.2.1 h.1 o1) (h.1 + 1) o2) (h.1 + 2) o3 q).1 ≠ 99 := hne
  by_cases e3 : q = h.1 + 2
  · subst e3
    simp only [va_up, if_true]
    rw [r1]
    exact ⟨h3, fun _ => by omega⟩
  · by_cases e2 : q = h.1 + 1
    · subst e2
      simp only [va_up, if_neg e3, if_true]
      rw [r1]
      exact ⟨h2, fun _ => by omega⟩
    · by_cases e1 : q = h.1
      · subst e1
        simp only [va_up, if_neg e3, if_neg e2, if_true]
        rw [r1]
        exact ⟨h1, fun _ => r2⟩
      · simp only [va_up, if_neg e3, if_neg e2, if_neg e1] at hne ⊢
        exact ⟨(r5 q hne).1.kept (hq q (r5 q hne).1.lt), (r5 q hne).2⟩
section GMNA
variable {K : KT} {z : Option TV × AH} {cells slots pc : Nat} {lv : List (Nat × TV)} {st : List TV} {h : AH} {cc : ByteArray} {own : String} {Ts : List Cond} {ret : Option FieldType} {nm : String} {R0 : Room} {n0 m0 s0 : Nat}
theorem g_mna {α : Type} {f : AH → Option α} {w : α} (X : CX K cc own Ts ret nm R0 n0 m0 s0) (hf : (nM h).bind f = some w) {index : Nat} (h1 : Cond.classLink own index "[[I" ∈ Ts) (h2 : Cond.arrayClass .int ∈ Ts) (hcs : cells + 3 ≤ R0.cells ∧ slots + 12 ≤ R0.slots) (d : decode cc pc = .ok (.multianewarray index 2, 4)) (kk : ∀ h2, f h2 = some w → GG K z (cells + 3) (slots + 12) (pc + 4) lv (tR (some h.1) :: st) h2) : GG K z cells slots pc lv (tI 5 :: tI 2 :: st) h := by
  obtain ⟨p, l, e, R, s, m, args, below, meth, c, D, B0, nL, mc, ms⟩ := K
  obtain ⟨hx, hb, hml, hown, hts, hret, hlk, hK, hnm, hR1, hn0, hm0, hs0⟩ := X
  intro H locs ls hR hL hv
  subst hR1
  intro T hT X
  obtain ⟨vm₁, cA, comp, hW, hfA, hfC, hO, hI, X1, step⟩ := X.multianewarray2F hx (ty := .int) hown (hts _ h1) (over_moved (a' := args) (Vm.Alike.refl s.vm) hK.2.2.2.2.2.2.2.2.2.2.2.2.1) (hts _ h2) (g := F0 m pc ls (.int 5 :: .int 2 :: st.map vOf)) rfl (by rw [hb]; exact d) (n := 2) (k := 5) (rest := st.map vOf) rfl (by decide) (by decide) (by decide) (by decide) (by decide) rfl rfl hcs.1 hcs.2
  have hA : cA = D.1 102 := Option.some.inj (hfA.symm.trans (hK.2.2.1 102 (by omega) (by omega)))
  have hC : comp = D.1 100 := Option.some.inj (hfC.symm.trans (hK.2.2.1 100 (by omega) (by omega)))
  subst hA; subst hC
  obtain ⟨f1, f2, f3⟩ := Jvm.Free.Multi.fill_facts (T.setVm vm₁) (D.1 102) (D.1 100) 2 5 (.int 0) 2
  have i0 := Jvm.Free.Multi.fill_inner (T.setVm vm₁) (D.1 102) (D.1 100) 2 5 (.int 0) 2 0 (by omega)
  have i1 := Jvm.Free.Multi.fill_inner (T.setVm vm₁) (D.1 102) (D.1 100) 2 5 (.int 0) 2 1 (by omega)
  have hTs : (T.setVm vm₁).heap = H := hT
  have fo : ∀ q, q < H.size → (Jvm.Free.Multi.fill (T.setVm vm₁) (D.1 102) (D.1 100) 2 5 (.int 0) 2).heap[q]? = H[q]? := fun q hq => by
    have := Jvm.Free.Multi.fill_old (T.setVm vm₁) (D.1 102) (D.1 100) 2 5 (.int 0) (a := q) (by rw [hTs]; exact hq) 2
    rw [hTs] at this
    exact this
  rw [hTs] at f1 f2 i0 i1
  have mk : ∀ (H' : Heap) (a k n : Nat) (g : Nat → Value), 100 ≤ k → k < 200 → H'[a]? = some (arrV (D.1 k) n g) → hOb D H' a (k, n, g) := fun H' a k n g k1 k2 q =>
    ⟨fun x => absurd x (by show ¬ k < 100; omega), fun _ _ => q, fun x => absurd x (by show ¬ 200 ≤ k; omega), fun x => absurd x (by show ¬ 310 ≤ k; omega)⟩
  have inr : Jvm.Free.Multi.innerC (D.1 100) 5 (.int 0) = arrV (D.1 100) 5 (fun _ => .int 0) := arrV_new _ _ _
  have otr : Jvm.Free.Multi.outerC (D.1 102) 2 H.size 2 = arrV (D.1 102) 2 (fun j => .ref (H.size + 1 + j)) := by rfl
  rw [inr] at i0 i1
  rw [otr] at f2
  have rel : Rel D B0 (Jvm.Free.Multi.fill (T.setVm vm₁) (D.1 102) (D.1 100) 2 5 (.int 0) 2).heap (h.1 + 3, va_up (va_up (va_up h.2.1 h.1 (102, 2, fun j => .ref (h.1 + 1 + j))) (h.1 + 1) (100, 5, fun _ => .int 0)) (h.1 + 2) (100, 5, fun _ => .int 0), h.2.2) := by
    refine hR.push3 f1 fo ?_ (mk _ _ _ _ _ (by omega) (by omega) i0) (mk _ _ _ _ _ (by omega) (by omega) i1)
    rw [hR.1]
    exact mk _ _ _ _ _ (by omega) (by omega) f2
  obtain ⟨t, a1, b1⟩ := kk _ hf _ locs ls rel hL hv _ rfl X1
  refine ⟨t, step t ?_, b1⟩
  rw [hT, ← hR.1]
  exact a1
end GMNA
