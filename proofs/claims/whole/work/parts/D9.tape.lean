-- ===== the class's reader: lines =====
def FrRun (x l : Nat) (μ μ' : MU) : Prop := ∀ a j, ¬ ((a = x + 149 ∧ (j = 3 ∨ 6 ≤ j)) ∨ a = x + 157 ∨ (a = x + 151 ∧ j = 3) ∨ a = x + 152 ∨ (a = x + 154 ∧ j = l)) → μ' a j = μ a j
/-- the whole reading failed at e -/
def Fail (n : Nat) (st : Nat → Nat) (S : SH) (x : Nat) (μ : MU) (r : Option (Int32 × AH)) (e : Nat) : Prop := ∃ μ' : MU, r = some (-100 - nI e, mkH n st S μ') ∧ μ' (x + 149) 1 = 0 ∧ ∀ a j, ¬ (x + 149 ≤ a ∧ a ≤ x + 157) → μ' a j = μ a j
def reaC (T : Nat → Int32) (N : Nat) : Nat → (Nat → Bool) → Int32 → List Int32 → (Nat → Nat) → (Nat → Nat) → Nat → Nat ⊕ ((Nat → Bool) × Int32 × List Int32 × (Nat → Nat) × (Nat → Nat))
  | 0, H, ys, C, bg, en, _ => .inr (H, ys, C, bg, en)
  | f + 1, H, ys, C, bg, en, p => if tK T N p = 0 then .inr (H, ys, C, bg, en)
    else if tK T N p ≠ 2 ∨ 4 < tV T N p ∨ H (tV T N p).toNatClampNeg = true then .inl (tB T N p)
    else if (tV T N p).toNatClampNeg < 4 then (match rW T N (nI (tV T N p).toNatClampNeg) (2, false, 0, [], C) (tA T N p) with
      | .inl e => .inl e
      | .inr q => reaC T N f (fun i => if i = (tV T N p).toNatClampNeg then true else H i) ys q.1 (fun i => if i = (tV T N p).toNatClampNeg then C.length else bg i) (fun i => if i = (tV T N p).toNatClampNeg then q.1.length else en i) q.2)
    else if tK T N (tA T N p) ≠ 3 ∨ 50 < tV T N (tA T N p) then .inl (tB T N (tA T N p))
    else if tK T N (tA T N (tA T N p)) = 59 then reaC T N f (fun i => if i = 4 then true else H i) (tV T N (tA T N p)) C bg en (tA T N (tA T N (tA T N p)))
    else .inl (tB T N (tA T N (tA T N p)))
section TAPE
variable {n : Nat} {st : Nat → Nat} {S : SH} {μ μ' : MU} {x b m l : Nat} {T : Nat → Int32} {N p : Nat}
theorem FrRun.trans {μ'' : MU} (h : FrRun x l μ μ') (h' : FrRun x l μ' μ'') : FrRun x l μ μ'' := fun a j q => (h' a j q).trans (h a j q)
theorem FrAcc.run (h : FrAcc x l μ μ') : FrRun x l μ μ' := fun a j q => h a j (by omega)
theorem FrR.run (h : FrR x μ μ') : FrRun x l μ μ' := fun a j q => h a j (by omega)
theorem FrRun.tp (h : FrRun x l μ μ') (hT : TpR μ x T N) : TpR μ' x T N := hT.fr (fun a j q => h a j (by omega))
theorem FrRun.base (h : FrRun x l μ μ') (hB : BaseOK st S μ x b) : BaseOK st S μ' x b := hB.congr (fun _ _ => rfl) (fun a j q => h a j (by omega))
theorem FrR.mm {σ : MSt} (h : FrR x μ μ') (hM : RdM μ x σ) : RdM μ' x σ := hM.fr (fun a j q => h a j (by omega))
theorem b78_no (hX : ShX S x) (h9 : μ (x + 149) 9 = nI (tB T N p)) : b_X4_useTape_78 (some (x + 149)) 0 (mkH n st S μ) = some (-100 - nI (tB T N p), mkH n st S (up2 μ (x + 149) 1 0)) := by
  have e : up2 μ (x + 149) 1 0 (x + 149) 9 = nI (tB T N p) := by rw [up2_ne (by omega), h9]
  simp only [b_X4_useTape_78, rdP1 hX, some_bind, if_true, b_X4_useTape_104, rdI9 hX, e]
theorem b78_st (hX : ShX S x) (h9 : μ (x + 149) 9 = nI (tB T N p)) {md : Nat} (h3 : μ (x + 149) 3 = nI md) (hm : ¬ md = 0) (hm9 : md < 10) : b_X4_useTape_78 (some (x + 149)) 1 (mkH n st S μ) = some (-100 - nI (tB T N p), mkH n st S (up2 μ (x + 149) 1 0)) := by
  have e : up2 μ (x + 149) 1 0 (x + 149) 9 = nI (tB T N p) := by rw [up2_ne (by omega), h9]
  have e3 : up2 μ (x + 149) 1 0 (x + 149) 3 = nI md := by rw [up2_ne (by omega), h3]
  have g : ¬ nI md = (0 : Int32) := fun q => by
    have : nI md = nI 0 := q
    simp (disch := omega) only [nn_eq] at this
    exact hm this
  have i10 : ¬ (1 : Int32) = 0 := by decide
  simp only [b_X4_useTape_78, rdP1 hX, some_bind, i10, if_false, rdI3 hX, e3, g, b_X4_useTape_104, rdI9 hX, e]
theorem ut_end (hX : ShX S x) (hT : TpR μ x T N) (hk : TkA μ x T N p) (h0 : tK T N p = 0) {i : Nat} (fu : Nat) : b_X4_useTape_40 (fu + 1) (some (x + 149)) 1 (nI i) (mkH n st S μ) = b_X4_useTape_78 (some (x + 149)) 1 (mkH n st S μ) := by
  have e8 : μ (x + 149) 8 = -1 := by
    rw [hk.2.2]
    have := so_end (T := T) (N := N) (p := p) hT.2.2.2
    rw [this]
    exact h0
  have i10 : ¬ (1 : Int32) = 0 := by decide
  by_cases g : nI i < (300 : Int32)
  · simp only [b_X4_useTape_40, g, if_true, i10, if_false, rdI8 hX, some_bind, e8]
  · simp only [b_X4_useTape_40, g, if_false]
theorem ut_rej (hX : ShX S x) (hT : TpR μ x T N) (hk : TkA μ x T N p) (h0 : ¬ tK T N p = 0) {i : Nat} (hi : i < 300) (fu : Nat) (ha : f_X4_accept (some (x + 149)) (mkH n st S μ) = some (0, mkH n st S μ')) : b_X4_useTape_40 (fu + 2) (some (x + 149)) 1 (nI i) (mkH n st S μ) = b_X4_useTape_78 (some (x + 149)) 0 (mkH n st S μ') := by
  have e8 : ¬ μ (x + 149) 8 = -1 := by
    rw [hk.2.2]
    have := so_end (T := T) (N := N) (p := p) hT.2.2.2
    rw [this]
    exact h0
  have i10 : ¬ (1 : Int32) = 0 := by decide
  have g : nI i < (300 : Int32) := nI_lt (b := 300) hi (by omega)
  rw [b_X4_useTape_40]
  simp only [g, if_true, i10, if_false, rdI8 hX, some_bind, e8, rdck hX, ha]
  by_cases g2 : nI i + 1 < (300 : Int32)
  · simp only [b_X4_useTape_40, g2, if_true]
  · simp only [b_X4_useTape_40, g2, if_false]
theorem ut_go (hX : ShX S x) (hT : TpR μ x T N) (hk : TkA μ x T N p) (h0 : ¬ tK T N p = 0) {i : Nat} (hi : i < 300) (fu : Nat) (ha : f_X4_accept (some (x + 149)) (mkH n st S μ) = some (1, mkH n st S μ')) {μ2 : MU} (hf : f_X4_find (some (x + 149)) (mkH n st S μ') = some (mkH n st S μ2)) : b_X4_useTape_40 (fu + 1) (some (x + 149)) 1 (nI i) (mkH n st S μ) = b_X4_useTape_40 fu (some (x + 149)) 1 (nI (i + 1)) (mkH n st S μ2) := by
  have e8 : ¬ μ (x + 149) 8 = -1 := by
    rw [hk.2.2]
    have := so_end (T := T) (N := N) (p := p) hT.2.2.2
    rw [this]
    exact h0
  have i10 : ¬ (1 : Int32) = 0 := by decide
  have g : nI i < (300 : Int32) := nI_lt (b := 300) hi (by omega)
  have e1 : nI i + 1 = nI (i + 1) := nI_add i 1
  rw [b_X4_useTape_40]
  simp only [g, if_true, i10, if_false, rdI8 hX, some_bind, e8, rdck hX, ha, hf, e1]
theorem md2 : 2 ≤ 2 ∧ (2 : Nat) ≤ 5 := by omega
theorem md3 : 2 ≤ 3 ∧ (3 : Nat) ≤ 5 := by omega
theorem md4 : 2 ≤ 4 ∧ (4 : Nat) ≤ 5 := by omega
theorem md5 : 2 ≤ 5 ∧ (5 : Nat) ≤ 5 := by omega
theorem oneW_md {o : Nat} {wt : List Nat} {c : List Int32} {τ : MSt} (h : oneW T N o wt c p = some τ) : τ.1 = 0 ∨ (2 ≤ τ.1 ∧ τ.1 ≤ 5) := by
  unfold oneW at h
  split at h
  · obtain rfl := Option.some.inj h; exact Or.inr md2
  · split at h
    · obtain rfl := Option.some.inj h; exact Or.inr md2
    · split at h
      · obtain rfl := Option.some.inj h; exact Or.inr md5
      · split at h
        · obtain rfl := Option.some.inj h; exact Or.inl rfl
        · cases h
theorem stepW_md {line : Int32} {σ τ : MSt} (h : stepW T N line σ p = some τ) : τ.1 = 0 ∨ (2 ≤ τ.1 ∧ τ.1 ≤ 5) := by
  obtain ⟨md, sg, o, wt, c⟩ := σ
  simp only [stepW] at h
  have tm : ∀ (s' : Bool) (w' : Int32 → List Int32), (terM T N line p).map (fun w => ((4, s', o, wt, w' w) : MSt)) = some τ → τ.1 = 0 ∨ (2 ≤ τ.1 ∧ τ.1 ≤ 5) := by
    intro s' w' hh
    cases ht : terM T N line p with
    | none => rw [ht] at hh; cases hh
    | some w =>
      rw [ht, Option.map_some] at hh
      obtain rfl := Option.some.inj hh
      exact Or.inr md4
  split at h
  · split at h
    · obtain rfl := Option.some.inj h; exact Or.inr md2
    · split at h
      · split at h
        · obtain rfl := Option.some.inj h; exact Or.inr md2
        · cases h
      · exact tm _ _ h
  · split at h
    · exact tm _ _ h
    · split at h
      · split at h
        · obtain rfl := Option.some.inj h; exact Or.inr md3
        · split at h
          · obtain rfl := Option.some.inj h; exact Or.inr md3
          · exact oneW_md h
      · exact oneW_md h
theorem k_runC (hX : ShX S x) (hl : l < 4) : ∀ f (σ : MSt) p i fu (μ : MU), BaseOK st S μ x b → TpR μ x T N → TkA μ x T N p → μ (x + 149) 4 = nI l → RdM μ x σ → 2 ≤ σ.1 ∧ σ.1 ≤ 5 → σ.2.2.1 ≤ 5 → szM σ ≤ p → i ≤ p → p ≤ N → N + 1 - p ≤ f → N + 3 - p < fu → (match runW T N (nI l) f σ p with
    | .inl e => Fail n st S x μ (b_X4_useTape_40 fu (some (x + 149)) 1 (nI i) (mkH n st S μ)) e
    | .inr q => ∃ (μ' : MU) (i' fu' : Nat), b_X4_useTape_40 fu (some (x + 149)) 1 (nI i) (mkH n st S μ) = b_X4_useTape_40 fu' (some (x + 149)) 1 (nI i') (mkH n st S μ') ∧ FrRun x l μ μ' ∧ TkA μ' x T N q.2 ∧ RdM μ' x (0, false, 0, [], q.1) ∧ q.1.length ≤ q.2 ∧ i' ≤ q.2 ∧ q.2 ≤ N ∧ p < q.2 ∧ N + 3 - q.2 < fu' ∧ μ' (x + 154) l = nI q.1.length) := by
  intro f
  induction f with
  | zero => intro σ p i fu μ _ _ _ _ _ _ _ _ _ hp hf; omega
  | succ f ih =>
    intro σ p i fu μ hB hT hk h4 hM hmd ho hz hi hp hf hfu
    have hN := hT.2.1
    obtain ⟨fu, rfl⟩ : ∃ q, fu = q + 2 := ⟨fu - 2, by omega⟩
    have tp := tok_pos (T := T) hp
    rw [runW]
    by_cases h0 : tK T N p = 0
    · rw [if_pos h0]
      refine ⟨up2 μ (x + 149) 1 0, ?_, up2_same, fun a j q => up2_ne (by omega)⟩
      rw [ut_end hX hT hk h0 (fu + 1)]
      exact b78_st hX hk.1 hM.1 (by omega) (by omega)
    · rw [if_neg h0]
      have tpl := tp.2.2.2 h0
      obtain ⟨μ1, a1, a2, a3⟩ := k_acceptC (n := n) (st := st) (l := l) hX hB hT hp hk h0 hl h4 hM hmd ho hz
      cases hs : stepW T N (nI l) σ p with
      | none =>
        rw [hs] at a1
        refine ⟨up2 μ1 (x + 149) 1 0, ?_, up2_same, fun a j q => by rw [up2_ne (by omega), a2 a j (by omega)]⟩
        rw [ut_rej hX hT hk h0 (by omega) fu a1]
        exact b78_no hX (by rw [a2 _ _ (by omega)]; exact hk.1)
      | some τ =>
        rw [hs] at a1 a3
        obtain ⟨r1, r2, r3, r4⟩ := a3 τ rfl
        have hT1 := a2.tp hT
        obtain ⟨μ2, f1, f2, f3⟩ := k_find (n := n) (st := st) hX hT1 (p := tA T N p) tp.2.2.1 (by rw [a2 _ _ (by omega)]; exact hk.2.1)
        have go := ut_go hX hT hk h0 (i := i) (by omega) (fu + 1) a1 f1
        have F : FrRun x l μ μ2 := a2.run.trans f3.run
        simp only []
        by_cases hm : τ.1 = 0
        · rw [if_pos hm]
          obtain ⟨z1, z2, z3, z4⟩ := r4 hm
          obtain ⟨md, sg, o, wt, cd⟩ := τ
          simp only [] at hm z1 z2 z3 z4
          subst hm z1 z2 z3
          refine ⟨μ2, i + 1, fu + 1, go, F, f2, f3.mm r1, ?_, by show i + 1 ≤ tA T N p; omega, tp.2.2.1, by show p < tA T N p; omega, by show N + 3 - tA T N p < fu + 1; omega, by rw [f3 _ _ (by omega)]; exact z4⟩
          have : szM (0, false, 0, [], cd) ≤ tA T N p := r2
          simp only [szM, List.length_nil, Nat.zero_add] at this
          exact this
        · rw [if_neg hm]
          have hmd' : 2 ≤ τ.1 ∧ τ.1 ≤ 5 := by
            have : τ.1 = 0 ∨ (2 ≤ τ.1 ∧ τ.1 ≤ 5) := stepW_md hs
            omega
          have ihh := ih τ (tA T N p) (i + 1) (fu + 1) μ2 (F.base hB) (F.tp hT) f2 (by rw [F _ _ (by omega)]; exact h4) (f3.mm r1) hmd' r3 r2 (by omega) tp.2.2.1 (by omega) (by omega)
          cases hr : runW T N (nI l) f τ (tA T N p) with
          | inl e =>
            rw [hr] at ihh
            obtain ⟨μ3, w1, w2, w3⟩ := ihh
            exact ⟨μ3, by rw [go, w1], w2, fun a j q => by rw [w3 a j q, F a j (by omega)]⟩
          | inr q =>
            rw [hr] at ihh
            obtain ⟨μ3, i', fu', w1, w2, w3, w4, w5, w6, w7, w8, w9, w10⟩ := ihh
            exact ⟨μ3, i', fu', by rw [go, w1], F.trans w2, w3, w4, w5, w6, w7, by omega, w9, w10⟩
end TAPE
