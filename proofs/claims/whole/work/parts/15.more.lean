-- ===== Math =====
def mMax (x y : Int32) : Int32 := if x < y then y else x
def mMin (x y : Int32) : Int32 := if y < x then y else x
def mAbs (x : Int32) : Int32 := if 0 ≤ x then x else 0 - x
-- ===== news =====
def hnew (h : AH) (o : OB) : AH := (h.1 + 1, va_up h.2.1 h.1 o, h.2.2)
def nO (k N : Nat) (ty : Nat → FieldType) (h : AH) : Option AH := some (hnew h (k, N, fun j => defaultValue (ty j)))
def nA (k B : Nat) (d : Value) (n : Int32) (h : AH) : Option AH := if ¬ n < 0 ∧ n.toNatClampNeg ≤ B then some (hnew h (k, n.toNatClampNeg, fun _ => d)) else none
/-- the class of an array's components -/
def kComp (k : Nat) : Nat := if k = 103 then 1 else if k = 104 then 3 else if k = 105 then 5 else if k = 106 then 7 else if k = 107 then 8 else if k = 108 then 9 else 10
def fitK (h : AH) (v : Option Nat) (k : Nat) : Bool := match v with
  | none => true
  | some b => (h.2.1 b).1 == k
def sR (h : AH) (r : Option Nat) (i : Int32) (v : Option Nat) : Option AH := match r with
  | some a => if (103 ≤ (h.2.1 a).1 ∧ (h.2.1 a).1 < 110) ∧ fitK h v (kComp (h.2.1 a).1) = true ∧ ¬ (i < 0 ∨ (h.2.1 a).2.1 ≤ i.toNatClampNeg) then some (hput h a i.toNatClampNeg (vOf (tR v))) else none
  | none => none
theorem sR_spec {h h' : AH} {r v : Option Nat} {i : Int32} (q : sR h r i v = some h') : ∃ a, r = some a ∧ (103 ≤ (h.2.1 a).1 ∧ (h.2.1 a).1 < 110) ∧ (∀ b, v = some b → (h.2.1 b).1 = kComp (h.2.1 a).1) ∧ ¬ (i < 0 ∨ (h.2.1 a).2.1 ≤ i.toNatClampNeg) ∧ h' = hput h a i.toNatClampNeg (vOf (tR v)) := by
  cases r with
  | none => cases q
  | some a =>
    simp only [sR] at q
    split at q
    · rename_i e
      refine ⟨a, rfl, e.1, fun b hb => ?_, e.2.2, (Option.some.inj q).symm⟩
      subst hb
      have := e.2.1
      simpa [fitK] using this
    · cases q
def allI (f : Nat → Value) (sp : Nat) : Nat → Bool
  | 0 => true
  | n + 1 => allI f sp n && (toI (f (sp + n))).isSome
theorem allI_spec {f : Nat → Value} {sp : Nat} : ∀ {n : Nat}, allI f sp n = true → ∀ i, i < n → ∃ x, f (sp + i) = .int x
  | 0, _, i, hi => absurd hi (Nat.not_lt_zero i)
  | n + 1, h, i, hi => by
    simp only [allI, Bool.and_eq_true] at h
    by_cases e : i = n
    · subst e
      obtain ⟨x, hx⟩ := Option.isSome_iff_exists.mp h.2
      exact ⟨x, toI_spec hx⟩
    · exact allI_spec h.1 i (by omega)
/-- System.arraycopy of ints, from one array to another -/
def cpA (h : AH) (r0 : Option Nat) (sp : Int32) (r1 : Option Nat) (dp n : Int32) : Option AH := match r0, r1 with
  | some a, some b => if ((h.2.1 a).1 = 100 ∧ (h.2.1 b).1 = 100 ∧ a ≠ b) ∧ (¬ sp < 0 ∧ ¬ dp < 0 ∧ ¬ n < 0) ∧ (sp.toNatClampNeg + n.toNatClampNeg ≤ (h.2.1 a).2.1 ∧ dp.toNatClampNeg + n.toNatClampNeg ≤ (h.2.1 b).2.1) ∧ allI (h.2.1 a).2.2 sp.toNatClampNeg n.toNatClampNeg = true then
      some (h.1, va_up h.2.1 b (100, (h.2.1 b).2.1, va_cpy (h.2.1 a).2.2 (h.2.1 b).2.2 sp.toNatClampNeg dp.toNatClampNeg n.toNatClampNeg), h.2.2) else none
  | _, _ => none
theorem cpA_spec {h h' : AH} {r0 r1 : Option Nat} {sp dp n : Int32} (q : cpA h r0 sp r1 dp n = some h') : ∃ a b, r0 = some a ∧ r1 = some b ∧ ((h.2.1 a).1 = 100 ∧ (h.2.1 b).1 = 100 ∧ a ≠ b) ∧ (¬ sp < 0 ∧ ¬ dp < 0 ∧ ¬ n < 0) ∧ (sp.toNatClampNeg + n.toNatClampNeg ≤ (h.2.1 a).2.1 ∧ dp.toNatClampNeg + n.toNatClampNeg ≤ (h.2.1 b).2.1) ∧ allI (h.2.1 a).2.2 sp.toNatClampNeg n.toNatClampNeg = true ∧
    h' = (h.1, va_up h.2.1 b (100, (h.2.1 b).2.1, va_cpy (h.2.1 a).2.2 (h.2.1 b).2.2 sp.toNatClampNeg dp.toNatClampNeg n.toNatClampNeg), h.2.2) := by
  cases r0 with
  | none => cases q
  | some a =>
    cases r1 with
    | none => cases q
    | some b =>
      simp only [cpA] at q
      split at q
      · rename_i e
        exact ⟨a, b, rfl, rfl, e.1, e.2.1, e.2.2.1, e.2.2.2, (Option.some.inj q).symm⟩
      · cases q
/-- clone() of a static row of ints -/
def clA (h : AH) (r : Option Nat) (B : Nat) : Option AH := match r with
  | some a => if (200 ≤ (h.2.1 a).1 ∧ (h.2.1 a).1 < 250) ∧ (h.2.1 a).2.1 ≤ B ∧ allI (h.2.1 a).2.2 0 (h.2.1 a).2.1 = true then some (hnew h (100, (h.2.1 a).2.1, (h.2.1 a).2.2)) else none
  | none => none
theorem clA_spec {h h' : AH} {r : Option Nat} {B : Nat} (q : clA h r B = some h') : ∃ a, r = some a ∧ (200 ≤ (h.2.1 a).1 ∧ (h.2.1 a).1 < 250) ∧ (h.2.1 a).2.1 ≤ B ∧ allI (h.2.1 a).2.2 0 (h.2.1 a).2.1 = true ∧ h' = hnew h (100, (h.2.1 a).2.1, (h.2.1 a).2.2) := by
  cases r with
  | none => cases q
  | some a =>
    simp only [clA] at q
    split at q
    · rename_i e
      exact ⟨a, rfl, e.1, e.2.1, e.2.2, (Option.some.inj q).symm⟩
    · cases q
section GMORE
variable {K : KT} {z : Option TV × AH} {cells slots pc : Nat} {lv : List (Nat × TV)} {st : List TV} {h : AH} {cc : ByteArray} {own : String} {Ts : List Cond} {ret : Option FieldType} {nm : String} {R0 : Room} {n0 m0 s0 : Nat}
theorem g_mmax (X : CX K cc own Ts ret nm R0 n0 m0 s0) {x y : Int32} {index : Nat} (h1 : Cond.methodLink own index Lib.Math.max.name ∈ Ts) (h2 : Cond.static Lib.Math.max.name ∈ Ts) (h3 : Cond.initialized "java/lang/Math" ∈ Ts) (h4 : Cond.code Lib.Math.max.name Lib.Math.max.code 2 (some .int) ∈ Ts) (hR0 : 1 ≤ R0.frames ∧ (st.map wOf).sum + 13 ≤ R0.locals) (hcs : cells ≤ R0.cells ∧ slots ≤ R0.slots) (d : decode cc pc = .ok (.invokestatic index, 3)) (kk : GG K z cells slots (pc + 3) lv (tI (mMax x y) :: st) h) : GG K z cells slots pc lv (tI y :: tI x :: st) h := by
  obtain ⟨p, l, e, R, s, m, args, below, meth, c, D, B0, nL, mc, ms⟩ := K
  obtain ⟨hx, hb, hml, hown, hts, hret, hlk, hK, hnm, hR1, hn0, hm0, hs0⟩ := X
  intro H locs ls hR hL hv
  subst hR1
  exact va_mmax hx hb (hml.trans hv.1.symm) hown (hts _ h1) (hts _ h2) (hts _ h3) (hts _ h4) hR0.1 (by rw [vOf_sum]; exact hR0.2) hcs.1 hcs.2 d (kk H locs ls hR hL hv)
theorem g_mmin (X : CX K cc own Ts ret nm R0 n0 m0 s0) {x y : Int32} {index : Nat} (h1 : Cond.methodLink own index Lib.Math.min.name ∈ Ts) (h2 : Cond.static Lib.Math.min.name ∈ Ts) (h3 : Cond.initialized "java/lang/Math" ∈ Ts) (h4 : Cond.code Lib.Math.min.name Lib.Math.min.code 2 (some .int) ∈ Ts) (hR0 : 1 ≤ R0.frames ∧ (st.map wOf).sum + 13 ≤ R0.locals) (hcs : cells ≤ R0.cells ∧ slots ≤ R0.slots) (d : decode cc pc = .ok (.invokestatic index, 3)) (kk : GG K z cells slots (pc + 3) lv (tI (mMin x y) :: st) h) : GG K z cells slots pc lv (tI y :: tI x :: st) h := by
  obtain ⟨p, l, e, R, s, m, args, below, meth, c, D, B0, nL, mc, ms⟩ := K
  obtain ⟨hx, hb, hml, hown, hts, hret, hlk, hK, hnm, hR1, hn0, hm0, hs0⟩ := X
  intro H locs ls hR hL hv
  subst hR1
  exact va_mmin hx hb (hml.trans hv.1.symm) hown (hts _ h1) (hts _ h2) (hts _ h3) (hts _ h4) hR0.1 (by rw [vOf_sum]; exact hR0.2) hcs.1 hcs.2 d (kk H locs ls hR hL hv)
theorem g_mabs (X : CX K cc own Ts ret nm R0 n0 m0 s0) {x : Int32} {index : Nat} (h1 : Cond.methodLink own index Lib.Math.abs.name ∈ Ts) (h2 : Cond.static Lib.Math.abs.name ∈ Ts) (h3 : Cond.initialized "java/lang/Math" ∈ Ts) (h4 : Cond.code Lib.Math.abs.name Lib.Math.abs.code 1 (some .int) ∈ Ts) (hR0 : 1 ≤ R0.frames ∧ (st.map wOf).sum + 13 ≤ R0.locals) (hcs : cells ≤ R0.cells ∧ slots ≤ R0.slots) (d : decode cc pc = .ok (.invokestatic index, 3)) (kk : GG K z cells slots (pc + 3) lv (tI (mAbs x) :: st) h) : GG K z cells slots pc lv (tI x :: st) h := by
  obtain ⟨p, l, e, R, s, m, args, below, meth, c, D, B0, nL, mc, ms⟩ := K
  obtain ⟨hx, hb, hml, hown, hts, hret, hlk, hK, hnm, hR1, hn0, hm0, hs0⟩ := X
  intro H locs ls hR hL hv
  subst hR1
  exact va_mabs hx hb (hml.trans hv.1.symm) hown (hts _ h1) (hts _ h2) (hts _ h3) (hts _ h4) hR0.1 (by rw [vOf_sum]; exact hR0.2) hcs.1 hcs.2 d (kk H locs ls hR hL hv)
/-- Object's own constructor -/
theorem g_objInit (X : CX K cc own Ts ret nm R0 n0 m0 s0) {a index : Nat} (h1 : Cond.methodLink own index objectInit ∈ Ts) (h2 : Cond.instanceMethod objectInit ∈ Ts) (h3 : Cond.code objectInit ⟨#[0xb1]⟩ 1 none ∈ Ts) (hR0 : 1 ≤ R0.frames ∧ (st.map wOf).sum + 12 ≤ R0.locals) (d : decode cc pc = .ok (.invokespecial index, 3)) (kk : GG K z cells slots (pc + 3) lv st h) : GG K z cells slots pc lv (tR (some a) :: st) h := by
  obtain ⟨p, l, e, R, s, m, args, below, meth, c, D, B0, nL, mc, ms⟩ := K
  obtain ⟨hx, hb, hml, hown, hts, hret, hlk, hK, hnm, hR1, hn0, hm0, hs0⟩ := X
  intro H locs ls hR hL hv
  subst hR1
  exact W.objInit hx hb hown (hts _ h1) (hts _ h2) (hts _ h3) rfl (by rw [hml]; exact hv.1) rfl d hR0.1 (by show 2 * 0 + ((st.map vOf).map fun v => v.category).sum + 12 ≤ _; rw [vOf_sum]; omega) (kk H locs ls hR hL hv)
theorem g_new {α : Type} {f : AH → Option α} {w : α} (X : CX K cc own Ts ret nm R0 n0 m0 s0) {k N : Nat} {ty0 : Nat → FieldType} (hf : (nO k N ty0 h).bind f = some w) {C : String} {T : u_T} (hc : vwCl[k]? = some (C, T, N)) (hk : k < 99) (hin : ∀ w ∈ u_ws C T N, w ∈ Ts) (hty : ∀ k, k < N → parseFieldDescriptor (T k).2.2.1 = some (ty0 k)) {index : Nat}
    (h1 : Cond.classLink own index C ∈ Ts) (h2 : Cond.instantiable C N ∈ Ts) (h3 : Cond.initialized C ∈ Ts) (hcs : cells + 1 ≤ R0.cells ∧ slots + N ≤ R0.slots) (d : decode cc pc = .ok (.new index, 3)) (kk : ∀ h2, f h2 = some w → GG K z (cells + 1) (slots + N) (pc + 3) lv (tR (some h.1) :: st) h2) : GG K z cells slots pc lv st h := by
  obtain ⟨p, l, e, R, s, m, args, below, meth, c, D, B0, nL, mc, ms⟩ := K
  obtain ⟨hx, hb, hml, hown, hts, hret, hlk, hK, hnm, hR1, hn0, hm0, hs0⟩ := X
  intro H locs ls hR hL hv
  subst hR1
  have hKn := hK.1 k _ hc
  refine W.newcK hx hb hown (hts _ h1) (hts _ h2) (hts _ h3) rfl d hcs.1 hcs.2 hKn.2.1 rfl fun H1 kC hkC e1 z1 o1 => ?_
  have := kk _ hf H1 locs ls (hR.push z1 o1 ⟨fun _ => ⟨(C, T, N), hc, rfl, u_born ty0 hts hin hKn hkC e1 hty⟩, fun q => absurd q (by show ¬ 100 ≤ k; omega), fun q => absurd q (by show ¬ 200 ≤ k; omega), fun q => absurd q (by show ¬ 310 ≤ k; omega)⟩) hL hv
  rw [hR.1] at this
  exact this
theorem g_newa {α : Type} {f : AH → Option α} {w : α} (X : CX K cc own Ts ret nm R0 n0 m0 s0) {k B : Nat} {n : Int32} {atype : ArrayType} {dv : Value} (hf : (nA k B dv n h).bind f = some w) (hk : 100 ≤ k ∧ k < 110) (ht : newarray.typeOf atype = aty k) (hdv : defaultValue (aty k) = dv) (hnm2 : ∀ (s : State) (cA : ClassId), va_RA s cA (aty k) → s.vm.findClass ("[" ++ (aty k).toString) = some cA) (harr : Cond.arrayClass (newarray.typeOf atype) ∈ Ts) (hB : B * componentBytes (newarray.typeOf atype) ≤ 536870912)
    (hcs : cells + 1 ≤ R0.cells ∧ slots + B ≤ R0.slots) (d : decode cc pc = .ok (.newarray atype, 2)) (kk : ∀ h2, f h2 = some w → GG K z (cells + 1) (slots + B) (pc + 2) lv (tR (some h.1) :: st) h2) : GG K z cells slots pc lv (tI n :: st) h := by
  obtain ⟨p, l, e, R, s, m, args, below, meth, c, D, B0, nL, mc, ms⟩ := K
  obtain ⟨hx, hb, hml, hown, hts, hret, hlk, hK, hnm, hR1, hn0, hm0, hs0⟩ := X
  intro H locs ls hR hL hv
  subst hR1
  obtain ⟨h2, hv1, hv2⟩ := Option.bind_eq_some_iff.mp hf
  unfold nA at hv1
  split at hv1
  · rename_i q
    have e0 := Option.some.inj hv1
    refine va_newaK hx hb (hts _ harr) rfl d rfl q.1 rfl (Nat.le_trans (Nat.mul_le_mul_right _ q.2) hB) hcs.1 (Nat.le_trans (Nat.add_le_add_left q.2 _) hcs.2) rfl fun H1 cA e1 z1 o1 hAr hNm => ?_
    refine W.widen (Nat.le_refl _) (Nat.add_le_add_left q.2 slots) ?_
    have hcA : cA = D.1 k := by
      have g1 := hnm2 s (D.1 k) (hK.2.2.1 k hk.1 hk.2)
      rw [ht] at hNm
      exact Option.some.inj (hNm.symm.trans g1)
    subst hcA
    have := kk _ hv2 H1 locs ls (by
      rw [← e0]
      refine hR.push z1 o1 ⟨fun q => absurd q (by show ¬ k < 100; omega), fun _ _ => ?_, fun q => absurd q (by show ¬ 200 ≤ k; omega), fun q => absurd q (by show ¬ 310 ≤ k; omega)⟩
      rw [e1, ht, hdv]) hL hv
    rw [hR.1] at this
    exact this
  · cases hv1
theorem g_anew {α : Type} {f : AH → Option α} {w : α} (X : CX K cc own Ts ret nm R0 n0 m0 s0) {k B : Nat} {n : Int32} (hf : (nA k B .null n h).bind f = some w) (hk : 100 ≤ k ∧ k < 110) {C : String} (ht : aty k = .object C) (hC : C ∈ AOl) {index : Nat} (h1 : Cond.classLink own index C ∈ Ts) (hB : B * 4 ≤ 536870912)
    (hcs : cells + 1 ≤ R0.cells ∧ slots + B ≤ R0.slots) (d : decode cc pc = .ok (.anewarray index, 3)) (kk : ∀ h2, f h2 = some w → GG K z (cells + 1) (slots + B) (pc + 3) lv (tR (some h.1) :: st) h2) : GG K z cells slots pc lv (tI n :: st) h := by
  obtain ⟨p, l, e, R, s, m, args, below, meth, c, D, B0, nL, mc, ms⟩ := K
  obtain ⟨hx, hb, hml, hown, hts, hret, hlk, hK, hnm, hR1, hn0, hm0, hs0⟩ := X
  intro H locs ls hR hL hv
  subst hR1
  obtain ⟨h2, hv1, hv2⟩ := Option.bind_eq_some_iff.mp hf
  unfold nA at hv1
  split at hv1
  · rename_i q
    have e0 := Option.some.inj hv1
    refine W.anew hx hb hown (hts _ h1) ((hK.2.2.2.2.2.2.2.2.2.1 C hC).use) rfl d rfl q.1 (Nat.le_trans (Nat.mul_le_mul_right _ q.2) hB) hcs.1 (Nat.le_trans (Nat.add_le_add_left q.2 _) hcs.2) fun cA kA comp g1 g2 g3 g4 => ?_
    refine W.widen (Nat.le_refl _) (Nat.add_le_add_left q.2 slots) ?_
    have hra := hK.2.2.1 k hk.1 hk.2
    rw [ht] at hra
    obtain ⟨kA', comp', k1, k2, k3, k4⟩ := hra
    have hcA : cA = D.1 k := Option.some.inj (g1.symm.trans k4)
    subst hcA
    have := kk _ hv2 (H.push { cls := D.1 k, slots := Array.replicate n.toNatClampNeg .null, vm := .none }) locs ls (by
      rw [← e0]
      refine hR.push (by simp) (fun q hq => by rw [Array.getElem?_push, if_neg (Nat.ne_of_lt hq)]) ⟨fun q => absurd q (by show ¬ k < 100; omega), fun _ _ => ?_, fun q => absurd q (by show ¬ 200 ≤ k; omega), fun q => absurd q (by show ¬ 310 ≤ k; omega)⟩
      rw [Array.getElem?_push_size, arrV_new]) hL hv
    rw [hR.1] at this
    exact this
  · cases hv1
theorem kComp_aty {k : Nat} (h : 103 ≤ k ∧ k < 110) : ∃ r : vw_C, vwCl[kComp k]? = some r ∧ aty k = .object r.1 ∧ kComp k < 99 := by
  have : k = 103 ∨ k = 104 ∨ k = 105 ∨ k = 106 ∨ k = 107 ∨ k = 108 ∨ k = 109 := by omega
  rcases this with rfl | rfl | rfl | rfl | rfl | rfl | rfl <;> exact ⟨_, rfl, rfl, by decide⟩
theorem g_aastore {α : Type} {f : AH → Option α} {w : α} (X : CX K cc own Ts ret nm R0 n0 m0 s0) {r v : Option Nat} {i : Int32} (hf : (sR h r i v).bind f = some w) (d : decode cc pc = .ok (.aastore, 1)) (kk : ∀ h2, f h2 = some w → GG K z cells slots (pc + 1) lv st h2) : GG K z cells slots pc lv (tR v :: tI i :: tR r :: st) h := by
  obtain ⟨p, l, e, R, s, m, args, below, meth, c, D, B0, nL, mc, ms⟩ := K
  obtain ⟨hx, hb, hml, hown, hts, hret, hlk, hK, hnm, hR1, hn0, hm0, hs0⟩ := X
  intro H locs ls hR hL hv
  obtain ⟨h2, hv1, hv2⟩ := Option.bind_eq_some_iff.mp hf
  obtain ⟨a, rfl, hka, hvb, hi, rfl⟩ := sR_spec hv1
  obtain ⟨q0, hq0, hat, hlt⟩ := kComp_aty hka
  have hRa := hR.2.2.2.2 a (by omega)
  have q1 := hRa.1.2.1 (by omega) (by omega)
  have q5 := arrV_size (D.1 (h.2.1 a).1) (h.2.1 a).2.1 (h.2.1 a).2.2
  have hra := hK.2.2.1 (h.2.1 a).1 (by omega) (by omega)
  rw [hat] at hra
  obtain ⟨kA, comp, k1, k2, k3, -⟩ := hra
  have hcls := (hK.1 _ q0 hq0).2
  have hcomp : comp = D.1 (kComp (h.2.1 a).1) := Option.some.inj (k3.symm.trans hcls.1)
  subst hcomp
  obtain ⟨kC, hkC, -⟩ := hcls.2
  have fin : ∀ H', H'[a]? = some ((arrV (D.1 (h.2.1 a).1) (h.2.1 a).2.1 (h.2.1 a).2.2).setSlot i.toNatClampNeg (vOf (tR v))) → H'.size = H.size → (∀ q, q ≠ a → H'[q]? = H[q]?) → W p l e R s m args below meth c H' (locs ++ [⟨a, i.toNatClampNeg⟩]) cells slots (MQ below (Qz D B0 z) args s mc ms (fun q => B0.size ≤ q)) (F0 m (pc + 1) ls (st.map vOf)) := fun H' e1 e2 e3 =>
    kk _ hv2 H' _ ls (hR.upd (by omega) (by omega) e2 e3 (hOb.setA (by omega) e1)) (t_lc hL (hRa.2 (by omega))) hv
  have hin : ¬ (i < 0 ∨ (arrV (D.1 (h.2.1 a).1) (h.2.1 a).2.1 (h.2.1 a).2.2).slots.size ≤ i.toNatClampNeg) := by rw [q5]; exact hi
  cases v with
  | some b =>
    have hkb := hvb b rfl
    have hRb := hR.2.2.2.2 b (by rw [hkb]; omega)
    obtain ⟨r', g0, -, cellV, g1, g2, g3, -⟩ := hRb.1.1 (by rw [hkb]; omega)
    rw [hkb] at g2
    exact W.aast hx hb q1 (fun q h => by cases h) (fun h => by cases h) k1 k2 rfl hkC ⟨fun q => hin (Or.inl q), Nat.not_le.mp fun q => hin (Or.inr q)⟩ g1 (fun q h => by rw [g3] at h; cases h) (by rw [g2]; exact hkC) (by rw [g2]; exact va_assign hcls) rfl rfl d fin
  | none =>
    have harr : s.isArrayOf (arrV (D.1 (h.2.1 a).1) (h.2.1 a).2.1 (h.2.1 a).2.2) (.object q0.1) := hat ▸ arrOf (cell := arrV (D.1 (h.2.1 a).1) (h.2.1 a).2.1 (h.2.1 a).2.2) hK (k := (h.2.1 a).1) (by omega) rfl (fun _ h => by cases h)
    intro T hT X
    have hal : a < T.heap.size := by rw [hT]; exact (Array.getElem?_eq_some_iff.mp q1).1
    obtain ⟨X', st'⟩ := va_aastN0 X hx (by rw [hT]; exact q1) harr (fun h => by cases h) hin (g := F0 m pc ls (.null :: .int i :: .ref a :: st.map vOf)) rfl rfl (by rw [hb]; exact d)
    obtain ⟨t', a1, b1⟩ := fin _ (heapAt_setCell_self _ hal) (by rw [size_setCell, hT]) (fun q hq => by rw [heapAt_setCell_ne _ (Ne.symm hq), hT]) (T.setCell a _) rfl X'
    exact ⟨t', st' t' a1, b1⟩
theorem g_copy {α : Type} {f : AH → Option α} {w : α} (X : CX K cc own Ts ret nm R0 n0 m0 s0) {r0 r1 : Option Nat} {sp dp n : Int32} (hf : (cpA h r0 sp r1 dp n).bind f = some w) {index : Nat} (h1 : Cond.methodLink own index arraycopyName ∈ Ts) (h2 : Cond.native arraycopyName ∈ Ts) (h3 : Cond.static arraycopyName ∈ Ts) (h4 : Cond.initialized "java/lang/System" ∈ Ts) (hR0 : 1 ≤ R0.frames ∧ (st.map wOf).sum + (nativeFrameWords "java/lang/System" "arraycopy" 5 + 11) ≤ R0.locals)
    (d : decode cc pc = .ok (.invokestatic index, 3)) (kk : ∀ h2, f h2 = some w → GG K z cells slots (pc + 3) lv st h2) : GG K z cells slots pc lv (tI n :: tI dp :: tR r1 :: tI sp :: tR r0 :: st) h := by
  obtain ⟨p, l, e, R, s, m, args, below, meth, c, D, B0, nL, mc, ms⟩ := K
  obtain ⟨hx, hb, hml, hown, hts, hret, hlk, hK, hnm, hR1, hn0, hm0, hs0⟩ := X
  intro H locs ls hR hL hv
  subst hR1
  obtain ⟨hh2, hv1, hv2⟩ := Option.bind_eq_some_iff.mp hf
  obtain ⟨a, b, rfl, rfl, ⟨ka, kb, hab⟩, ⟨i1, i2, i3⟩, ⟨j1, j2⟩, hall, rfl⟩ := cpA_spec hv1
  have nn : ∀ z : Int32, ¬ z < 0 → z.toInt = (z.toNatClampNeg : Int) := by
    intro z hz
    have hz0 : (0 : Int) ≤ z.toInt := by
      have := Int32.not_lt.mp hz
      simpa using Int32.le_iff_toInt_le.mp this
    show z.toInt = ((z.toInt.toNat : Nat) : Int)
    omega
  have hRb := hR.2.2.2.2 b (by omega)
  have q0 := (hR.2.2.2.2 a (by omega)).1.2.1 (by omega) (by omega)
  have q1 := hRb.1.2.1 (by omega) (by omega)
  rw [ka] at q0
  rw [kb] at q1
  obtain ⟨-, k0, hk0, cm0, hkk0⟩ := hK.2.1 100 (by omega) (by omega) 0 (fun _ => .null)
  have hk0 : s.vm.classes[D.1 100]? = some k0 := hk0
  have hkk0 : k0.kind = .array cm0 .int := hkk0
  intro T hT X
  obtain ⟨vm', X', step⟩ := X.arraycopy hx hown (hts _ h1) (hts _ h2) (hts _ h3) (hts _ h4) (src := a) (dst := b) (cs := arrV (D.1 100) (h.2.1 a).2.1 (h.2.1 a).2.2) (cd := arrV (D.1 100) (h.2.1 b).2.1 (h.2.1 b).2.2) (srcPos := sp) (destPos := dp) (n := n) (by rw [hT]; exact q0) (by rw [hT]; exact q1)
    (fun _ h => by cases h) (fun _ h => by cases h) (fun h => by cases h) (fun h => by cases h) hk0 hk0 hkk0 hkk0 (by decide) i1 i2 i3
    (by rw [nn sp i1, nn n i3, arrV_size]; omega) (by rw [nn dp i2, nn n i3, arrV_size]; omega)
    (fun vm₁ _ i hi => by
      have e : (arrV (D.1 100) (h.2.1 a).2.1 (h.2.1 a).2.2).slots.getD (sp.toNatClampNeg + i) .null = (h.2.1 a).2.2 (sp.toNatClampNeg + i) := by
        rw [Array.getD_eq_getD_getElem?, arrV_read _ _ (by omega)]
        rfl
      obtain ⟨x, hx'⟩ := allI_spec hall i hi
      rw [e, hx']
      exact ⟨rfl, trivial⟩)
    (g := F0 m pc ls (.int n :: .int dp :: .ref b :: .int sp :: .ref a :: st.map vOf)) rfl (by rw [hml]; exact hv.1) (rest := st.map vOf) rfl (by rw [hb]; exact d) hR0.1 (by show 2 * 0 + _ + _ ≤ _; rw [vOf_sum]; omega)
  have e1 : copied (arrV (D.1 100) (h.2.1 a).2.1 (h.2.1 a).2.2) (arrV (D.1 100) (h.2.1 b).2.1 (h.2.1 b).2.2) sp dp n = arrV (D.1 100) (h.2.1 b).2.1 (va_cpy (h.2.1 a).2.2 (h.2.1 b).2.2 sp.toNatClampNeg dp.toNatClampNeg n.toNatClampNeg) := va_copied (fun z => z) (D.1 100) (D.1 100) (h.2.1 a).2.2 (h.2.1 b).2.2 j1
  rw [e1] at X' step
  have hl : b < H.size := (Array.getElem?_eq_some_iff.mp q1).1
  have hheap : ((T.setVm vm').setCell b (arrV (D.1 100) (h.2.1 b).2.1 (va_cpy (h.2.1 a).2.2 (h.2.1 b).2.2 sp.toNatClampNeg dp.toNatClampNeg n.toNatClampNeg))).heap = H.setIfInBounds b (arrV (D.1 100) (h.2.1 b).2.1 (va_cpy (h.2.1 a).2.2 (h.2.1 b).2.2 sp.toNatClampNeg dp.toNatClampNeg n.toNatClampNeg)) := by rw [← hT]; rfl
  obtain ⟨t, a1, b1⟩ := kk _ hv2 _ _ ls (hR.upd (H' := H.setIfInBounds b (arrV (D.1 100) (h.2.1 b).2.1 (va_cpy (h.2.1 a).2.2 (h.2.1 b).2.2 sp.toNatClampNeg dp.toNatClampNeg n.toNatClampNeg))) (by omega) (by omega) (by simp) (fun q hq => by simp [Array.getElem?_setIfInBounds, Ne.symm hq]) ⟨fun q => absurd q (by show ¬ 100 < 100; decide), fun _ _ => by simp [Array.getElem?_setIfInBounds, hl], fun q => absurd q (by show ¬ 200 ≤ 100; decide), fun q => absurd q (by show ¬ 310 ≤ 100; decide)⟩) (fun q hq => by
      rcases List.mem_append.mp hq with h | h
      · exact hL q h
      · obtain ⟨z, -, hz⟩ := List.mem_map.mp h
        rw [← hz]
        exact hRb.2 (by omega)) hv _ hheap X'
  exact ⟨t, step t a1, b1⟩
/-- a constructor of a nest mate, or its own -/
theorem g_callIN {β : Type} {f : Option AH} {F : AH → Option β} {w : β} (X : CX K cc own Ts ret nm R0 n0 m0 s0) {b : Nat} (hf : f.bind F = some w)
    {y : MethodName} {ws ws' : List Cond} {bytes : ByteArray} {maxL n d' mc' ms' index : Nat} {av rest st0 : List TV}
    (hc : ∀ v, f = some v → CT y ws (rmD d' mc' ms') mc' ms' (tR (some b) :: av) h (none, v)) (hG : GoodIn Ts ws) (hw : ws = Cond.code y bytes maxL none :: ws') (hNw : (own, index, y) ∈ NWl) (hini : Cond.initialized y.cls ∈ Ts) (hy1 : y.name = "<init>") (hins : Cond.instanceMethod y ∈ Ts)
    (hd : y.cls ≠ "java/lang/invoke/MethodHandle" ∧ y.cls ≠ "java/lang/invoke/VarHandle" ∧ (parseMethodDescriptor y.desc).map (fun d => d.parameters.length) = some n) (hn : av.length = n)
    (hRm : d' + 1 ≤ R0.frames ∧ 8 + (maxL + 11) + 100 * d' ≤ R0.locals) (hcs : cells + mc' ≤ R0.cells ∧ slots + ms' ≤ R0.slots) (hst : st0 = av.reverse ++ tR (some b) :: rest) (hwd : (rest.map wOf).sum ≤ 8) (d : decode cc pc = .ok (.invokespecial index, 3))
    (kk : ∀ v, F v = some w → GG K z (cells + mc') (slots + ms') (pc + 3) lv rest v) : GG K z cells slots pc lv st0 h := by
  obtain ⟨p, l, e, R, s, m, args, below, meth, c, D, B0, nL, mc, ms⟩ := K
  obtain ⟨hx, hb, hml, hown, hts, hret, hlk, hK, hnm, hR1, hn0, hm0, hs0⟩ := X
  intro H locs ls hR hL hv
  obtain ⟨v, hf1, hv2⟩ := Option.bind_eq_some_iff.mp hf
  subst hR1
  refine g_run (a := (Value.ref b :: av.map vOf).toArray) (rest := rest.map vOf) (z := (none, v)) (mc' := mc') (ms' := ms') (va_runIN (host := RX11) (As := av.map vOf) (rest := rest.map vOf) (n := n) ⟨hx, hb, hml, hown, hts⟩ (hc v hf1 l D B0) ⟨va_cnB n hts hG hw rfl rfl (hK.2.2.2.2.1 _ hNw) (hts _ hini) hd hRm, hy1, hts _ hins⟩ ⟨CT.blind, fun U hU hW => ⟨rfl, by rw [hU]; exact hR, hK.moved hW⟩⟩ rfl (by rw [List.length_map]; exact hn) hv.1 ?_ (lv_room (by rw [vOf_sum]; exact hwd)) d hcs) hL (fun H1 locs1 hR1 hL1 => ?_)
  · subst hst
    show List.map vOf (av.reverse ++ tR (some b) :: rest) = _
    rw [List.map_append, List.map_reverse]; rfl
  · exact kk v hv2 H1 locs1 ls hR1 hL1 hv
theorem g_callI {β : Type} {f : Option AH} {F : AH → Option β} {w : β} (X : CX K cc own Ts ret nm R0 n0 m0 s0) {b : Nat} (hf : f.bind F = some w)
    {y : MethodName} {ws ws' : List Cond} {bytes : ByteArray} {maxL n d' mc' ms' index : Nat} {av rest st0 : List TV}
    (hc : ∀ v, f = some v → CT y ws (rmD d' mc' ms') mc' ms' (tR (some b) :: av) h (none, v)) (hG : GoodIn Ts ws) (hw : ws = Cond.code y bytes maxL none :: ws') (hlk' : Cond.methodLink own index y ∈ Ts) (hini : Cond.initialized y.cls ∈ Ts) (hy1 : y.name = "<init>") (hins : Cond.instanceMethod y ∈ Ts)
    (hd : y.cls ≠ "java/lang/invoke/MethodHandle" ∧ y.cls ≠ "java/lang/invoke/VarHandle" ∧ (parseMethodDescriptor y.desc).map (fun d => d.parameters.length) = some n) (hn : av.length = n)
    (hRm : d' + 1 ≤ R0.frames ∧ 8 + (maxL + 11) + 100 * d' ≤ R0.locals) (hcs : cells + mc' ≤ R0.cells ∧ slots + ms' ≤ R0.slots) (hst : st0 = av.reverse ++ tR (some b) :: rest) (hwd : (rest.map wOf).sum ≤ 8) (d : decode cc pc = .ok (.invokespecial index, 3))
    (kk : ∀ v, F v = some w → GG K z (cells + mc') (slots + ms') (pc + 3) lv rest v) : GG K z cells slots pc lv st0 h := by
  obtain ⟨p, l, e, R, s, m, args, below, meth, c, D, B0, nL, mc, ms⟩ := K
  obtain ⟨hx, hb, hml, hown, hts, hret, hlk, hK, hnm, hR1, hn0, hm0, hs0⟩ := X
  intro H locs ls hR hL hv
  obtain ⟨v, hf1, hv2⟩ := Option.bind_eq_some_iff.mp hf
  subst hR1
  refine g_run (a := (Value.ref b :: av.map vOf).toArray) (rest := rest.map vOf) (z := (none, v)) (mc' := mc') (ms' := ms') (va_runI (As := av.map vOf) (rest := rest.map vOf) (n := n) ⟨hx, hb, hml, hown, hts⟩ (hc v hf1 l D B0) (cwI n hts hG hw rfl rfl (hts _ hini) (hts _ hlk') (hts _ hins) hy1 hd hRm) ⟨CT.blind, fun U hU hW => ⟨rfl, by rw [hU]; exact hR, hK.moved hW⟩⟩ rfl (by rw [List.length_map]; exact hn) hv.1 ?_ (lv_room (by rw [vOf_sum]; exact hwd)) d hcs) hL (fun H1 locs1 hR1 hL1 => ?_)
  · subst hst
    show List.map vOf (av.reverse ++ tR (some b) :: rest) = _
    rw [List.map_append, List.map_reverse]; rfl
  · exact kk v hv2 H1 locs1 ls hR1 hL1 hv
theorem g_callSN {α β : Type} {f : Option α} {F : α → Option β} {w : β} (X : CX K cc own Ts ret nm R0 n0 m0 s0) (hf : f.bind F = some w)
    {y : MethodName} {ws ws' : List Cond} {bytes : ByteArray} {maxL n d' mc' ms' index : Nat} {rt : Option FieldType} {av rest st0 : List TV} (wr : α → Option TV × AH)
    (hc : ∀ v, f = some v → CT y ws (rmD d' mc' ms') mc' ms' av h (wr v)) (hG : GoodIn Ts ws) (hw : ws = Cond.code y bytes maxL rt :: ws') (hNw : (own, index, y) ∈ NWl) (hini : Cond.initialized y.cls ∈ Ts) (hstt : Cond.static y ∈ Ts)
    (hd : y.cls ≠ "java/lang/invoke/MethodHandle" ∧ y.cls ≠ "java/lang/invoke/VarHandle" ∧ (parseMethodDescriptor y.desc).map (fun d => d.parameters.length) = some n) (hn : av.length = n)
    (hRm : d' + 1 ≤ R0.frames ∧ 8 + (maxL + 11) + 100 * d' ≤ R0.locals) (hcs : cells + mc' ≤ R0.cells ∧ slots + ms' ≤ R0.slots) (hst : st0 = av.reverse ++ rest) (hwd : (rest.map wOf).sum ≤ 8) (d : decode cc pc = .ok (.invokestatic index, 3))
    (kk : ∀ v, F v = some w → GG K z (cells + mc') (slots + ms') (pc + 3) lv ((wr v).1.toList ++ rest) (wr v).2) : GG K z cells slots pc lv st0 h := by
  obtain ⟨p, l, e, R, s, m, args, below, meth, c, D, B0, nL, mc, ms⟩ := K
  obtain ⟨hx, hb, hml, hown, hts, hret, hlk, hK, hnm, hR1, hn0, hm0, hs0⟩ := X
  intro H locs ls hR hL hv
  obtain ⟨v, hf1, hv2⟩ := Option.bind_eq_some_iff.mp hf
  subst hR1
  refine g_run (a := (av.map vOf).toArray) (rest := rest.map vOf) (z := wr v) (mc' := mc') (ms' := ms') (va_runSN (host := RX11) (As := av.map vOf) (rest := rest.map vOf) (n := n) ⟨hx, hb, hml, hown, hts⟩ (hc v hf1 l D B0) ⟨va_cnB n hts hG hw rfl rfl (hK.2.2.2.2.1 _ hNw) (hts _ hini) hd hRm, hts _ hstt, trivial⟩ ⟨CT.blind, fun U hU hW => ⟨rfl, by rw [hU]; exact hR, hK.moved hW⟩⟩ rfl (by rw [List.length_map]; exact hn) hv.1 ?_ (lv_room (by rw [vOf_sum]; exact hwd)) d hcs) hL (fun H1 locs1 hR1 hL1 => ?_)
  · subst hst
    show List.map vOf (av.reverse ++ rest) = _
    rw [List.map_append, List.map_reverse]
  · rw [toList_map]
    exact kk v hv2 H1 locs1 ls hR1 hL1 hv
end GMORE
