-- ===== a private static of the outer class; clone; checkcast; rows of rows; constant texts =====
/-- new int[n][k], n and k small: the outer row, then the inner ones -/
def nM (h : AH) : Option AH := some (h.1 + 3, va_up (va_up (va_up h.2.1 h.1 (102, 2, fun j => .ref (h.1 + 1 + j))) (h.1 + 1) (100, 5, fun _ => .int 0)) (h.1 + 2) (100, 5, fun _ => .int 0), h.2.2)
def gB (h : AH) (r : Option Nat) (i : Int32) : Option Int32 := (aV (fun k => decide (300 ≤ k) && decide (k < 310)) h r i).bind toI
def rC (x : Int32) : Option Int32 := if (x.toUInt32 % 65536).toInt32 = x then some x else none
def rB (x : Int32) : Option Int32 := if x.toInt8.toInt32 = x then some x else none
/-- a text's own fields: 0 its bytes, 1 its coder -/
def gS (j : Nat) (h : AH) (r : Option Nat) : Option Value := match r with
  | some a => if (h.2.1 a).1 = 310 then some ((h.2.1 a).2.2 j) else none
  | none => none
def gSR (h : AH) (r : Option Nat) : Option (Option Nat) := (gS 0 h r).bind toR
def gSI (h : AH) (r : Option Nat) : Option Int32 := (gS 1 h r).bind toI
theorem gS_spec {j : Nat} {h : AH} {r : Option Nat} {v : Value} (q : gS j h r = some v) : ∃ a, r = some a ∧ (h.2.1 a).1 = 310 ∧ (h.2.1 a).2.2 j = v := by
  cases r with
  | none => cases q
  | some a =>
    simp only [gS] at q
    split at q
    · rename_i e
      exact ⟨a, rfl, e, Option.some.inj q⟩
    · cases q
section GSTR
variable {K : KT} {z : Option TV × AH} {cells slots pc : Nat} {lv : List (Nat × TV)} {st : List TV} {h : AH} {cc : ByteArray} {own : String} {Ts : List Cond} {ret : Option FieldType} {nm : String} {R0 : Room} {n0 m0 s0 : Nat}
theorem g_getsN (X : CX K cc RX2 Ts ret nm R0 n0 m0 s0) (d : decode cc pc = .ok (.getstatic 55, 3)) (kk : GG K z cells slots (pc + 3) lv (tR (some (h.2.2 0)) :: st) h) : GG K z cells slots pc lv st h := by
  obtain ⟨p, l, e, R, s, m, args, below, meth, c, D, B0, nL, mc, ms⟩ := K
  obtain ⟨hx, hb, hml, hown, hts, hret, hlk', hK, hnm, hR0, hn0, hm0, hs0⟩ := X
  intro H locs ls hR hL hv
  obtain ⟨cf, kf, fi, f, a, cell, h1, h2, h3, h4, h5, h6, h7, h8⟩ := hK.2.2.2.1 0 (by omega)
  have ha : a < B0.size := (Array.getElem?_eq_some_iff.mp h5).1
  refine va_WgetsN hx hb hown (va_Nw.use rfl hK.2.2.2.2.2.1) h1 h2 h3 h4 (by rw [hR.2.2.1 a ha]; exact h5) (fun q => by rw [q] at h6; cases h6) h7 rfl d ?_
  have := kk H locs ls hR hL hv
  rw [hR.2.2.2.1 0] at this
  exact this
theorem g_clone {α : Type} {f : AH → Option α} {w : α} (X : CX K cc own Ts ret nm R0 n0 m0 s0) {r : Option Nat} {B : Nat} (hf : (clA h r B).bind f = some w) {index : Nat} (h1 : Cond.methodLink own index ⟨"[I", "clone", "()Ljava/lang/Object;"⟩ ∈ Ts) (h2 : Cond.sameMethod "[I" "java/lang/Object" "clone" "()Ljava/lang/Object;" ∈ Ts) (h3 : Cond.native ⟨"java/lang/Object", "clone", "()Ljava/lang/Object;"⟩ ∈ Ts) (h4 : Cond.instanceMethod ⟨"java/lang/Object", "clone", "()Ljava/lang/Object;"⟩ ∈ Ts) (h5 : Cond.selects "[I" ⟨"[I", "clone", "()Ljava/lang/Object;"⟩ ⟨"java/lang/Object", "clone", "()Ljava/lang/Object;"⟩ ∈ Ts)
    (hR0 : 1 ≤ R0.frames ∧ (st.map wOf).sum + 14 ≤ R0.locals) (hcs : cells + 1 ≤ R0.cells ∧ slots + B ≤ R0.slots) (d : decode cc pc = .ok (.invokevirtual index, 3)) (kk : ∀ h2, f h2 = some w → GG K z (cells + 1) (slots + B) (pc + 3) lv (tR (some h.1) :: st) h2) : GG K z cells slots pc lv (tR r :: st) h := by
  obtain ⟨p, l, e, R, s, m, args, below, meth, c, D, B0, nL, mc, ms⟩ := K
  obtain ⟨hx, hb, hml, hown, hts, hret, hlk, hK, hnm, hR1, hn0, hm0, hs0⟩ := X
  intro H locs ls hR hL hv
  subst hR1
  obtain ⟨hh2, hv1, hv2⟩ := Option.bind_eq_some_iff.mp hf
  obtain ⟨a, rfl, ha, hB, hall, rfl⟩ := clA_spec hv1
  obtain ⟨cell, q1, q2, q3, q4, q5, q6⟩ := (hR.2.2.2.2 a (by omega)).1.2.2.1 ha.1 (by omega)
  have hD := hK.2.2.2.2.2.2.2.2.2.2.2.1 (h.2.1 a).1 ha.1 ha.2
  have q2 : cell.cls = D.1 100 := q2.trans hD
  obtain ⟨c0, t0, f1, f2, f3⟩ := hK.2.2.2.2.2.2.2.2.2.2.1
  have hnm0 : s.vm.findClass "[I" = some (D.1 100) := hK.2.2.1 100 (by omega) (by omega)
  have hc0 : c0 = D.1 100 := Option.some.inj (f1.symm.trans hnm0)
  subst hc0
  obtain ⟨-, kS, hkS, compS, hkindS⟩ := hK.2.1 100 (by omega) (by omega) 0 (fun _ => .null)
  have hkS : s.vm.classes[D.1 100]? = some kS := hkS
  have hcell : cell.slots = (arrV (D.1 100) (h.2.1 a).2.1 (h.2.1 a).2.2).slots := by
    apply Array.ext_getElem?
    intro j
    by_cases hj : j < (h.2.1 a).2.1
    · rw [q6 j hj, arrV_read _ _ hj]
    · rw [Array.getElem?_eq_none (by rw [q5]; omega), Array.getElem?_eq_none (by rw [arrV_size]; omega)]
  intro T hT X
  obtain ⟨-, kA, hkA, comp, hkind⟩ := State.isArrayOf_alike X.warmed.alike (hK.2.1 100 (by omega) (by omega) 0 (fun _ => .null))
  have hkA : T.vm.classes[D.1 100]? = some kA := hkA
  obtain ⟨vm', X', step⟩ := X.cloneArray hx hown (hts _ h1) (hts _ h2) (hts _ h3) (hts _ h4) (hts _ h5) (a := a) (cell := cell) (by rw [hT]; exact q1) q3 q4 (by rw [q2]; exact hnm0) f2 (by rw [q2]; exact f3)
    (fun i v hi => by
      rw [q2]
      have hlt : i < (h.2.1 a).2.1 := by rw [← q5]; exact (Array.getElem?_eq_some_iff.mp hi).1
      rw [q6 i hlt] at hi
      obtain ⟨x, hx'⟩ := allI_spec hall i hlt
      rw [Nat.zero_add] at hx'
      rw [hx'] at hi
      cases hi
      simp [State.fitsSlot, State.slotType?, hkA, hkind]
      rfl)
    (g := F0 m pc ls (.ref a :: st.map vOf)) rfl (by rw [hml]; exact hv.1) rfl (by rw [hb]; exact d) hR0.1 (by show 2 * 0 + _ + 14 ≤ _; rw [vOf_sum]; omega) hcs.1 (by rw [q5]; exact Nat.le_trans (Nat.add_le_add_left hB _) hcs.2) (hloader := by rw [q2]; exact Vm.clonesLoader_of_array hkS hkindS)
  have X'' := stand_widen X' (Nat.le_refl (cells + 1)) (show slots + cell.slots.size ≤ slots + B by rw [q5]; exact Nat.add_le_add_left hB _)
  have hpush : ({ cls := cell.cls, slots := cell.slots } : Cell) = arrV (D.1 100) (h.2.1 a).2.1 (h.2.1 a).2.2 := by rw [q2, hcell]; rfl
  rw [hpush] at X'' step
  have this := kk _ hv2 (H.push (arrV (D.1 100) (h.2.1 a).2.1 (h.2.1 a).2.2)) locs ls (hR.push (by simp) (fun q hq => by rw [Array.getElem?_push, if_neg (Nat.ne_of_lt hq)]) ⟨fun q => absurd q (by show ¬ 100 < 100; decide), fun _ _ => by rw [Array.getElem?_push_size], fun q => absurd q (by show ¬ 200 ≤ 100; decide), fun q => absurd q (by show ¬ 310 ≤ 100; decide)⟩) hL hv
  obtain ⟨t, b1, b2⟩ := this _ (by rw [← hT]; rfl) X''
  refine ⟨t, step t ?_, b2⟩
  rw [hT, ← hR.1]
  exact b1
/-- checkcast of a row of ints to its own class -/
theorem g_castI (X : CX K cc own Ts ret nm R0 n0 m0 s0) {a index : Nat} (ha : (h.2.1 a).1 = 100) (h1 : Cond.classLink own index "[I" ∈ Ts) (d : decode cc pc = .ok (.checkcast index, 3)) (kk : GG K z cells slots (pc + 3) lv (tR (some a) :: st) h) : GG K z cells slots pc lv (tR (some a) :: st) h := by
  obtain ⟨p, l, e, R, s, m, args, below, meth, c, D, B0, nL, mc, ms⟩ := K
  obtain ⟨hx, hb, hml, hown, hts, hret, hlk, hK, hnm, hR1, hn0, hm0, hs0⟩ := X
  intro H locs ls hR hL hv
  have q1 := (hR.2.2.2.2 a (by omega)).1.2.1 (by omega) (by omega)
  rw [ha] at q1
  have hnm0 : s.vm.findClass "[I" = some (D.1 100) := hK.2.2.1 100 (by omega) (by omega)
  intro T hT X
  obtain ⟨vm', X', step⟩ := X.checkcastYes hx hown (hts _ h1) (by rw [hT]; exact q1) rfl hnm0 (va_asg _ _) (g := F0 m pc ls (.ref a :: st.map vOf)) rfl rfl (by rw [hb]; exact d)
  obtain ⟨t, a1, b1⟩ := kk H locs ls hR hL hv (T.setVm vm') hT X'
  exact ⟨t, step t a1, b1⟩
theorem g_ldcS (X : CX K cc RX4 Ts ret nm R0 n0 m0 s0) {index : Nat} {tx : String} (j : Nat) (hj : KS[j]? = some (index, tx)) (d : decode cc pc = .ok (.ldc index, 2)) (kk : GG K z cells slots (pc + 2) lv (tR (some (h.2.2 (60 + j))) :: st) h) : GG K z cells slots pc lv st h := by
  obtain ⟨p, l, e, R, s, m, args, below, meth, c, D, B0, nL, mc, ms⟩ := K
  obtain ⟨hx, hb, hml, hown, hts, hret, hlk', hK, hnm, hR0, hn0, hm0, hs0⟩ := X
  intro H locs ls hR hL hv
  refine va_ldcS hx hb hown (hK.2.2.2.2.2.2.2.1 j _ hj) d ?_
  have := kk H locs ls hR hL hv
  rw [hR.2.2.2.1 (60 + j)] at this
  exact this
theorem g_strR {α : Type} {f : Option Nat → Option α} {w : α} (X : CX K cc own Ts ret nm R0 n0 m0 s0) {r : Option Nat} (hf : (gSR h r).bind f = some w) {index : Nat} (hlk : Cond.fieldLink own index "java/lang/String" "value" "[B" ∈ Ts) (d : decode cc pc = .ok (.getfield index, 3)) (kk : ∀ v, f v = some w → GG K z cells slots (pc + 3) lv (tR v :: st) h) : GG K z cells slots pc lv (tR r :: st) h := by
  obtain ⟨v, hv1, hv2⟩ := Option.bind_eq_some_iff.mp hf
  obtain ⟨u, hu1, hu2⟩ := Option.bind_eq_some_iff.mp hv1
  obtain ⟨a, rfl, ha, hbv⟩ := gS_spec hu1
  obtain ⟨p, l, e, R, s, m, args, below, meth, c, D, B0, nL, mc, ms⟩ := K
  obtain ⟨hx, hb, hml, hown, hts, hret, hlk', hK, hnm, hR0, hn0, hm0, hs0⟩ := X
  intro H locs ls hR hL hv
  obtain ⟨-, i, hi, rfl, e1, e2⟩ := (hR.2.2.2.2 a (by omega)).1.2.2.2 (by omega)
  obtain ⟨-, -, ⟨cf, k, fi, fd, cell, g1, g2, g3, g4, g5, g6⟩, -⟩ := hK.2.2.2.2.2.2.1.1 i hi
  have hlt := (Array.getElem?_eq_some_iff.mp g3).1
  refine W.getf hx hb hown (hts _ hlk) g1 g2 (by rw [hR.2.2.1 _ hlt]; exact g3) g4 (v := vOf (tR v)) ?_ rfl rfl d (kk v hv2 H locs ls hR hL hv)
  rw [g5, ← toR_spec hu2, ← hbv, e1]
theorem g_strI {α : Type} {f : Int32 → Option α} {w : α} (X : CX K cc own Ts ret nm R0 n0 m0 s0) {r : Option Nat} (hf : (gSI h r).bind f = some w) {index : Nat} (hlk : Cond.fieldLink own index "java/lang/String" "coder" "B" ∈ Ts) (d : decode cc pc = .ok (.getfield index, 3)) (kk : ∀ v, f v = some w → GG K z cells slots (pc + 3) lv (tI v :: st) h) : GG K z cells slots pc lv (tR r :: st) h := by
  obtain ⟨v, hv1, hv2⟩ := Option.bind_eq_some_iff.mp hf
  obtain ⟨u, hu1, hu2⟩ := Option.bind_eq_some_iff.mp hv1
  obtain ⟨a, rfl, ha, hbv⟩ := gS_spec hu1
  obtain ⟨p, l, e, R, s, m, args, below, meth, c, D, B0, nL, mc, ms⟩ := K
  obtain ⟨hx, hb, hml, hown, hts, hret, hlk', hK, hnm, hR0, hn0, hm0, hs0⟩ := X
  intro H locs ls hR hL hv
  obtain ⟨-, i, hi, rfl, e1, e2⟩ := (hR.2.2.2.2 a (by omega)).1.2.2.2 (by omega)
  obtain ⟨-, ⟨cf, k, fi, fd, cell, g1, g2, g3, g4, g5, g6⟩, -, -⟩ := hK.2.2.2.2.2.2.1.1 i hi
  have hlt := (Array.getElem?_eq_some_iff.mp g3).1
  refine W.getf hx hb hown (hts _ hlk) g1 g2 (by rw [hR.2.2.1 _ hlt]; exact g3) g4 (v := vOf (tI v)) ?_ rfl rfl d (kk v hv2 H locs ls hR hL hv)
  rw [g5, ← toI_spec hu2, ← hbv, e2]
/-- the static COMPACT_STRINGS is true -/
theorem g_compact (X : CX K cc own Ts ret nm R0 n0 m0 s0) {index : Nat} (hlk : Cond.fieldLink own index "java/lang/String" "COMPACT_STRINGS" "Z" ∈ Ts) (d : decode cc pc = .ok (.getstatic index, 3)) (kk : GG K z cells slots (pc + 3) lv (tI (Int32.ofNat (h.2.2 51)) :: st) h) : GG K z cells slots pc lv st h := by
  obtain ⟨p, l, e, R, s, m, args, below, meth, c, D, B0, nL, mc, ms⟩ := K
  obtain ⟨hx, hb, hml, hown, hts, hret, hlk', hK, hnm, hR0, hn0, hm0, hs0⟩ := X
  intro H locs ls hR hL hv
  obtain ⟨cf, kf, fi, f, a, cell, h1, h2, h3, h4, h5, h6, h7, h8⟩ := hK.2.2.2.2.2.2.2.2.1
  have ha : a < B0.size := (Array.getElem?_eq_some_iff.mp h5).1
  refine W.gets hx hb hown (hts _ hlk) h1 h2 h3 h4 (by rw [hR.2.2.1 a ha]; exact h5) (fun q => by rw [q] at h6; cases h6) h7 rfl d ?_
  have := kk H locs ls hR hL hv
  rw [hR.2.2.2.1 51] at this
  exact this
theorem g_baloadB {α : Type} {f : Int32 → Option α} {w : α} (X : CX K cc own Ts ret nm R0 n0 m0 s0) {r : Option Nat} {i : Int32} (hf : (gB h r i).bind f = some w) (d : decode cc pc = .ok (.baload, 1)) (kk : ∀ v, f v = some w → GG K z cells slots (pc + 1) lv (tI v :: st) h) : GG K z cells slots pc lv (tI i :: tR r :: st) h := by
  obtain ⟨p, l, e, R, s, m, args, below, meth, c, D, B0, nL, mc, ms⟩ := K
  obtain ⟨hx, hb, hml, hown, hts, hret, hlk, hK, hnm, hR0, hn0, hm0, hs0⟩ := X
  intro H locs ls hR hL hv
  obtain ⟨v, hv1, hv2⟩ := Option.bind_eq_some_iff.mp hf
  obtain ⟨u, hu1, hu2⟩ := Option.bind_eq_some_iff.mp hv1
  obtain ⟨a, rfl, ha, hi, hu⟩ := aV_spec hu1
  have ha : 300 ≤ (h.2.1 a).1 ∧ (h.2.1 a).1 < 310 := by simpa using ha
  obtain ⟨cell, q1, q2, q3, q4, q5, q6⟩ := (hR.2.2.2.2 a (by omega)).1.arr (by omega)
  have harr := arrOf hK (by omega) q2 q3
  have e0 : aty (h.2.1 a).1 = .byte := by
    unfold aty
    rw [if_neg (by omega), if_neg (by omega), if_neg (by omega), if_neg (by omega), if_neg (by omega), if_neg (by omega), if_neg (by omega), if_neg (by omega), if_neg (by omega), if_pos ha.1]
  rw [e0] at harr
  exact W.bald (v := .int v) hx hb q1 harr q4 (by rw [q5]; exact hi) (by rw [q6 _ (Nat.not_le.mp fun q => hi (Or.inr q)), hu, toI_spec hu2]; rfl) rfl rfl d (kk v hv2 H locs ls hR hL hv)
theorem g_creturn2 (X : CX K cc own Ts (some .char) nm R0 n0 m0 s0) {x w : Int32} (hf : rC x = some w) (hc : cells ≤ m0) (hs : slots ≤ s0) (d : decode cc pc = .ok (.ireturn, 1)) : GG K (some (tI w), h) cells slots pc lv [tI x] h := by
  obtain ⟨p, l, e, R, s, m, args, below, meth, c, D, B0, nL, mc, ms⟩ := K
  obtain ⟨hx, hb, hml, hown, hts, hret, hlk, hK, hnm, hR0, hn0, hm0, hs0⟩ := X
  intro H locs ls hR hL hv
  subst hm0; subst hs0
  unfold rC at hf
  split at hf
  · rename_i q
    cases hf
    refine W.widen hc hs ?_
    exact W.zret (v := x) hx hb hret (by rw [← q]; exact pk_nc x) (fun t ht _ => ⟨rfl, by rw [ht]; exact hR⟩) hL d hlk
  · cases hf
theorem g_breturn2 (X : CX K cc own Ts (some .byte) nm R0 n0 m0 s0) {x w : Int32} (hf : rB x = some w) (hc : cells ≤ m0) (hs : slots ≤ s0) (d : decode cc pc = .ok (.ireturn, 1)) : GG K (some (tI w), h) cells slots pc lv [tI x] h := by
  obtain ⟨p, l, e, R, s, m, args, below, meth, c, D, B0, nL, mc, ms⟩ := K
  obtain ⟨hx, hb, hml, hown, hts, hret, hlk, hK, hnm, hR0, hn0, hm0, hs0⟩ := X
  intro H locs ls hR hL hv
  subst hm0; subst hs0
  unfold rB at hf
  split at hf
  · rename_i q
    cases hf
    refine W.widen hc hs ?_
    exact W.zret (v := x) hx hb hret (by rw [← q]; exact pk_nb x) (fun t ht _ => ⟨rfl, by rw [ht]; exact hR⟩) hL d hlk
  · cases hf
theorem g_sio (X : CX K cc own Ts ret nm R0 n0 m0 s0) {index : Nat} (hlk : Cond.fieldLink own index "jdk/internal/util/Preconditions" "SIOOBE_FORMATTER" "Ljava/util/function/BiFunction;" ∈ Ts) (d : decode cc pc = .ok (.getstatic index, 3)) (kk : GG K z cells slots (pc + 3) lv (tR (sio (h.2.2 50)) :: st) h) : GG K z cells slots pc lv st h := by
  obtain ⟨p, l, e, R, s, m, args, below, meth, c, D, B0, nL, mc, ms⟩ := K
  obtain ⟨hx, hb, hml, hown, hts, hret, hlk', hK, hnm, hR0, hn0, hm0, hs0⟩ := X
  intro H locs ls hR hL hv
  obtain ⟨cf, kf, fi, f, a, cell, h1, h2, h3, h4, h5, h6, h7, h8⟩ := hK.2.2.2.2.2.2.2.2.2.2.2.2.2
  have ha : a < B0.size := (Array.getElem?_eq_some_iff.mp h5).1
  refine W.gets hx hb hown (hts _ hlk) h1 h2 h3 h4 (by rw [hR.2.2.1 a ha]; exact h5) (fun q => by rw [q] at h6; cases h6) h7 rfl d ?_
  have := kk H locs ls hR hL hv
  rw [hR.2.2.2.1 50] at this
  exact this
theorem g_callSt {α β : Type} {f : Option α} {F : α → Option β} {w : β} (X : CX K cc own Ts ret nm R0 n0 m0 s0) {r : Option Nat} (hf : (ck 310 h r f).bind F = some w)
    {y : MethodName} {ws ws' : List Cond} {bytes : ByteArray} {maxL n d' mc' ms' index : Nat} {rt : Option FieldType} {av rest st0 : List TV} (wr : α → Option TV × AH)
    (hc : ∀ v, f = some v → CT y ws (rmD d' mc' ms') mc' ms' (tR r :: av) h (wr v)) (hG : GoodIn Ts (wsV own index "java/lang/String" y ws)) (hw : ws = Cond.code y bytes maxL rt :: ws')
    (hd : y.cls = "java/lang/String" ∧ y.cls ≠ "java/lang/invoke/MethodHandle" ∧ y.cls ≠ "java/lang/invoke/VarHandle" ∧ (parseMethodDescriptor y.desc).map (fun d => d.parameters.length) = some n) (hn : av.length = n)
    (hRm : d' + 1 ≤ R0.frames ∧ 8 + (maxL + 11) + 100 * d' ≤ R0.locals) (hcs : cells + mc' ≤ R0.cells ∧ slots + ms' ≤ R0.slots) (hst : st0 = av.reverse ++ tR r :: rest) (hwd : (rest.map wOf).sum ≤ 8) (d : decode cc pc = .ok (.invokevirtual index, 3))
    (kk : ∀ v, F v = some w → GG K z (cells + mc') (slots + ms') (pc + 3) lv ((wr v).1.toList ++ rest) (wr v).2) : GG K z cells slots pc lv st0 h := by
  obtain ⟨p, l, e, R, s, m, args, below, meth, c, D, B0, nL, mc, ms⟩ := K
  obtain ⟨hx, hb, hml, hown, hts, hret, hlk, hK, hnm, hR0, hn0, hm0, hs0⟩ := X
  intro H locs ls hR hL hv
  obtain ⟨v, hv1, hv2⟩ := Option.bind_eq_some_iff.mp hf
  obtain ⟨b, rfl, hkb, hf1⟩ := ck_spec hv1
  subst hR0
  obtain ⟨-, i, hi, rfl, e1, e2⟩ := (hR.2.2.2.2 b (by omega)).1.2.2.2 (by omega)
  obtain ⟨⟨cell, g1, g2, g3, g4⟩, -⟩ := hK.2.2.2.2.2.2.1.1 i hi
  have hlt := (Array.getElem?_eq_some_iff.mp g1).1
  refine g_run (a := (Value.ref (D.2 98 (60 + i)) :: av.map vOf).toArray) (rest := rest.map vOf) (z := wr v) (mc' := mc') (ms' := ms') (va_runV (As := av.map vOf) (rest := rest.map vOf) (n := n) ⟨hx, hb, hml, hown, hts⟩ (hc v hf1 l D B0) (cwV n hts hG hw rfl rfl hd hRm) ⟨CT.blind, ⟨cell, by rw [hR.2.2.1 _ hlt]; exact g1, g2, g3⟩, fun U hU hW => ⟨rfl, by rw [hU]; exact hR, hK.moved hW⟩⟩ rfl (by rw [List.length_map]; exact hn) hv.1 ?_ (lv_room (by rw [vOf_sum]; exact hwd)) d hcs) hL (fun H1 locs1 hR1 hL1 => ?_)
  · subst hst
    show List.map vOf (av.reverse ++ tR (some (D.2 98 (60 + i))) :: rest) = _
    rw [List.map_append, List.map_reverse]; rfl
  · rw [toList_map]
    exact kk v hv2 H1 locs1 ls hR1 hL1 hv
end GSTR
theorem zP {x w : Int32} {h : AH} (hf : some x = some w) : ((some (tI w), h) : Option TV × AH) = (some (tI x), h) := by rw [Option.some.inj hf]
theorem zPR {x w : Option Nat} {h : AH} (hf : some x = some w) : ((some (tR w), h) : Option TV × AH) = (some (tR x), h) := by rw [Option.some.inj hf]
theorem zW {x : Int32} {h : AH} {w : Int32 × AH} (hf : some (x, h) = some w) : ((some (tI w.1), w.2) : Option TV × AH) = (some (tI x), h) := by rw [← Option.some.inj hf]
theorem zWR {x : Option Nat} {h : AH} {w : Option Nat × AH} (hf : some (x, h) = some w) : ((some (tR w.1), w.2) : Option TV × AH) = (some (tR x), h) := by rw [← Option.some.inj hf]
theorem zV {h w : AH} (hf : some h = some w) : ((none, w) : Option TV × AH) = (none, h) := by rw [Option.some.inj hf]
