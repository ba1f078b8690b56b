-- ===== contracts and calls =====
def rmD (d mc ms : Nat) : Room := { frames := d, cells := mc, slots := ms, locals := 100 * d }
/-- the words of a method: its code, and the good words of the tables -/
def wU (y : MethodName) (b : ByteArray) (n : Nat) (r : Option FieldType) : List Cond := Cond.code y b n r :: TB
theorem gd0 {y : MethodName} {b : ByteArray} {n : Nat} {r : Option FieldType} (h5 : Cond.code y b n r ∈ TB) : GoodIn TB (wU y b n r) := fun w hw =>
  (List.mem_cons.mp hw).elim (fun e => e ▸ ⟨h5, good_of_word (tbGood h5)⟩) (fun h => ⟨h, good_of_word (tbGood h)⟩)
theorem gdV {own C : String} {i : Nat} {y : MethodName} {b : ByteArray} {n : Nat} {r : Option FieldType} (h1 : Cond.methodLink own i y ∈ TB) (h2 : Cond.instanceMethod y ∈ TB) (h3 : Cond.selects C y y ∈ TB) (h4 : Cond.initialized C ∈ TB) (h5 : Cond.code y b n r ∈ TB) : GoodIn TB (wsV own i C y (wU y b n r)) := by
  intro w hw
  have hw : w ∈ ([.methodLink own i y, .instanceMethod y, .selects C y y, .initialized C] : List Cond) ++ wU y b n r := hw
  rcases List.mem_append.mp hw with h | h
  · have hm : w ∈ TB := by
      simp only [List.mem_cons, List.not_mem_nil, or_false] at h
      rcases h with rfl | rfl | rfl | rfl
      · exact h1
      · exact h2
      · exact h3
      · exact h4
    exact ⟨hm, good_of_word (tbGood hm)⟩
  · exact gd0 h5 w h
theorem gdS {own : String} {i : Nat} {y : MethodName} {b : ByteArray} {n : Nat} {r : Option FieldType} (h1 : Cond.methodLink own i y ∈ TB) (h2 : Cond.static y ∈ TB) (h4 : Cond.initialized y.cls ∈ TB) (h5 : Cond.code y b n r ∈ TB) : GoodIn TB (va_wsS own i y (wU y b n r)) := by
  intro w hw
  have hw : w ∈ ([.methodLink own i y, .static y, .initialized y.cls] : List Cond) ++ wU y b n r := hw
  rcases List.mem_append.mp hw with h | h
  · have hm : w ∈ TB := by
      simp only [List.mem_cons, List.not_mem_nil, or_false] at h
      rcases h with rfl | rfl | rfl
      · exact h1
      · exact h2
      · exact h4
    exact ⟨hm, good_of_word (tbGood hm)⟩
  · exact gd0 h5 w h
/-- the method y, from the abstract heap h with the arguments av, comes back with z -/
def CT (y : MethodName) (ws : List Cond) (rm : Room) (mc ms : Nat) (av : List TV) (h : AH) (z : Option TV × AH) : Prop :=
  ∀ (l : Launch) (D : va_G) (B0 : Heap), Met l y ws rm (va_Pc (av.map vOf) (fun U => Rel D B0 U.heap h ∧ KF D B0 U)) (Qz D B0 z) mc ms (fun q => B0.size ≤ q)
theorem CT.blind {D : va_G} {B0 : Heap} {av : List Value} {h : AH} : FrameBlind (va_Pc av (fun U => Rel D B0 U.heap h ∧ KF D B0 U)) :=
  fun a U g mk q => ⟨q.1, q.2.1, KF.same (u := U) (U := U.calling g mk a) rfl q.2.2⟩
theorem g_run {p : Program} {l : Launch} {e : Env} {R : Room} {s : State} {m : MethodId} {args : Array Value} {below : List Frame} {meth : Method} {c : Code} {H : Heap} {locs : List Loc} {cells slots : Nat} {Q : State → Prop} {pc : Nat} {ls : Array Slot} {rest st0 : List Value} {a : Array Value} {D : va_G} {B0 : Heap} {z : Option TV × AH} {mc' ms' : Nat}
    (hr : va_Run p l e R s m args below meth c H locs cells slots mc' ms' (F0 m pc ls st0) rest (Qz D B0 z a) (fun q => B0.size ≤ q)) (hL : ∀ q ∈ locs, B0.size ≤ q.base)
    (kk : ∀ (H1 : Heap) (locs1 : List Loc), Rel D B0 H1 z.2 → (∀ q ∈ locs1, B0.size ≤ q.base) → W p l e R s m args below meth c H1 locs1 (cells + mc') (slots + ms') Q (F0 m (pc + 3) ls ((z.1.map vOf).toList ++ rest))) :
    W p l e R s m args below meth c H locs cells slots Q (F0 m pc ls st0) := by
  intro T hT X
  obtain ⟨v, st₀, t, T', L, h0, X', hLL, e1, e2, ⟨hv, hrel⟩, st⟩ := hr T hT X
  have hv' : v = z.1.map vOf := Outcome.returned.inj hv
  subst hv'
  obtain ⟨t2, a1, b1⟩ := kk T'.heap (locs ++ L) (by rw [e1]; exact hrel) (fun q hq => by
    rcases List.mem_append.mp hq with h | h
    · exact hL q h
    · exact hLL q h) T' rfl X'
  exact ⟨t2, st t2 a1, b1⟩
theorem toList_map (o : Option TV) (rest : List TV) : (o.map vOf).toList ++ rest.map vOf = (o.toList ++ rest).map vOf := by
  cases o <;> rfl
section GCALL
variable {K : KT} {z : Option TV × AH} {cells slots pc : Nat} {lv : List (Nat × TV)} {st : List TV} {h : AH} {cc : ByteArray} {own : String} {Ts : List Cond} {ret : Option FieldType} {nm : String} {R0 : Room} {n0 m0 s0 : Nat}
theorem g_callV {α β : Type} {f : Option α} {F : α → Option β} {w : β} (X : CX K cc own Ts ret nm R0 n0 m0 s0) {k : Nat} {r : Option Nat} (hf : (ck k h r f).bind F = some w)
    {y : MethodName} {ws ws' : List Cond} {bytes : ByteArray} {maxL n d' mc' ms' index : Nat} {rt : Option FieldType} {av rest st0 : List TV} {C : String} {T : u_T} {N : Nat} (wr : α → Option TV × AH)
    (hc : ∀ v, f = some v → CT y ws (rmD d' mc' ms') mc' ms' (tR r :: av) h (wr v)) (hG : GoodIn Ts (wsV own index C y ws)) (hw : ws = Cond.code y bytes maxL rt :: ws')
    (hd : y.cls = C ∧ y.cls ≠ "java/lang/invoke/MethodHandle" ∧ y.cls ≠ "java/lang/invoke/VarHandle" ∧ (parseMethodDescriptor y.desc).map (fun d => d.parameters.length) = some n) (hcl : vwCl[k]? = some (C, T, N)) (hk : k < 99) (hn : av.length = n)
    (hRm : d' + 1 ≤ R0.frames ∧ 8 + (maxL + 11) + 100 * d' ≤ R0.locals) (hcs : cells + mc' ≤ R0.cells ∧ slots + ms' ≤ R0.slots) (hst : st0 = av.reverse ++ tR r :: rest) (hwd : (rest.map wOf).sum ≤ 8) (d : decode cc pc = .ok (.invokevirtual index, 3))
    (kk : ∀ v, F v = some w → GG K z (cells + mc') (slots + ms') (pc + 3) lv ((wr v).1.toList ++ rest) (wr v).2) : GG K z cells slots pc lv st0 h := by
  obtain ⟨p, l, e, R, s, m, args, below, meth, c, D, B0, nL, mc, ms⟩ := K
  obtain ⟨hx, hb, hml, hown, hts, hret, hlk, hK, hnm, hR0, hn0, hm0, hs0⟩ := X
  intro H locs ls hR hL hv
  obtain ⟨v, hv1, hv2⟩ := Option.bind_eq_some_iff.mp hf
  obtain ⟨b, rfl, hkb, hf1⟩ := ck_spec hv1
  subst hR0
  obtain ⟨ho, -⟩ := hR.2.2.2.2 b (by rw [hkb]; omega)
  obtain ⟨r', h1, h2, cell, q1, q2, q3, q4⟩ := ho.1 (by rw [hkb]; omega)
  rw [hkb] at h1 q2
  have hfc : s.vm.findClass C = some (D.1 k) := (hK.1 k _ hcl).2.1
  refine g_run (a := (Value.ref b :: av.map vOf).toArray) (rest := rest.map vOf) (z := wr v) (mc' := mc') (ms' := ms') (va_runV (As := av.map vOf) (rest := rest.map vOf) (n := n) ⟨hx, hb, hml, hown, hts⟩ (hc v hf1 l D B0) (cwV n hts hG hw rfl rfl hd hRm) ⟨CT.blind, ⟨cell, q1, by rw [q3]; rfl, by rw [hfc, q2]⟩, fun U hU hW => ⟨rfl, by rw [hU]; exact hR, hK.moved hW⟩⟩ rfl (by rw [List.length_map]; exact hn) hv.1 ?_ (lv_room (by rw [vOf_sum]; exact hwd)) d hcs) hL (fun H1 locs1 hR1 hL1 => ?_)
  · subst hst
    show List.map vOf (av.reverse ++ tR (some b) :: rest) = _
    rw [List.map_append, List.map_reverse]; rfl
  · rw [toList_map]
    exact kk v hv2 H1 locs1 ls hR1 hL1 hv
theorem g_callS {α β : Type} {f : Option α} {F : α → Option β} {w : β} (X : CX K cc own Ts ret nm R0 n0 m0 s0) (hf : f.bind F = some w)
    {y : MethodName} {ws ws' : List Cond} {bytes : ByteArray} {maxL n d' mc' ms' index : Nat} {rt : Option FieldType} {av rest st0 : List TV} (wr : α → Option TV × AH)
    (hc : ∀ v, f = some v → CT y ws (rmD d' mc' ms') mc' ms' av h (wr v)) (hG : GoodIn Ts (va_wsS own index y ws)) (hw : ws = Cond.code y bytes maxL rt :: ws')
    (hd : y.cls ≠ "java/lang/invoke/MethodHandle" ∧ y.cls ≠ "java/lang/invoke/VarHandle" ∧ (parseMethodDescriptor y.desc).map (fun d => d.parameters.length) = some n) (hn : av.length = n)
    (hRm : d' + 1 ≤ R0.frames ∧ 8 + (maxL + 11) + 100 * d' ≤ R0.locals) (hcs : cells + mc' ≤ R0.cells ∧ slots + ms' ≤ R0.slots) (hst : st0 = av.reverse ++ rest) (hwd : (rest.map wOf).sum ≤ 8) (d : decode cc pc = .ok (.invokestatic index, 3))
    (kk : ∀ v, F v = some w → GG K z (cells + mc') (slots + ms') (pc + 3) lv ((wr v).1.toList ++ rest) (wr v).2) : GG K z cells slots pc lv st0 h := by
  obtain ⟨p, l, e, R, s, m, args, below, meth, c, D, B0, nL, mc, ms⟩ := K
  obtain ⟨hx, hb, hml, hown, hts, hret, hlk, hK, hnm, hR0, hn0, hm0, hs0⟩ := X
  intro H locs ls hR hL hv
  obtain ⟨v, hf1, hv2⟩ := Option.bind_eq_some_iff.mp hf
  subst hR0
  refine g_run (a := (av.map vOf).toArray) (rest := rest.map vOf) (z := wr v) (mc' := mc') (ms' := ms') (va_runS (As := av.map vOf) (rest := rest.map vOf) (n := n) ⟨hx, hb, hml, hown, hts⟩ (hc v hf1 l D B0) (va_cwS n hts hG hw rfl rfl hd hRm) ⟨CT.blind, fun U hU hW => ⟨rfl, by rw [hU]; exact hR, hK.moved hW⟩⟩ rfl (by rw [List.length_map]; exact hn) hv.1 ?_ (lv_room (by rw [vOf_sum]; exact hwd)) d hcs) hL (fun H1 locs1 hR1 hL1 => ?_)
  · subst hst
    show List.map vOf (av.reverse ++ rest) = _
    rw [List.map_append, List.map_reverse]
  · rw [toList_map]
    exact kk v hv2 H1 locs1 ls hR1 hL1 hv
-- ===== returns =====
theorem g_ireturn (X : CX K cc own Ts (some .int) nm R0 n0 m0 s0) {x : Int32} (hz : z = (some (tI x), h)) (hc : cells ≤ m0) (hs : slots ≤ s0) (d : decode cc pc = .ok (.ireturn, 1)) : GG K z cells slots pc lv [tI x] h := by
  obtain ⟨p, l, e, R, s, m, args, below, meth, c, D, B0, nL, mc, ms⟩ := K
  obtain ⟨hx, hb, hml, hown, hts, hret, hlk, hK, hnm, hR0, hn0, hm0, hs0⟩ := X
  intro H locs ls hR hL hv
  subst hm0; subst hs0; subst hz
  refine W.widen hc hs ?_
  exact W.iret (v := x) hx hb hret (fun t ht _ => ⟨rfl, by rw [ht]; exact hR⟩) hL d hlk
theorem g_zreturn (X : CX K cc own Ts (some .boolean) nm R0 n0 m0 s0) {x : Int32} (hz : z = (some (tI x), h)) (hn : narrow .boolean (.int x) = .int x) (hc : cells ≤ m0) (hs : slots ≤ s0) (d : decode cc pc = .ok (.ireturn, 1)) : GG K z cells slots pc lv [tI x] h := by
  obtain ⟨p, l, e, R, s, m, args, below, meth, c, D, B0, nL, mc, ms⟩ := K
  obtain ⟨hx, hb, hml, hown, hts, hret, hlk, hK, hnm, hR0, hn0, hm0, hs0⟩ := X
  intro H locs ls hR hL hv
  subst hm0; subst hs0; subst hz
  refine W.widen hc hs ?_
  exact W.zret (v := x) hx hb hret hn (fun t ht _ => ⟨rfl, by rw [ht]; exact hR⟩) hL d hlk
theorem g_vreturn (X : CX K cc own Ts none nm R0 n0 m0 s0) (hz : z = (none, h)) (hc : cells ≤ m0) (hs : slots ≤ s0) (d : decode cc pc = .ok (.return_, 1)) : GG K z cells slots pc lv [] h := by
  obtain ⟨p, l, e, R, s, m, args, below, meth, c, D, B0, nL, mc, ms⟩ := K
  obtain ⟨hx, hb, hml, hown, hts, hret, hlk, hK, hnm, hR0, hn0, hm0, hs0⟩ := X
  intro H locs ls hR hL hv
  subst hm0; subst hs0; subst hz
  refine W.widen hc hs ?_
  exact W.vret hx hb hret (fun t ht _ => ⟨rfl, by rw [ht]; exact hR⟩) hL d hlk
end GCALL
/-- the arguments as locals -/
def ent : Nat → List TV → List (Nat × TV)
  | _, [] => []
  | i, v :: vs => (i, v) :: ent (if wOf v = 2 then i + 2 else i + 1) vs
theorem ent_map (vs : List TV) : ∀ i, (ent i vs).map (fun q => (q.1, vOf q.2)) = lv_args i (vs.map vOf) := by
  induction vs with
  | nil => intro i; rfl
  | cons v vs ih =>
    intro i
    show (i, vOf v) :: (ent _ vs).map _ = (i, vOf v) :: lv_args _ _
    rw [ih, vOf_cat]
/-- a contract out of the walk from the entry -/
theorem CT.of {y : MethodName} {rm : Room} {mc ms : Nat} {av : List TV} {h : AH} {z : Option TV × AH} {cc : ByteArray} {nL : Nat} {ret : Option FieldType} (hy : plainName y.cls = true) (hl : (lg_sl (av.map vOf)).length ≤ nL)
    (body : ∀ K : KT, CX K cc y.cls TB ret y.name rm nL mc ms → GG K z 0 0 0 (ent 0 av) [] h) : CT y (wU y cc nL ret) rm mc ms av h z := by
  intro l D B0
  refine Met.ofW (cc := cc) (maxL := nL) (ret := ret) hy rfl ?_
  intro p e s m args below meth c s₁ B hml hv
  obtain ⟨rfl, hR, hK⟩ := hv
  have hts := atoms_spec (ws := wU y cc nL ret) B.pre
  have hown : s.vm.findClass y.cls = some m.cls := findClass_of_methodNamed B.named
  have hnm : meth.name = y.name := (name_of_methodNamed B.named B.method).1
  have k := body (p, l, e, rm, s, m, (av.map vOf).toArray, below, meth, c, D, B0, nL, mc, ms) ⟨B.exec, B.bytes, hml, hown, fun w hw => hts w (List.mem_cons_of_mem _ hw), B.returns, B.notSynchronized, hK, hnm, rfl, rfl, rfl, rfl⟩
  rw [lg_entry_eq]
  refine k s.heap [] _ hR (fun q hq => by cases hq) ?_
  show lv_has _ nL ((ent 0 av).map fun q => (q.1, vOf q.2))
  rw [ent_map]
  exact lv_entry (av.map vOf) hl
theorem g_widen {K : KT} {z : Option TV × AH} {cells slots pc k n : Nat} {lv : List (Nat × TV)} {st : List TV} {h : AH} (h1 : cells ≤ k) (h2 : slots ≤ n) (kk : GG K z k n pc lv st h) : GG K z cells slots pc lv st h := by
  obtain ⟨p, l, e, R, s, m, args, below, meth, c, D, B0, nL, mc, ms⟩ := K
  exact fun H locs ls hR hL hv => W.widen h1 h2 (kk H locs ls hR hL hv)
