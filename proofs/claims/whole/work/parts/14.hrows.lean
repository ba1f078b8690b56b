def FU : Nat := 4000
def iRem (x y : Int32) : Int32 := x - x / y * y
/-- a boolean answer is 0 or 1 -/
def rZ (x : Int32) : Option Int32 := if x = 0 ∨ x = 1 then some x else none
theorem rZ_spec {x w : Int32} (h : rZ x = some w) : x = w ∧ (x = 0 ∨ x = 1) := by
  unfold rZ at h
  split at h
  · rename_i q
    exact ⟨Option.some.inj h, q⟩
  · cases h
theorem nar_z {x : Int32} (h : x = 0 ∨ x = 1) : narrow .boolean (.int x) = .int x := by
  rcases h with rfl | rfl <;> decide
theorem fit_z {x : Int32} (h : x = 0 ∨ x = 1) : fits .boolean (.int x) = true := by
  rcases h with rfl | rfl <;> decide
theorem nar_r {ty : FieldType} (h : ty.isReference = true) (r : Option Nat) : narrow ty (vOf (tR r)) = vOf (tR r) ∧ fits ty (vOf (tR r)) = true := by
  cases ty <;> first | (cases h; done) | (cases r <;> exact ⟨rfl, rfl⟩)
theorem tab_out {x lo hi : Int32} (h : x < lo ∨ hi < x) : x.toInt < lo.toInt ∨ hi.toInt < x.toInt := by
  rcases h with h | h
  · exact Or.inl (Int32.lt_iff_toInt_lt.mp h)
  · exact Or.inr (Int32.lt_iff_toInt_lt.mp h)
section GHEAP
variable {K : KT} {z : Option TV × AH} {cells slots pc : Nat} {lv : List (Nat × TV)} {st : List TV} {h : AH} {cc : ByteArray} {own : String} {Ts : List Cond} {ret : Option FieldType} {nm : String} {R0 : Room} {n0 m0 s0 : Nat}
theorem g_idivc (X : CX K cc own Ts ret nm R0 n0 m0 s0) {x y : Int32} (d : decode cc pc = .ok (.idiv, 1)) (hy : ¬ y = 0) (kk : GG K z cells slots (pc + 1) lv (tI (x / y) :: st) h) : GG K z cells slots pc lv (tI y :: tI x :: st) h := by
  obtain ⟨p, l, e, R, s, m, args, below, meth, c, D, B0, nL, mc, ms⟩ := K
  obtain ⟨hx, hb, hml, hown, hts, hret, hlk, hK, hnm, hR0, hn0, hm0, hs0⟩ := X
  intro H locs ls hR hL hv
  exact lv_idiv hx hb d hy (kk H locs ls hR hL hv)
theorem g_iremc (X : CX K cc own Ts ret nm R0 n0 m0 s0) {x y : Int32} (d : decode cc pc = .ok (.irem, 1)) (hy : ¬ y = 0) (kk : GG K z cells slots (pc + 1) lv (tI (iRem x y) :: st) h) : GG K z cells slots pc lv (tI y :: tI x :: st) h := by
  obtain ⟨p, l, e, R, s, m, args, below, meth, c, D, B0, nL, mc, ms⟩ := K
  obtain ⟨hx, hb, hml, hown, hts, hret, hlk, hK, hnm, hR0, hn0, hm0, hs0⟩ := X
  intro H locs ls hR hL hv
  exact lv_irem hx hb d hy (kk H locs ls hR hL hv)
theorem g_zreturn2 (X : CX K cc own Ts (some .boolean) nm R0 n0 m0 s0) {x w : Int32} (hf : rZ x = some w) (hc : cells ≤ m0) (hs : slots ≤ s0) (d : decode cc pc = .ok (.ireturn, 1)) : GG K (some (tI w), h) cells slots pc lv [tI x] h := by
  obtain ⟨h1, h2⟩ := rZ_spec hf
  subst h1
  exact g_zreturn X rfl (nar_z h2) hc hs d
theorem g_get0 (X : CX K cc own Ts ret nm R0 n0 m0 s0) {k j : Nat} {C : String} {T : u_T} {N : Nat} (hc : vwCl[k]? = some (C, T, N)) (hk : k < 99) (hj : j < N) (hin : ∀ w ∈ u_ws C T N, w ∈ Ts) {index : Nat} {ref : String} (hlk : Cond.fieldLink own index ref (T j).2.1 (T j).2.2.1 ∈ Ts) (href : ref = (T j).1)
    {a : Nat} (ha : (h.2.1 a).1 = k) {v : TV} (hval : (h.2.1 a).2.2 j = vOf v) (d : decode cc pc = .ok (.getfield index, 3)) (kk : GG K z cells slots (pc + 3) lv (v :: st) h) : GG K z cells slots pc lv (tR (some a) :: st) h := by
  obtain ⟨p, l, e, R, s, m, args, below, meth, c, D, B0, nL, mc, ms⟩ := K
  obtain ⟨hx, hb, hml, hown, hts, hret, hlk', hK, hnm, hR0, hn0, hm0, hs0⟩ := X
  intro H locs ls hR hL hv
  obtain ⟨ho, -⟩ := hR.2.2.2.2 a (by rw [ha]; omega)
  obtain ⟨r', h1, h2, cell, q1, q2, q3, q4⟩ := ho.1 (by rw [ha]; omega)
  rw [ha] at h1 q2 q4
  have hr' : r' = (C, T, N) := Option.some.inj (h1.symm.trans hc)
  subst hr'
  obtain ⟨hS, hfc, kC, hkC, hkind⟩ := hK.1 k _ hc
  obtain ⟨cf, kf, fi, f, hi, hsl⟩ := hS j hj
  subst href
  refine W.getf hx hb hown (hts _ hlk) hi (u_facts hfc hkC (u_lays hts hin hj) hi).1 q1 (by rw [q3]; exact fun h => by cases h) (v := vOf v) ?_ rfl rfl d (kk H locs ls hR hL hv)
  rw [hsl, q4 j hj, hval]
theorem g_getI {α : Type} {f : Int32 → Option α} {w : α} (X : CX K cc own Ts ret nm R0 n0 m0 s0) {k j : Nat} {r : Option Nat} (hf : (gI k j h r).bind f = some w) {C : String} {T : u_T} {N : Nat} (hc : vwCl[k]? = some (C, T, N)) (hk : k < 99) (hj : j < N) (hin : ∀ w ∈ u_ws C T N, w ∈ Ts) {index : Nat} {ref : String} (hlk : Cond.fieldLink own index ref (T j).2.1 (T j).2.2.1 ∈ Ts) (href : ref = (T j).1)
    (d : decode cc pc = .ok (.getfield index, 3)) (kk : ∀ v, f v = some w → GG K z cells slots (pc + 3) lv (tI v :: st) h) : GG K z cells slots pc lv (tR r :: st) h := by
  obtain ⟨v, hv1, hv2⟩ := Option.bind_eq_some_iff.mp hf
  obtain ⟨u, hu1, hu2⟩ := Option.bind_eq_some_iff.mp hv1
  obtain ⟨a, rfl, ha, hb⟩ := gF_spec hu1
  exact g_get0 X hc hk hj hin hlk href ha (hb.trans (toI_spec hu2)) d (kk v hv2)
theorem g_getR {α : Type} {f : Option Nat → Option α} {w : α} (X : CX K cc own Ts ret nm R0 n0 m0 s0) {k j : Nat} {r : Option Nat} (hf : (gR k j h r).bind f = some w) {C : String} {T : u_T} {N : Nat} (hc : vwCl[k]? = some (C, T, N)) (hk : k < 99) (hj : j < N) (hin : ∀ w ∈ u_ws C T N, w ∈ Ts) {index : Nat} {ref : String} (hlk : Cond.fieldLink own index ref (T j).2.1 (T j).2.2.1 ∈ Ts) (href : ref = (T j).1)
    (d : decode cc pc = .ok (.getfield index, 3)) (kk : ∀ v, f v = some w → GG K z cells slots (pc + 3) lv (tR v :: st) h) : GG K z cells slots pc lv (tR r :: st) h := by
  obtain ⟨v, hv1, hv2⟩ := Option.bind_eq_some_iff.mp hf
  obtain ⟨u, hu1, hu2⟩ := Option.bind_eq_some_iff.mp hv1
  obtain ⟨a, rfl, ha, hb⟩ := gF_spec hu1
  exact g_get0 X hc hk hj hin hlk href ha (hb.trans (toR_spec hu2)) d (kk v hv2)
theorem g_put0 (X : CX K cc own Ts ret nm R0 n0 m0 s0) {k j : Nat} {C : String} {T : u_T} {N : Nat} (hc : vwCl[k]? = some (C, T, N)) (hk : k < 99) (hj : j < N) (hin : ∀ w ∈ u_ws C T N, w ∈ Ts) (ty0 : Nat → FieldType) (hty : ∀ k, k < N → parseFieldDescriptor (T k).2.2.1 = some (ty0 k)) (hnd : ∀ a, a < N → ∀ b, b < N → a ≠ b → (T a).2.1 ≠ (T b).2.1) {index : Nat} {ref : String} (hlk : Cond.fieldLink own index ref (T j).2.1 (T j).2.2.1 ∈ Ts) (href : ref = (T j).1)
    (hfin : (T j).2.2.2 = false ∨ ((T j).2.2.2 = true ∧ nm = "<init>" ∧ (T j).1 = own)) {a : Nat} (ha : (h.2.1 a).1 = k) {v : TV} (hn : narrow (ty0 j) (vOf v) = vOf v) (hft : fits (ty0 j) (vOf v) = true) (d : decode cc pc = .ok (.putfield index, 3)) (kk : GG K z cells slots (pc + 3) lv st (hput h a j (vOf v))) : GG K z cells slots pc lv (v :: tR (some a) :: st) h := by
  obtain ⟨p, l, e, R, s, m, args, below, meth, c, D, B0, nL, mc, ms⟩ := K
  obtain ⟨hx, hb, hml, hown, hts, hret, hlk', hK, hnm, hR0, hn0, hm0, hs0⟩ := X
  intro H locs ls hR hL hv
  have hKa := hR.2.2.2.2 a (by rw [ha]; omega)
  obtain ⟨ho, hB⟩ := hKa
  obtain ⟨r', h1, h2, cell, q1, q2, q3, q4⟩ := ho.1 (by rw [ha]; omega)
  have hcq : vwCl[(h.2.1 a).1]? = some (C, T, N) := by rw [ha]; exact hc
  have hr' : r' = (C, T, N) := Option.some.inj (h1.symm.trans hcq)
  subst hr'
  obtain ⟨hS, hfc, kC, hkC, hkind⟩ := hK.1 (h.2.1 a).1 _ hcq
  obtain ⟨cf, kf, fi, f, hi, hsl⟩ := hS j hj
  subst href
  have hst := (u_facts hfc hkC (u_lays hts hin hj) hi).1
  have hap : ∀ x y, x < N → y < N → x ≠ y → (D.2 (h.2.1 a).1) x ≠ (D.2 (h.2.1 a).1) y := by
    intro x y hx' hy' hne
    obtain ⟨_, _, _, fa, hia, ea⟩ := hS x hx'
    obtain ⟨_, _, _, fb, hib, eb⟩ := hS y hy'
    rw [← ea, ← eb]
    refine u_apart (u_lays hts hin hx') (u_lays hts hin hy') hia hib ?_
    rw [(State.fieldFound?_type hia (hty x hx')).1, (State.fieldFound?_type hib (hty y hy')).1]
    exact hnd x hx' y hy' hne
  have hfits := u_fits hfc hkC hkind (u_lays hts hin hj) hi (hty j hj) hn hft
  have hfl : hasFlag f.accessFlags Acc.final = false ∨ (m.cls = cf ∧ meth.name = "<init>") := by
    have hlay := hts _ (hin _ (u_in_lay hj))
    rcases hfin with hfin | ⟨hfin, hnm2, hdecl⟩
    · unfold u_lay at hlay
      rw [if_neg (by rw [hfin]; decide)] at hlay
      exact Or.inl (u_store hfc hkC hkind hlay hi (hty j hj) hn hft).1
    · unfold u_lay at hlay
      rw [if_pos hfin] at hlay
      obtain ⟨_, _, c', _, _, _, -, -, hf', -, -, -, hown2, -⟩ := Cond.laysFinal_spec hlay
      have e1 : c' = cf := by have := hi.symm.trans hf'; simp at this; exact this.1.symm
      rw [hdecl] at hown2
      exact Or.inr ⟨by rw [← e1]; exact Option.some.inj (hown.symm.trans hown2), by rw [hnm]; exact hnm2⟩
  have hal : a < H.size := (Array.getElem?_eq_some_iff.mp q1).1
  refine W.putf hx hb hown (hts _ hlk) hi hst hfl q1 (by rw [q3]; exact fun h => by cases h) (by rw [hsl]; exact k2_hasslot (q4 j hj)) hfits.1 (by rw [q2, q3]; exact hfits.2) rfl rfl d ?_
  refine kk _ _ ls ?_ (t_lc hL (hB (by rw [ha]; omega))) hv
  refine hR.upd (by rw [ha]; omega) (by rw [ha]; omega) (by simp) (fun q hq => by simp [Array.getElem?_setIfInBounds, Ne.symm hq]) ?_
  refine ⟨fun _ => ⟨(C, T, N), hcq, h2, cell.setSlot f.slot (vOf v), by simp [Array.getElem?_setIfInBounds, hal], q2, q3, fun x hx' => ?_⟩, fun q => absurd q (by show ¬ 100 ≤ (h.2.1 a).1; rw [ha]; omega), fun q => absurd q (by show ¬ 200 ≤ (h.2.1 a).1; rw [ha]; omega), fun q => absurd q (by show ¬ 310 ≤ (h.2.1 a).1; rw [ha]; omega)⟩
  show (cell.slots.setIfInBounds f.slot (vOf v))[D.2 (h.2.1 a).1 x]? = some (va_up (h.2.1 a).2.2 j (vOf v) x)
  by_cases hxj : x = j
  · subst hxj
    rw [hsl]
    have := k2_hasslot (q4 x hx')
    simp [va_up, this]
  · rw [hsl, Array.getElem?_setIfInBounds_ne (fun q => hap x j hx' hj hxj q.symm)]
    simp only [va_up, if_neg hxj]
    exact q4 x hx'
theorem g_putI {α : Type} {f : AH → Option α} {w : α} (X : CX K cc own Ts ret nm R0 n0 m0 s0) {k j : Nat} {r : Option Nat} {x : Int32} (hf : (pI k j h r x).bind f = some w) {C : String} {T : u_T} {N : Nat} (hc : vwCl[k]? = some (C, T, N)) (hk : k < 99) (hj : j < N) (hin : ∀ w ∈ u_ws C T N, w ∈ Ts) (ty0 : Nat → FieldType) (hty : ∀ k, k < N → parseFieldDescriptor (T k).2.2.1 = some (ty0 k)) (hnd : ∀ a, a < N → ∀ b, b < N → a ≠ b → (T a).2.1 ≠ (T b).2.1) {index : Nat} {ref : String} (hlk : Cond.fieldLink own index ref (T j).2.1 (T j).2.2.1 ∈ Ts) (href : ref = (T j).1)
    (hfin : (T j).2.2.2 = false) (ht : ty0 j = .int) (d : decode cc pc = .ok (.putfield index, 3)) (kk : ∀ h2, f h2 = some w → GG K z cells slots (pc + 3) lv st h2) : GG K z cells slots pc lv (tI x :: tR r :: st) h := by
  obtain ⟨h2, hv1, hv2⟩ := Option.bind_eq_some_iff.mp hf
  obtain ⟨a, rfl, ha, rfl⟩ := pF_spec hv1
  exact g_put0 (v := tI x) X hc hk hj hin ty0 hty hnd hlk href (Or.inl hfin) ha (by rw [ht]; rfl) (by rw [ht]; rfl) d (kk _ hv2)
theorem g_putZ {α : Type} {f : AH → Option α} {w : α} (X : CX K cc own Ts ret nm R0 n0 m0 s0) {k j : Nat} {r : Option Nat} {x : Int32} (hf : (pZ k j h r x).bind f = some w) {C : String} {T : u_T} {N : Nat} (hc : vwCl[k]? = some (C, T, N)) (hk : k < 99) (hj : j < N) (hin : ∀ w ∈ u_ws C T N, w ∈ Ts) (ty0 : Nat → FieldType) (hty : ∀ k, k < N → parseFieldDescriptor (T k).2.2.1 = some (ty0 k)) (hnd : ∀ a, a < N → ∀ b, b < N → a ≠ b → (T a).2.1 ≠ (T b).2.1) {index : Nat} {ref : String} (hlk : Cond.fieldLink own index ref (T j).2.1 (T j).2.2.1 ∈ Ts) (href : ref = (T j).1)
    (hfin : (T j).2.2.2 = false) (ht : ty0 j = .boolean) (d : decode cc pc = .ok (.putfield index, 3)) (kk : ∀ h2, f h2 = some w → GG K z cells slots (pc + 3) lv st h2) : GG K z cells slots pc lv (tI x :: tR r :: st) h := by
  obtain ⟨h2, hv1, hv2⟩ := Option.bind_eq_some_iff.mp hf
  unfold pZ at hv1
  split at hv1
  · rename_i q
    obtain ⟨a, rfl, ha, rfl⟩ := pF_spec hv1
    exact g_put0 (v := tI x) X hc hk hj hin ty0 hty hnd hlk href (Or.inl hfin) ha (by rw [ht]; exact nar_z q) (by rw [ht]; exact fit_z q) d (kk _ hv2)
  · cases hv1
theorem g_putR {α : Type} {f : AH → Option α} {w : α} (X : CX K cc own Ts ret nm R0 n0 m0 s0) {k j : Nat} {r x : Option Nat} (hf : (pR k j h r x).bind f = some w) {C : String} {T : u_T} {N : Nat} (hc : vwCl[k]? = some (C, T, N)) (hk : k < 99) (hj : j < N) (hin : ∀ w ∈ u_ws C T N, w ∈ Ts) (ty0 : Nat → FieldType) (hty : ∀ k, k < N → parseFieldDescriptor (T k).2.2.1 = some (ty0 k)) (hnd : ∀ a, a < N → ∀ b, b < N → a ≠ b → (T a).2.1 ≠ (T b).2.1) {index : Nat} {ref : String} (hlk : Cond.fieldLink own index ref (T j).2.1 (T j).2.2.1 ∈ Ts) (href : ref = (T j).1)
    (hfin : (T j).2.2.2 = false) (ht : (ty0 j).isReference = true) (d : decode cc pc = .ok (.putfield index, 3)) (kk : ∀ h2, f h2 = some w → GG K z cells slots (pc + 3) lv st h2) : GG K z cells slots pc lv (tR x :: tR r :: st) h := by
  obtain ⟨h2, hv1, hv2⟩ := Option.bind_eq_some_iff.mp hf
  obtain ⟨a, rfl, ha, rfl⟩ := pF_spec hv1
  exact g_put0 (v := tR x) X hc hk hj hin ty0 hty hnd hlk href (Or.inl hfin) ha (nar_r ht x).1 (nar_r ht x).2 d (kk _ hv2)
theorem g_putFI {α : Type} {f : AH → Option α} {w : α} (X : CX K cc own Ts ret nm R0 n0 m0 s0) {k j : Nat} {r : Option Nat} {x : Int32} (hf : (pI k j h r x).bind f = some w) {C : String} {T : u_T} {N : Nat} (hc : vwCl[k]? = some (C, T, N)) (hk : k < 99) (hj : j < N) (hin : ∀ w ∈ u_ws C T N, w ∈ Ts) (ty0 : Nat → FieldType) (hty : ∀ k, k < N → parseFieldDescriptor (T k).2.2.1 = some (ty0 k)) (hnd : ∀ a, a < N → ∀ b, b < N → a ≠ b → (T a).2.1 ≠ (T b).2.1) {index : Nat} {ref : String} (hlk : Cond.fieldLink own index ref (T j).2.1 (T j).2.2.1 ∈ Ts) (href : ref = (T j).1)
    (hfin : (T j).2.2.2 = true) (hini : nm = "<init>") (hdc : (T j).1 = own) (ht : ty0 j = .int) (d : decode cc pc = .ok (.putfield index, 3)) (kk : ∀ h2, f h2 = some w → GG K z cells slots (pc + 3) lv st h2) : GG K z cells slots pc lv (tI x :: tR r :: st) h := by
  obtain ⟨h2, hv1, hv2⟩ := Option.bind_eq_some_iff.mp hf
  obtain ⟨a, rfl, ha, rfl⟩ := pF_spec hv1
  exact g_put0 (v := tI x) X hc hk hj hin ty0 hty hnd hlk href (Or.inr ⟨hfin, hini, hdc⟩) ha (by rw [ht]; rfl) (by rw [ht]; rfl) d (kk _ hv2)
theorem g_putFR {α : Type} {f : AH → Option α} {w : α} (X : CX K cc own Ts ret nm R0 n0 m0 s0) {k j : Nat} {r x : Option Nat} (hf : (pR k j h r x).bind f = some w) {C : String} {T : u_T} {N : Nat} (hc : vwCl[k]? = some (C, T, N)) (hk : k < 99) (hj : j < N) (hin : ∀ w ∈ u_ws C T N, w ∈ Ts) (ty0 : Nat → FieldType) (hty : ∀ k, k < N → parseFieldDescriptor (T k).2.2.1 = some (ty0 k)) (hnd : ∀ a, a < N → ∀ b, b < N → a ≠ b → (T a).2.1 ≠ (T b).2.1) {index : Nat} {ref : String} (hlk : Cond.fieldLink own index ref (T j).2.1 (T j).2.2.1 ∈ Ts) (href : ref = (T j).1)
    (hfin : (T j).2.2.2 = true) (hini : nm = "<init>") (hdc : (T j).1 = own) (ht : (ty0 j).isReference = true) (d : decode cc pc = .ok (.putfield index, 3)) (kk : ∀ h2, f h2 = some w → GG K z cells slots (pc + 3) lv st h2) : GG K z cells slots pc lv (tR x :: tR r :: st) h := by
  obtain ⟨h2, hv1, hv2⟩ := Option.bind_eq_some_iff.mp hf
  obtain ⟨a, rfl, ha, rfl⟩ := pF_spec hv1
  exact g_put0 (v := tR x) X hc hk hj hin ty0 hty hnd hlk href (Or.inr ⟨hfin, hini, hdc⟩) ha (nar_r ht x).1 (nar_r ht x).2 d (kk _ hv2)
theorem g_iaload {α : Type} {f : Int32 → Option α} {w : α} (X : CX K cc own Ts ret nm R0 n0 m0 s0) {r : Option Nat} {i : Int32} (hf : (aI h r i).bind f = some w) (d : decode cc pc = .ok (.iaload, 1)) (kk : ∀ v, f v = some w → GG K z cells slots (pc + 1) lv (tI v :: st) h) : GG K z cells slots pc lv (tI i :: tR r :: st) h := by
  obtain ⟨p, l, e, R, s, m, args, below, meth, c, D, B0, nL, mc, ms⟩ := K
  obtain ⟨hx, hb, hml, hown, hts, hret, hlk, hK, hnm, hR0, hn0, hm0, hs0⟩ := X
  intro H locs ls hR hL hv
  obtain ⟨v, hv1, hv2⟩ := Option.bind_eq_some_iff.mp hf
  obtain ⟨u, hu1, hu2⟩ := Option.bind_eq_some_iff.mp hv1
  obtain ⟨a, rfl, ha, hi, hu⟩ := aV_spec hu1
  obtain ⟨g1, g2, g3⟩ := kInt_aty ha
  obtain ⟨cell, q1, q2, q3, q4, q5, q6⟩ := (hR.2.2.2.2 a g3).1.arr g1
  have harr := arrOf hK g1 q2 q3
  rw [g2] at harr
  exact W.iald (v := .int v) hx hb q1 harr q4 (by rw [q5]; exact hi) (by rw [q6 _ (Nat.not_le.mp fun q => hi (Or.inr q)), hu, toI_spec hu2]; rfl) rfl rfl d (kk v hv2 H locs ls hR hL hv)
theorem g_baload {α : Type} {f : Int32 → Option α} {w : α} (X : CX K cc own Ts ret nm R0 n0 m0 s0) {r : Option Nat} {i : Int32} (hf : (aZ h r i).bind f = some w) (d : decode cc pc = .ok (.baload, 1)) (kk : ∀ v, f v = some w → GG K z cells slots (pc + 1) lv (tI v :: st) h) : GG K z cells slots pc lv (tI i :: tR r :: st) h := by
  obtain ⟨p, l, e, R, s, m, args, below, meth, c, D, B0, nL, mc, ms⟩ := K
  obtain ⟨hx, hb, hml, hown, hts, hret, hlk, hK, hnm, hR0, hn0, hm0, hs0⟩ := X
  intro H locs ls hR hL hv
  obtain ⟨v, hv1, hv2⟩ := Option.bind_eq_some_iff.mp hf
  obtain ⟨u, hu1, hu2⟩ := Option.bind_eq_some_iff.mp hv1
  obtain ⟨a, rfl, ha, hi, hu⟩ := aV_spec hu1
  have ha : (h.2.1 a).1 = 101 := by simpa using ha
  obtain ⟨cell, q1, q2, q3, q4, q5, q6⟩ := (hR.2.2.2.2 a (by omega)).1.arr (by omega)
  have harr := arrOf hK (by omega) q2 q3
  rw [ha] at harr
  exact W.zald (v := .int v) hx hb q1 harr q4 (by rw [q5]; exact hi) (by rw [q6 _ (Nat.not_le.mp fun q => hi (Or.inr q)), hu, toI_spec hu2]; rfl) rfl rfl d (kk v hv2 H locs ls hR hL hv)
theorem g_aaload {α : Type} {f : Option Nat → Option α} {w : α} (X : CX K cc own Ts ret nm R0 n0 m0 s0) {r : Option Nat} {i : Int32} (hf : (aR h r i).bind f = some w) (d : decode cc pc = .ok (.aaload, 1)) (kk : ∀ v, f v = some w → GG K z cells slots (pc + 1) lv (tR v :: st) h) : GG K z cells slots pc lv (tI i :: tR r :: st) h := by
  obtain ⟨p, l, e, R, s, m, args, below, meth, c, D, B0, nL, mc, ms⟩ := K
  obtain ⟨hx, hb, hml, hown, hts, hret, hlk, hK, hnm, hR0, hn0, hm0, hs0⟩ := X
  intro H locs ls hR hL hv
  obtain ⟨v, hv1, hv2⟩ := Option.bind_eq_some_iff.mp hf
  obtain ⟨u, hu1, hu2⟩ := Option.bind_eq_some_iff.mp hv1
  obtain ⟨a, rfl, ha, hi, hu⟩ := aV_spec hu1
  obtain ⟨g1, g2, g3, g4⟩ := kRef_aty ha
  obtain ⟨cell, q1, q2, q3, q4, q5, q6⟩ := (hR.2.2.2.2 a g3).1.arr g1
  exact W.aald (v := vOf (tR v)) hx hb q1 (arrOf hK g1 q2 q3) g2 q4 (by rw [q5]; exact hi) (by rw [q6 _ (Nat.not_le.mp fun q => hi (Or.inr q)), hu, toR_spec hu2]) rfl rfl d (kk v hv2 H locs ls hR hL hv)
theorem g_alen {α : Type} {f : Int32 → Option α} {w : α} (X : CX K cc own Ts ret nm R0 n0 m0 s0) {r : Option Nat} (hf : (aL h r).bind f = some w) (d : decode cc pc = .ok (.arraylength, 1)) (kk : ∀ v, f v = some w → GG K z cells slots (pc + 1) lv (tI v :: st) h) : GG K z cells slots pc lv (tR r :: st) h := by
  obtain ⟨p, l, e, R, s, m, args, below, meth, c, D, B0, nL, mc, ms⟩ := K
  obtain ⟨hx, hb, hml, hown, hts, hret, hlk, hK, hnm, hR0, hn0, hm0, hs0⟩ := X
  intro H locs ls hR hL hv
  obtain ⟨v, hv1, hv2⟩ := Option.bind_eq_some_iff.mp hf
  obtain ⟨a, rfl, ha, hn⟩ := aL_spec hv1
  obtain ⟨cell, q1, q2, q3, q4, q5, q6⟩ := (hR.2.2.2.2 a (by omega)).1.arr ha
  exact W.alen (n := v) hx hb q1 (arrOf hK ha q2 q3) (by rw [q5]; exact hn) rfl rfl d (kk v hv2 H locs ls hR hL hv)
theorem g_iastore {α : Type} {f : AH → Option α} {w : α} (X : CX K cc own Ts ret nm R0 n0 m0 s0) {r : Option Nat} {i x : Int32} (hf : (sI h r i x).bind f = some w) (d : decode cc pc = .ok (.iastore, 1)) (kk : ∀ h2, f h2 = some w → GG K z cells slots (pc + 1) lv st h2) : GG K z cells slots pc lv (tI x :: tI i :: tR r :: st) h := by
  obtain ⟨p, l, e, R, s, m, args, below, meth, c, D, B0, nL, mc, ms⟩ := K
  obtain ⟨hx, hb, hml, hown, hts, hret, hlk, hK, hnm, hR0, hn0, hm0, hs0⟩ := X
  intro H locs ls hR hL hv
  obtain ⟨h2, hv1, hv2⟩ := Option.bind_eq_some_iff.mp hf
  obtain ⟨a, rfl, ha, hi, rfl⟩ := aS_spec hv1
  have ha : (h.2.1 a).1 = 100 := by simpa using ha
  have hRa := hR.2.2.2.2 a (by omega)
  have q1 := hRa.1.2.1 (by omega) (by omega)
  have harr := arrOf (cell := arrV (D.1 (h.2.1 a).1) (h.2.1 a).2.1 (h.2.1 a).2.2) hK (k := (h.2.1 a).1) (by omega) rfl (fun _ h => by cases h)
  have q4 : (arrV (D.1 (h.2.1 a).1) (h.2.1 a).2.1 (h.2.1 a).2.2).vm ≠ .unknown := fun h => by cases h
  have q5 := arrV_size (D.1 (h.2.1 a).1) (h.2.1 a).2.1 (h.2.1 a).2.2
  rw [show aty (h.2.1 a).1 = .int by rw [ha]; rfl] at harr
  refine W.iast hx hb q1 harr q4 (by rw [q5]; exact hi) rfl rfl d fun H' e1 e2 e3 => ?_
  refine kk _ hv2 H' _ ls ?_ (t_lc hL (hRa.2 (by omega))) hv
  exact hR.upd (by omega) (by omega) e2 e3 (hOb.setA (by omega) e1)
theorem g_bastore {α : Type} {f : AH → Option α} {w : α} (X : CX K cc own Ts ret nm R0 n0 m0 s0) {r : Option Nat} {i x : Int32} (hf : (sZ h r i x).bind f = some w) (d : decode cc pc = .ok (.bastore, 1)) (kk : ∀ h2, f h2 = some w → GG K z cells slots (pc + 1) lv st h2) : GG K z cells slots pc lv (tI x :: tI i :: tR r :: st) h := by
  obtain ⟨p, l, e, R, s, m, args, below, meth, c, D, B0, nL, mc, ms⟩ := K
  obtain ⟨hx, hb, hml, hown, hts, hret, hlk, hK, hnm, hR0, hn0, hm0, hs0⟩ := X
  intro H locs ls hR hL hv
  obtain ⟨h2, hv1, hv2⟩ := Option.bind_eq_some_iff.mp hf
  obtain ⟨a, rfl, ha, hi, rfl⟩ := aS_spec hv1
  have ha : (h.2.1 a).1 = 101 := by simpa using ha
  have hRa := hR.2.2.2.2 a (by omega)
  have q1 := hRa.1.2.1 (by omega) (by omega)
  have harr := arrOf (cell := arrV (D.1 (h.2.1 a).1) (h.2.1 a).2.1 (h.2.1 a).2.2) hK (k := (h.2.1 a).1) (by omega) rfl (fun _ h => by cases h)
  have q4 : (arrV (D.1 (h.2.1 a).1) (h.2.1 a).2.1 (h.2.1 a).2.2).vm ≠ .unknown := fun h => by cases h
  have q5 := arrV_size (D.1 (h.2.1 a).1) (h.2.1 a).2.1 (h.2.1 a).2.2
  rw [show aty (h.2.1 a).1 = .boolean by rw [ha]; rfl] at harr
  refine W.zast hx hb q1 harr q4 (by rw [q5]; exact hi) rfl rfl d fun H' e1 e2 e3 => ?_
  have e1 : H'[a]? = some ((arrV (D.1 (h.2.1 a).1) (h.2.1 a).2.1 (h.2.1 a).2.2).setSlot i.toNatClampNeg (.int (x &&& 1))) := e1
  refine kk _ hv2 H' _ ls ?_ (t_lc hL (hRa.2 (by omega))) hv
  exact hR.upd (by omega) (by omega) e2 e3 (hOb.setA (by omega) e1)
theorem g_gets (j : Nat) (hj : j < 5) (X : CX K cc own Ts ret nm R0 n0 m0 s0) {index : Nat} (hlk : Cond.fieldLink own index (sNm j).1 (sNm j).2.1 (sNm j).2.2 ∈ Ts) (d : decode cc pc = .ok (.getstatic index, 3)) (kk : GG K z cells slots (pc + 3) lv (tR (some (h.2.2 j)) :: st) h) : GG K z cells slots pc lv st h := by
  obtain ⟨p, l, e, R, s, m, args, below, meth, c, D, B0, nL, mc, ms⟩ := K
  obtain ⟨hx, hb, hml, hown, hts, hret, hlk', hK, hnm, hR0, hn0, hm0, hs0⟩ := X
  intro H locs ls hR hL hv
  obtain ⟨cf, kf, fi, f, a, cell, h1, h2, h3, h4, h5, h6, h7, h8⟩ := hK.2.2.2.1 j hj
  have ha : a < B0.size := (Array.getElem?_eq_some_iff.mp h5).1
  refine W.gets hx hb hown (hts _ hlk) h1 h2 h3 h4 (by rw [hR.2.2.1 a ha]; exact h5) (fun q => by rw [q] at h6; cases h6) h7 rfl d ?_
  have := kk H locs ls hR hL hv
  rw [hR.2.2.2.1 j] at this
  exact this
theorem g_areturn {ty : FieldType} (hty : (∃ n, ty = .object n) ∨ ∃ t, ty = .array t) (X : CX K cc own Ts (some ty) nm R0 n0 m0 s0) {x : Option Nat} (hz : z = (some (tR x), h)) (hc : cells ≤ m0) (hs : slots ≤ s0) (d : decode cc pc = .ok (.areturn, 1)) : GG K z cells slots pc lv [tR x] h := by
  obtain ⟨p, l, e, R, s, m, args, below, meth, c, D, B0, nL, mc, ms⟩ := K
  obtain ⟨hx, hb, hml, hown, hts, hret, hlk, hK, hnm, hR0, hn0, hm0, hs0⟩ := X
  intro H locs ls hR hL hv
  subst hm0; subst hs0; subst hz
  refine W.widen hc hs ?_
  exact W.aret (v := vOf (tR x)) hx hb hret hty (by cases x; exact Or.inl rfl; exact Or.inr ⟨_, rfl⟩) (fun t ht _ => ⟨rfl, by rw [ht]; exact hR⟩) hL d hlk
end GHEAP
