-- ===== the abstract heap: size, objects by address (kind, length, contents), addresses of static arrays =====
abbrev OB : Type := Nat × Nat × (Nat → Value)
abbrev AH : Type := Nat × (Nat → OB) × (Nat → Nat)
/-- component types of the kinds of arrays (100 to 199: made by the class; from 200 on: only read) -/
def aty (k : Nat) : FieldType := if k = 101 then .boolean else if k = 102 then .array .int else if k = 103 then .object RX1 else if k = 104 then .object RX3 else if k = 105 then .object RX5 else if k = 106 then .object RX7 else if k = 107 then .object RX8 else if k = 108 then .object RX9 else if k = 109 then .object RX10 else if 300 ≤ k then .byte else .int
-- ===== values with their types =====
abbrev TV : Type := Int32 ⊕ Option Nat ⊕ Int64
abbrev tI (x : Int32) : TV := .inl x
abbrev tR (r : Option Nat) : TV := .inr (.inl r)
abbrev tL (x : Int64) : TV := .inr (.inr x)
def vOf : TV → Value
  | .inl x => .int x
  | .inr (.inl none) => .null
  | .inr (.inl (some a)) => .ref a
  | .inr (.inr x) => .long x
def wOf : TV → Nat
  | .inr (.inr _) => 2
  | _ => 1
theorem vOf_cat (t : TV) : (vOf t).category = wOf t := by
  rcases t with x | (_ | a) | x <;> rfl
theorem vOf_sum (st : List TV) : ((st.map vOf).map fun v => v.category).sum = (st.map wOf).sum := by
  induction st with
  | nil => rfl
  | cons t st ih => simp only [List.map_cons, List.sum_cons, vOf_cat, ih]
def sio (n : Nat) : Option Nat := if n = 0 then none else some (n - 1)
/-- an object of kind o.1 stands at a: below 100 of a class; to 199 an array that was made; to 309 one that is only read; from 310 on a constant text -/
def hOb (D : va_G) (H : Heap) (a : Nat) (o : OB) : Prop :=
  (o.1 < 100 → ∃ r : vw_C, vwCl[o.1]? = some r ∧ o.2.1 = r.2.2 ∧ t_OB a (D.1 o.1) r.2.2 (D.2 o.1) H o.2.2) ∧
  (100 ≤ o.1 → o.1 < 200 → H[a]? = some (arrV (D.1 o.1) o.2.1 o.2.2)) ∧
  (200 ≤ o.1 → o.1 < 310 → ∃ cell : Cell, H[a]? = some cell ∧ cell.cls = D.1 o.1 ∧ (∀ q, cell.vm ≠ .statics q) ∧ cell.vm ≠ .unknown ∧ cell.slots.size = o.2.1 ∧ ∀ j, j < o.2.1 → cell.slots[j]? = some (o.2.2 j)) ∧
  (310 ≤ o.1 → a < H.size ∧ ∃ i, i < 7 ∧ a = D.2 98 (60 + i) ∧ o.2.2 0 = .ref (D.2 98 (70 + i)) ∧ o.2.2 1 = .int 0)
def Rel (D : va_G) (B0 : Heap) (H : Heap) (h : AH) : Prop :=
  h.1 = H.size ∧ B0.size ≤ H.size ∧ (∀ q : Nat, q < B0.size → H[q]? = B0[q]?) ∧ (∀ j, h.2.2 j = D.2 98 j) ∧ ∀ a : Nat, (h.2.1 a).1 ≠ 99 → hOb D H a (h.2.1 a) ∧ ((h.2.1 a).1 < 200 → B0.size ≤ a)
/-- static fields that are read: class, name, descriptor -/
def sNm (j : Nat) : String × String × String := if j = 0 then (RX11, "RULE_AT_FIRST", "[I") else if j = 1 then (RX11, "RULE_MOST", "[I") else if j = 2 then (RX11, "KIND_ABOVE", "[I") else if j = 3 then (RX11, "CLUB_SETS", "[I") else (RX12, "LETTERS", "[I")
/-- private members of nest mates that are called: class, pool number, method -/
def NWl : List (String × Nat × MethodName) := [(RX11, 18, yX4_init), (RX11, 25, yX6_init), (RX11, 32, yX0_init), (RX2, 176, yX11_lettersApart), (RX2, 77, yX9_init), (RX2, 78, yX5_init), (RX2, 79, yX10_init), (RX2, 80, yX1_init), (RX2, 81, yX8_init), (RX2, 82, yX3_init), (RX3, 54, yX11_asAnswer), (RX4, 17, yX3_init)]
/-- the constant texts: pool number in LawReader, text -/
def KS : List (Nat × String) := [(108, "good enough recall may years"), (129, "not"), (147, "name sure father ward gate two ready"), (149, "total first second tribes"), (151, "yes total"), (153, "days years"), (158, "and or")]
def ksL : List Nat := KS.map fun q => q.2.length
def ksB : List (List Int32) := KS.map fun q => q.2.toList.map fun c => Int32.ofNat c.toNat
def AOl : List String := [RX1, RX3, RX5, RX7, RX8, RX9, RX10]
def va_Ci (U : State) : Prop := ∃ c t : ClassId, U.vm.findClass "[I" = some c ∧ U.vm.findClass "java/lang/Cloneable" = some t ∧ U.vm.assignable c t = true
theorem va_Ci.moved {u U : State} (hvm : u.vm.Alike U.vm) (h : va_Ci u) : va_Ci U := by
  obtain ⟨c, t, h1, h2, h3⟩ := h
  exact ⟨c, t, by rw [hvm.findClass]; exact h1, by rw [hvm.findClass]; exact h2, by rw [hvm.assignable]; exact h3⟩
def KF (D : va_G) (B0 : Heap) (s : State) : Prop :=
  (∀ (c : Nat) (q : vw_C), vwCl[c]? = some q → u_Kn s q.1 q.2.1 q.2.2 (D.1 c) (D.2 c)) ∧ (∀ k, 100 ≤ k → k < 310 → ArrOfT s (D.1 k) (aty k)) ∧ (∀ k, 100 ≤ k → k < 110 → va_RA s (D.1 k) (aty k)) ∧
  (∀ j, j < 5 → va_Z (sNm j).1 (sNm j).2.1 (sNm j).2.2 (.ref (D.2 98 j)) (fun q => B0.size ≤ q) s B0) ∧
  (∀ q ∈ NWl, va_Nw (.methodLinkNest q.1 q.2.1 q.2.2 RX11) s) ∧ va_Nw (.fieldLinkNest RX2 55 RX11 "RULE_AT_FIRST" "[I" RX11) s ∧
  vk_S 7 ksL ksB (fun i => D.2 98 (60 + i)) (fun i => D.2 98 (70 + i)) (fun q => B0.size ≤ q) s B0 ∧ (∀ j q, KS[j]? = some q → vk_R RX4 q.1 q.2 (D.2 98 (60 + j)) s) ∧
  va_Z "java/lang/String" "COMPACT_STRINGS" "Z" (.int (Int32.ofNat (D.2 98 51))) (fun q => B0.size ≤ q) s B0 ∧ (∀ C ∈ AOl, va_AO C s) ∧ va_Ci s ∧ (∀ k, 200 ≤ k → k < 250 → D.1 k = D.1 100) ∧ (Cond.arrayOver (.array .int)).before #[] s = true ∧ va_Z "jdk/internal/util/Preconditions" "SIOOBE_FORMATTER" "Ljava/util/function/BiFunction;" (vOf (tR (sio (D.2 98 50)))) (fun q => B0.size ≤ q) s B0
theorem KF.moved {D : va_G} {B0 : Heap} {u U : State} (hW : u.WarmedH U.vm) (h : KF D B0 u) : KF D B0 U := by
  obtain ⟨h1, h2, h3, h4, h5, h6, h7, h8, h9, h10, h11, h12, h13, h14⟩ := h
  have hvm := hW.alike
  exact ⟨fun c q hq => u_Kn_moved hvm (h1 c q hq), fun k hk hk2 => arrOfT_moved hvm (h2 k hk hk2), fun k a b => (h3 k a b).moved hvm, fun j hj => (h4 j hj).moved hvm, fun q hq => (h5 q hq).warmM hW, h6.warmF hW, h7.moved hvm, fun j q hq => (h8 j q hq).warm hW, h9.moved hvm, fun C hC => (h10 C hC).moved hvm, h11.moved hvm, h12, over_moved hvm h13, h14.moved hvm⟩
theorem KF.same {D : va_G} {B0 : Heap} {u U : State} (hv : u.vm = U.vm) (h : KF D B0 u) : KF D B0 U := by
  obtain ⟨h1, h2, h3, h4, h5, h6, h7, h8, h9, h10, h11, h12, h13, h14⟩ := h
  have hvm : u.vm.Alike U.vm := hv ▸ Vm.Alike.refl u.vm
  exact ⟨fun c q hq => u_Kn_moved hvm (h1 c q hq), fun k hk hk2 => arrOfT_moved hvm (h2 k hk hk2), fun k a b => (h3 k a b).moved hvm, fun j hj => (h4 j hj).moved hvm, fun q hq => (h5 q hq).same rfl hv, h6.same rfl hv, h7.moved hvm, fun j q hq => (h8 j q hq).same hv.symm, h9.moved hvm, fun C hC => (h10 C hC).moved hvm, h11.moved hvm, h12, over_moved hvm h13, h14.moved hvm⟩
-- ===== the judgement =====
abbrev KT : Type := Program × Launch × Env × Room × State × MethodId × Array Value × List Frame × Method × Code × va_G × Heap × Nat × Nat × Nat
def Qz (D : va_G) (B0 : Heap) (z : Option TV × AH) : Array Value → State → Outcome → State → Prop := fun _ _ o t => o = .returned (z.1.map vOf) ∧ Rel D B0 t.heap z.2
/-- the locals that are known: places and values -/
def LH (ls : Array Slot) (nL : Nat) (lv : List (Nat × TV)) : Prop := lv_has ls nL (lv.map fun q => (q.1, vOf q.2))
def GG (K : KT) (z : Option TV × AH) (cells slots pc : Nat) (lv : List (Nat × TV)) (st : List TV) (h : AH) : Prop := match K with
  | (p, l, e, R, s, m, args, below, meth, c, D, B0, nL, mc, ms) => ∀ (H : Heap) (locs : List Loc) (ls : Array Slot), Rel D B0 H h → (∀ q ∈ locs, B0.size ≤ q.base) → LH ls nL lv → W p l e R s m args below meth c H locs cells slots (MQ below (Qz D B0 z) args s mc ms (fun q => B0.size ≤ q)) (F0 m pc ls (st.map vOf))
def CX (K : KT) (cc : ByteArray) (own : String) (Ts : List Cond) (ret : Option FieldType) (nm : String) (R0 : Room) (n0 m0 s0 : Nat) : Prop := match K with
  | (p, l, e, R, s, m, args, below, meth, c, D, B0, nL, mc, ms) => p.tables.exec = Jvm.exec ∧ c.code = cc ∧ c.maxLocals = nL ∧ s.vm.findClass own = some m.cls ∧ (∀ w ∈ Ts, w.before args s = true) ∧ meth.sig.returnType = ret ∧ meth.locks = false ∧ KF D B0 s ∧ meth.name = nm ∧ R = R0 ∧ nL = n0 ∧ mc = m0 ∧ ms = s0
theorem LH.at {ls : Array Slot} {nL : Nat} {lv : List (Nat × TV)} (h : LH ls nL lv) (k : Nat) {i : Nat} {v : TV} (hk : lv[k]? = some (i, v)) : ls[i]? = some (.val (vOf v)) :=
  lv_at h k (by rw [List.getElem?_map, hk]; rfl)
theorem LH.sub {ls : Array Slot} {nL : Nat} {lv lv' : List (Nat × TV)} (h : LH ls nL lv) (hs : ∀ q ∈ lv', q ∈ lv) : LH ls nL lv' :=
  ⟨h.1, h.2.1, fun q hq => by
    obtain ⟨x, hx, rfl⟩ := List.mem_map.mp hq
    exact h.2.2 _ (List.mem_map.mpr ⟨x, hs x hx, rfl⟩)⟩
/-- the locals behind a store of one slot -/
def lset (lv : List (Nat × TV)) (i : Nat) (v : TV) : List (Nat × TV) := (i, v) :: lv.filter fun q => !(q.1 == i) && !(q.1 + 1 == i && wOf q.2 == 2)
