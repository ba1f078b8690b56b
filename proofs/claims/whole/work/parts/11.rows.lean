theorem lset_map (lv : List (Nat × TV)) (i : Nat) (v : TV) : (lset lv i v).map (fun q => (q.1, vOf q.2)) = (i, vOf v) :: (lv.map fun q => (q.1, vOf q.2)).filter (fun q => !(q.1 == i) && !(q.1 + 1 == i && q.2.category == 2)) := by
  unfold lset
  rw [List.map_cons, List.filter_map]
  congr 2
  apply List.filter_congr
  intro q _
  simp [Function.comp, vOf_cat]
/-- fewer locals, by their places -/
theorem in_pick {α : Type} {l l' : List α} (ks : List Nat) (h : ks.filterMap (fun k => l[k]?) = l') : ∀ q ∈ l', q ∈ l := by
  intro q hq
  rw [← h] at hq
  obtain ⟨k, -, hk⟩ := List.mem_filterMap.mp hq
  exact List.mem_of_getElem? hk
section GROWS
variable {K : KT} {z : Option TV × AH} {cells slots pc : Nat} {lv : List (Nat × TV)} {st : List TV} {h : AH} {cc : ByteArray} {own : String} {Ts : List Cond} {ret : Option FieldType} {nm : String} {R0 : Room} {n0 m0 s0 : Nat}
theorem g_iadd (X : CX K cc own Ts ret nm R0 n0 m0 s0) {x y : Int32} (d : decode cc pc = .ok (.iadd, 1)) (kk : GG K z cells slots (pc + 1) lv (tI (x + y) :: st) h) : GG K z cells slots (pc) lv (tI y :: tI x :: st) h := by
  obtain ⟨p, l, e, R, s, m, args, below, meth, c, D, B0, nL, mc, ms⟩ := K
  obtain ⟨hx, hb, hml, hown, hts, hret, hlk, hK, hnm, hR0, hn0, hm0, hs0⟩ := X
  intro H locs ls hR hL hv
  exact lv_iadd hx hb d (kk H locs ls hR hL hv)
theorem g_isub (X : CX K cc own Ts ret nm R0 n0 m0 s0) {x y : Int32} (d : decode cc pc = .ok (.isub, 1)) (kk : GG K z cells slots (pc + 1) lv (tI (x - y) :: st) h) : GG K z cells slots (pc) lv (tI y :: tI x :: st) h := by
  obtain ⟨p, l, e, R, s, m, args, below, meth, c, D, B0, nL, mc, ms⟩ := K
  obtain ⟨hx, hb, hml, hown, hts, hret, hlk, hK, hnm, hR0, hn0, hm0, hs0⟩ := X
  intro H locs ls hR hL hv
  exact lv_isub hx hb d (kk H locs ls hR hL hv)
theorem g_imul (X : CX K cc own Ts ret nm R0 n0 m0 s0) {x y : Int32} (d : decode cc pc = .ok (.imul, 1)) (kk : GG K z cells slots (pc + 1) lv (tI (x * y) :: st) h) : GG K z cells slots (pc) lv (tI y :: tI x :: st) h := by
  obtain ⟨p, l, e, R, s, m, args, below, meth, c, D, B0, nL, mc, ms⟩ := K
  obtain ⟨hx, hb, hml, hown, hts, hret, hlk, hK, hnm, hR0, hn0, hm0, hs0⟩ := X
  intro H locs ls hR hL hv
  exact lv_imul hx hb d (kk H locs ls hR hL hv)
theorem g_iand (X : CX K cc own Ts ret nm R0 n0 m0 s0) {x y : Int32} (d : decode cc pc = .ok (.iand, 1)) (kk : GG K z cells slots (pc + 1) lv (tI (x &&& y) :: st) h) : GG K z cells slots (pc) lv (tI y :: tI x :: st) h := by
  obtain ⟨p, l, e, R, s, m, args, below, meth, c, D, B0, nL, mc, ms⟩ := K
  obtain ⟨hx, hb, hml, hown, hts, hret, hlk, hK, hnm, hR0, hn0, hm0, hs0⟩ := X
  intro H locs ls hR hL hv
  exact lv_iand hx hb d (kk H locs ls hR hL hv)
theorem g_ior (X : CX K cc own Ts ret nm R0 n0 m0 s0) {x y : Int32} (d : decode cc pc = .ok (.ior, 1)) (kk : GG K z cells slots (pc + 1) lv (tI (x ||| y) :: st) h) : GG K z cells slots (pc) lv (tI y :: tI x :: st) h := by
  obtain ⟨p, l, e, R, s, m, args, below, meth, c, D, B0, nL, mc, ms⟩ := K
  obtain ⟨hx, hb, hml, hown, hts, hret, hlk, hK, hnm, hR0, hn0, hm0, hs0⟩ := X
  intro H locs ls hR hL hv
  exact lv_ior hx hb d (kk H locs ls hR hL hv)
theorem g_ixor (X : CX K cc own Ts ret nm R0 n0 m0 s0) {x y : Int32} (d : decode cc pc = .ok (.ixor, 1)) (kk : GG K z cells slots (pc + 1) lv (tI (x ^^^ y) :: st) h) : GG K z cells slots (pc) lv (tI y :: tI x :: st) h := by
  obtain ⟨p, l, e, R, s, m, args, below, meth, c, D, B0, nL, mc, ms⟩ := K
  obtain ⟨hx, hb, hml, hown, hts, hret, hlk, hK, hnm, hR0, hn0, hm0, hs0⟩ := X
  intro H locs ls hR hL hv
  exact lv_ixor hx hb d (kk H locs ls hR hL hv)
theorem g_ishl (X : CX K cc own Ts ret nm R0 n0 m0 s0) {x y : Int32} (d : decode cc pc = .ok (.ishl, 1)) (kk : GG K z cells slots (pc + 1) lv (tI (x <<< (y &&& 31)) :: st) h) : GG K z cells slots (pc) lv (tI y :: tI x :: st) h := by
  obtain ⟨p, l, e, R, s, m, args, below, meth, c, D, B0, nL, mc, ms⟩ := K
  obtain ⟨hx, hb, hml, hown, hts, hret, hlk, hK, hnm, hR0, hn0, hm0, hs0⟩ := X
  intro H locs ls hR hL hv
  exact lv_ishl hx hb d (kk H locs ls hR hL hv)
theorem g_ishr (X : CX K cc own Ts ret nm R0 n0 m0 s0) {x y : Int32} (d : decode cc pc = .ok (.ishr, 1)) (kk : GG K z cells slots (pc + 1) lv (tI (x >>> (y &&& 31)) :: st) h) : GG K z cells slots (pc) lv (tI y :: tI x :: st) h := by
  obtain ⟨p, l, e, R, s, m, args, below, meth, c, D, B0, nL, mc, ms⟩ := K
  obtain ⟨hx, hb, hml, hown, hts, hret, hlk, hK, hnm, hR0, hn0, hm0, hs0⟩ := X
  intro H locs ls hR hL hv
  exact lv_ishr hx hb d (kk H locs ls hR hL hv)
theorem g_iushr (X : CX K cc own Ts ret nm R0 n0 m0 s0) {x y : Int32} (d : decode cc pc = .ok (.iushr, 1)) (kk : GG K z cells slots (pc + 1) lv (tI ((x.toUInt32 >>> (y.toUInt32 &&& Int32.toUInt32 31)).toInt32) :: st) h) : GG K z cells slots (pc) lv (tI y :: tI x :: st) h := by
  obtain ⟨p, l, e, R, s, m, args, below, meth, c, D, B0, nL, mc, ms⟩ := K
  obtain ⟨hx, hb, hml, hown, hts, hret, hlk, hK, hnm, hR0, hn0, hm0, hs0⟩ := X
  intro H locs ls hR hL hv
  exact lv_iushr hx hb d rfl (kk H locs ls hR hL hv)
theorem g_ineg (X : CX K cc own Ts ret nm R0 n0 m0 s0) {x : Int32} (d : decode cc pc = .ok (.ineg, 1)) (kk : GG K z cells slots (pc + 1) lv (tI (-x) :: st) h) : GG K z cells slots (pc) lv (tI x :: st) h := by
  obtain ⟨p, l, e, R, s, m, args, below, meth, c, D, B0, nL, mc, ms⟩ := K
  obtain ⟨hx, hb, hml, hown, hts, hret, hlk, hK, hnm, hR0, hn0, hm0, hs0⟩ := X
  intro H locs ls hR hL hv
  exact lv_ineg hx hb d (kk H locs ls hR hL hv)
theorem g_i2b (X : CX K cc own Ts ret nm R0 n0 m0 s0) {x : Int32} (d : decode cc pc = .ok (.i2b, 1)) (kk : GG K z cells slots (pc + 1) lv (tI (x.toInt8.toInt32) :: st) h) : GG K z cells slots (pc) lv (tI x :: st) h := by
  obtain ⟨p, l, e, R, s, m, args, below, meth, c, D, B0, nL, mc, ms⟩ := K
  obtain ⟨hx, hb, hml, hown, hts, hret, hlk, hK, hnm, hR0, hn0, hm0, hs0⟩ := X
  intro H locs ls hR hL hv
  exact lv_i2b hx hb d rfl (kk H locs ls hR hL hv)
theorem g_i2s (X : CX K cc own Ts ret nm R0 n0 m0 s0) {x : Int32} (d : decode cc pc = .ok (.i2s, 1)) (kk : GG K z cells slots (pc + 1) lv (tI (x.toInt16.toInt32) :: st) h) : GG K z cells slots (pc) lv (tI x :: st) h := by
  obtain ⟨p, l, e, R, s, m, args, below, meth, c, D, B0, nL, mc, ms⟩ := K
  obtain ⟨hx, hb, hml, hown, hts, hret, hlk, hK, hnm, hR0, hn0, hm0, hs0⟩ := X
  intro H locs ls hR hL hv
  exact lv_i2s hx hb d rfl (kk H locs ls hR hL hv)
theorem g_i2c (X : CX K cc own Ts ret nm R0 n0 m0 s0) {x : Int32} (d : decode cc pc = .ok (.i2c, 1)) (kk : GG K z cells slots (pc + 1) lv (tI ((x.toUInt32 % 65536).toInt32) :: st) h) : GG K z cells slots (pc) lv (tI x :: st) h := by
  obtain ⟨p, l, e, R, s, m, args, below, meth, c, D, B0, nL, mc, ms⟩ := K
  obtain ⟨hx, hb, hml, hown, hts, hret, hlk, hK, hnm, hR0, hn0, hm0, hs0⟩ := X
  intro H locs ls hR hL hv
  exact lv_i2c hx hb d rfl (kk H locs ls hR hL hv)
theorem g_i2l (X : CX K cc own Ts ret nm R0 n0 m0 s0) {x : Int32} (d : decode cc pc = .ok (.i2l, 1)) (kk : GG K z cells slots (pc + 1) lv (tL x.toInt64 :: st) h) : GG K z cells slots (pc) lv (tI x :: st) h := by
  obtain ⟨p, l, e, R, s, m, args, below, meth, c, D, B0, nL, mc, ms⟩ := K
  obtain ⟨hx, hb, hml, hown, hts, hret, hlk, hK, hnm, hR0, hn0, hm0, hs0⟩ := X
  intro H locs ls hR hL hv
  exact lv_i2l hx hb d rfl (kk H locs ls hR hL hv)
theorem g_l2i (X : CX K cc own Ts ret nm R0 n0 m0 s0) {x : Int64} (d : decode cc pc = .ok (.l2i, 1)) (kk : GG K z cells slots (pc + 1) lv (tI x.toInt32 :: st) h) : GG K z cells slots (pc) lv (tL x :: st) h := by
  obtain ⟨p, l, e, R, s, m, args, below, meth, c, D, B0, nL, mc, ms⟩ := K
  obtain ⟨hx, hb, hml, hown, hts, hret, hlk, hK, hnm, hR0, hn0, hm0, hs0⟩ := X
  intro H locs ls hR hL hv
  exact lv_l2i hx hb d rfl (kk H locs ls hR hL hv)
theorem g_land (X : CX K cc own Ts ret nm R0 n0 m0 s0) {x y : Int64} (d : decode cc pc = .ok (.land, 1)) (kk : GG K z cells slots (pc + 1) lv (tL (x &&& y) :: st) h) : GG K z cells slots (pc) lv (tL y :: tL x :: st) h := by
  obtain ⟨p, l, e, R, s, m, args, below, meth, c, D, B0, nL, mc, ms⟩ := K
  obtain ⟨hx, hb, hml, hown, hts, hret, hlk, hK, hnm, hR0, hn0, hm0, hs0⟩ := X
  intro H locs ls hR hL hv
  exact lv_land hx hb d (kk H locs ls hR hL hv)
theorem g_lor (X : CX K cc own Ts ret nm R0 n0 m0 s0) {x y : Int64} (d : decode cc pc = .ok (.lor, 1)) (kk : GG K z cells slots (pc + 1) lv (tL (x ||| y) :: st) h) : GG K z cells slots (pc) lv (tL y :: tL x :: st) h := by
  obtain ⟨p, l, e, R, s, m, args, below, meth, c, D, B0, nL, mc, ms⟩ := K
  obtain ⟨hx, hb, hml, hown, hts, hret, hlk, hK, hnm, hR0, hn0, hm0, hs0⟩ := X
  intro H locs ls hR hL hv
  exact lv_lor hx hb d (kk H locs ls hR hL hv)
theorem g_lshl (X : CX K cc own Ts ret nm R0 n0 m0 s0) {x : Int64} {y : Int32} (d : decode cc pc = .ok (.lshl, 1)) (kk : GG K z cells slots (pc + 1) lv (tL (x <<< (y.toInt64 &&& 63)) :: st) h) : GG K z cells slots (pc) lv (tI y :: tL x :: st) h := by
  obtain ⟨p, l, e, R, s, m, args, below, meth, c, D, B0, nL, mc, ms⟩ := K
  obtain ⟨hx, hb, hml, hown, hts, hret, hlk, hK, hnm, hR0, hn0, hm0, hs0⟩ := X
  intro H locs ls hR hL hv
  exact lv_lshl hx hb d rfl (kk H locs ls hR hL hv)
theorem g_lshr (X : CX K cc own Ts ret nm R0 n0 m0 s0) {x : Int64} {y : Int32} (d : decode cc pc = .ok (.lshr, 1)) (kk : GG K z cells slots (pc + 1) lv (tL (x >>> (y.toInt64 &&& 63)) :: st) h) : GG K z cells slots (pc) lv (tI y :: tL x :: st) h := by
  obtain ⟨p, l, e, R, s, m, args, below, meth, c, D, B0, nL, mc, ms⟩ := K
  obtain ⟨hx, hb, hml, hown, hts, hret, hlk, hK, hnm, hR0, hn0, hm0, hs0⟩ := X
  intro H locs ls hR hL hv
  exact lv_lshr hx hb d rfl (kk H locs ls hR hL hv)
theorem g_iconst (X : CX K cc own Ts ret nm R0 n0 m0 s0) {n : Int} {v : Int32} (d : decode cc pc = .ok (.iconst n, 1)) (hn : Int32.ofInt n = v) (kk : GG K z cells slots (pc + 1) lv (tI v :: st) h) : GG K z cells slots (pc) lv (st) h := by
  obtain ⟨p, l, e, R, s, m, args, below, meth, c, D, B0, nL, mc, ms⟩ := K
  obtain ⟨hx, hb, hml, hown, hts, hret, hlk, hK, hnm, hR0, hn0, hm0, hs0⟩ := X
  intro H locs ls hR hL hv
  exact lv_iconst hx hb d hn (kk H locs ls hR hL hv)
theorem g_bipush (X : CX K cc own Ts ret nm R0 n0 m0 s0) {n : Int} {v : Int32} (d : decode cc pc = .ok (.bipush n, 2)) (hn : (Int8.ofInt n).toInt32 = v) (kk : GG K z cells slots (pc + 2) lv (tI v :: st) h) : GG K z cells slots (pc) lv (st) h := by
  obtain ⟨p, l, e, R, s, m, args, below, meth, c, D, B0, nL, mc, ms⟩ := K
  obtain ⟨hx, hb, hml, hown, hts, hret, hlk, hK, hnm, hR0, hn0, hm0, hs0⟩ := X
  intro H locs ls hR hL hv
  exact lv_bipush hx hb d hn (kk H locs ls hR hL hv)
theorem g_sipush (X : CX K cc own Ts ret nm R0 n0 m0 s0) {n : Int} {v : Int32} (d : decode cc pc = .ok (.sipush n, 3)) (hn : (Int16.ofInt n).toInt32 = v) (kk : GG K z cells slots (pc + 3) lv (tI v :: st) h) : GG K z cells slots (pc) lv (st) h := by
  obtain ⟨p, l, e, R, s, m, args, below, meth, c, D, B0, nL, mc, ms⟩ := K
  obtain ⟨hx, hb, hml, hown, hts, hret, hlk, hK, hnm, hR0, hn0, hm0, hs0⟩ := X
  intro H locs ls hR hL hv
  exact lv_sipush hx hb d hn (kk H locs ls hR hL hv)
theorem g_ldc (X : CX K cc own Ts ret nm R0 n0 m0 s0) {index : Nat} {v : Int32} (d : decode cc pc = .ok (.ldc index, 2)) (hc : Jvm.Cond.constant own index v ∈ Ts) (kk : GG K z cells slots (pc + 2) lv (tI v :: st) h) : GG K z cells slots (pc) lv (st) h := by
  obtain ⟨p, l, e, R, s, m, args, below, meth, c, D, B0, nL, mc, ms⟩ := K
  obtain ⟨hx, hb, hml, hown, hts, hret, hlk, hK, hnm, hR0, hn0, hm0, hs0⟩ := X
  intro H locs ls hR hL hv
  exact lv_ldc hx hb hown (hts _ hc) d (kk H locs ls hR hL hv)
theorem g_ldcw (X : CX K cc own Ts ret nm R0 n0 m0 s0) {index : Nat} {v : Int32} (d : decode cc pc = .ok (.ldc_w index, 3)) (hc : Jvm.Cond.constant own index v ∈ Ts) (kk : GG K z cells slots (pc + 3) lv (tI v :: st) h) : GG K z cells slots (pc) lv (st) h := by
  obtain ⟨p, l, e, R, s, m, args, below, meth, c, D, B0, nL, mc, ms⟩ := K
  obtain ⟨hx, hb, hml, hown, hts, hret, hlk, hK, hnm, hR0, hn0, hm0, hs0⟩ := X
  intro H locs ls hR hL hv
  exact lv_ldcw hx hb hown (hts _ hc) d (kk H locs ls hR hL hv)
theorem g_ldc2 (X : CX K cc own Ts ret nm R0 n0 m0 s0) {index : Nat} {v : Int64} (d : decode cc pc = .ok (.ldc2_w index, 3)) (hc : Jvm.Cond.constantLong own index v ∈ Ts) (kk : GG K z cells slots (pc + 3) lv (tL v :: st) h) : GG K z cells slots (pc) lv (st) h := by
  obtain ⟨p, l, e, R, s, m, args, below, meth, c, D, B0, nL, mc, ms⟩ := K
  obtain ⟨hx, hb, hml, hown, hts, hret, hlk, hK, hnm, hR0, hn0, hm0, hs0⟩ := X
  intro H locs ls hR hL hv
  exact lv_ldc2 hx hb hown (hts _ hc) d (kk H locs ls hR hL hv)
theorem g_null (X : CX K cc own Ts ret nm R0 n0 m0 s0) (d : decode cc pc = .ok (.aconst_null, 1)) (kk : GG K z cells slots (pc + 1) lv (tR none :: st) h) : GG K z cells slots (pc) lv (st) h := by
  obtain ⟨p, l, e, R, s, m, args, below, meth, c, D, B0, nL, mc, ms⟩ := K
  obtain ⟨hx, hb, hml, hown, hts, hret, hlk, hK, hnm, hR0, hn0, hm0, hs0⟩ := X
  intro H locs ls hR hL hv
  exact lv_null hx hb d (kk H locs ls hR hL hv)
theorem g_dup (X : CX K cc own Ts ret nm R0 n0 m0 s0) {v : TV} (d : decode cc pc = .ok (.dup, 1)) (hw : wOf v = 1) (kk : GG K z cells slots (pc + 1) lv (v :: v :: st) h) : GG K z cells slots (pc) lv (v :: st) h := by
  obtain ⟨p, l, e, R, s, m, args, below, meth, c, D, B0, nL, mc, ms⟩ := K
  obtain ⟨hx, hb, hml, hown, hts, hret, hlk, hK, hnm, hR0, hn0, hm0, hs0⟩ := X
  intro H locs ls hR hL hv
  exact lv_dup hx hb d (by rw [vOf_cat]; exact hw) (kk H locs ls hR hL hv)
theorem g_pop (X : CX K cc own Ts ret nm R0 n0 m0 s0) {v : TV} (d : decode cc pc = .ok (.pop, 1)) (hw : wOf v = 1) (kk : GG K z cells slots (pc + 1) lv (st) h) : GG K z cells slots (pc) lv (v :: st) h := by
  obtain ⟨p, l, e, R, s, m, args, below, meth, c, D, B0, nL, mc, ms⟩ := K
  obtain ⟨hx, hb, hml, hown, hts, hret, hlk, hK, hnm, hR0, hn0, hm0, hs0⟩ := X
  intro H locs ls hR hL hv
  exact lv_pop hx hb d (by rw [vOf_cat]; exact hw) (kk H locs ls hR hL hv)
theorem g_dup2 (X : CX K cc own Ts ret nm R0 n0 m0 s0) {v w : TV} (d : decode cc pc = .ok (.dup2, 1)) (hw : wOf v = 1) (hw2 : wOf w = 1) (kk : GG K z cells slots (pc + 1) lv (v :: w :: v :: w :: st) h) : GG K z cells slots (pc) lv (v :: w :: st) h := by
  obtain ⟨p, l, e, R, s, m, args, below, meth, c, D, B0, nL, mc, ms⟩ := K
  obtain ⟨hx, hb, hml, hown, hts, hret, hlk, hK, hnm, hR0, hn0, hm0, hs0⟩ := X
  intro H locs ls hR hL hv
  exact lv_dup2_11 hx hb d (by rw [vOf_cat]; exact hw) (by rw [vOf_cat]; exact hw2) (kk H locs ls hR hL hv)
theorem g_iload_n (X : CX K cc own Ts ret nm R0 n0 m0 s0) {k : Fin 4} {x : Int32} (d : decode cc pc = .ok (.iload_n k, 1)) (j : Nat) (hj : lv[j]? = some (k.val, tI x)) (kk : GG K z cells slots (pc + 1) lv (tI x :: st) h) : GG K z cells slots (pc) lv (st) h := by
  obtain ⟨p, l, e, R, s, m, args, below, meth, c, D, B0, nL, mc, ms⟩ := K
  obtain ⟨hx, hb, hml, hown, hts, hret, hlk, hK, hnm, hR0, hn0, hm0, hs0⟩ := X
  intro H locs ls hR hL hv
  exact lv_iload_n hx hb d rfl (hv.at j hj) (kk H locs ls hR hL hv)
theorem g_iload (X : CX K cc own Ts ret nm R0 n0 m0 s0) {i : Nat} {x : Int32} (d : decode cc pc = .ok (.iload i, 2)) (j : Nat) (hj : lv[j]? = some (i, tI x)) (kk : GG K z cells slots (pc + 2) lv (tI x :: st) h) : GG K z cells slots (pc) lv (st) h := by
  obtain ⟨p, l, e, R, s, m, args, below, meth, c, D, B0, nL, mc, ms⟩ := K
  obtain ⟨hx, hb, hml, hown, hts, hret, hlk, hK, hnm, hR0, hn0, hm0, hs0⟩ := X
  intro H locs ls hR hL hv
  exact lv_iload hx hb d (hv.at j hj) (kk H locs ls hR hL hv)
theorem g_lload_n (X : CX K cc own Ts ret nm R0 n0 m0 s0) {k : Fin 4} {x : Int64} (d : decode cc pc = .ok (.lload_n k, 1)) (j : Nat) (hj : lv[j]? = some (k.val, tL x)) (kk : GG K z cells slots (pc + 1) lv (tL x :: st) h) : GG K z cells slots (pc) lv (st) h := by
  obtain ⟨p, l, e, R, s, m, args, below, meth, c, D, B0, nL, mc, ms⟩ := K
  obtain ⟨hx, hb, hml, hown, hts, hret, hlk, hK, hnm, hR0, hn0, hm0, hs0⟩ := X
  intro H locs ls hR hL hv
  exact lv_lload_n hx hb d rfl (hv.at j hj) (kk H locs ls hR hL hv)
theorem g_aload_n (X : CX K cc own Ts ret nm R0 n0 m0 s0) {k : Fin 4} {r : Option Nat} (d : decode cc pc = .ok (.aload_n k, 1)) (j : Nat) (hj : lv[j]? = some (k.val, tR r)) (kk : GG K z cells slots (pc + 1) lv (tR r :: st) h) : GG K z cells slots (pc) lv (st) h := by
  obtain ⟨p, l, e, R, s, m, args, below, meth, c, D, B0, nL, mc, ms⟩ := K
  obtain ⟨hx, hb, hml, hown, hts, hret, hlk, hK, hnm, hR0, hn0, hm0, hs0⟩ := X
  intro H locs ls hR hL hv
  cases r with
  | none => exact lv_aload_nN hx hb d rfl (hv.at j hj) (kk H locs ls hR hL hv)
  | some a => exact lv_aload_n hx hb d rfl (hv.at j hj) (kk H locs ls hR hL hv)
theorem g_aload (X : CX K cc own Ts ret nm R0 n0 m0 s0) {i : Nat} {r : Option Nat} (d : decode cc pc = .ok (.aload i, 2)) (j : Nat) (hj : lv[j]? = some (i, tR r)) (kk : GG K z cells slots (pc + 2) lv (tR r :: st) h) : GG K z cells slots (pc) lv (st) h := by
  obtain ⟨p, l, e, R, s, m, args, below, meth, c, D, B0, nL, mc, ms⟩ := K
  obtain ⟨hx, hb, hml, hown, hts, hret, hlk, hK, hnm, hR0, hn0, hm0, hs0⟩ := X
  intro H locs ls hR hL hv
  cases r with
  | none => exact lv_aloadN hx hb d (hv.at j hj) (kk H locs ls hR hL hv)
  | some a => exact lv_aload hx hb d (hv.at j hj) (kk H locs ls hR hL hv)
theorem g_istore_n (X : CX K cc own Ts ret nm R0 n0 m0 s0) {k : Fin 4} {x : Int32} {lv' : List (Nat × TV)} (d : decode cc pc = .ok (.istore_n k, 1)) (hi : k.val < n0) (hl : ∀ q ∈ lv', q ∈ lset lv k.val (tI x)) (kk : GG K z cells slots (pc + 1) lv' (st) h) : GG K z cells slots (pc) lv (tI x :: st) h := by
  obtain ⟨p, l, e, R, s, m, args, below, meth, c, D, B0, nL, mc, ms⟩ := K
  obtain ⟨hx, hb, hml, hown, hts, hret, hlk, hK, hnm, hR0, hn0, hm0, hs0⟩ := X
  intro H locs ls hR hL hv
  subst hn0
  exact lv_istore_n hx hb d rfl hv hi (lset_map lv _ (tI x)).symm (fun ls' hv' => kk H locs ls' hR hL (LH.sub hv' hl))
theorem g_istore (X : CX K cc own Ts ret nm R0 n0 m0 s0) {i : Nat} {x : Int32} {lv' : List (Nat × TV)} (d : decode cc pc = .ok (.istore i, 2)) (hi : i < n0) (hl : ∀ q ∈ lv', q ∈ lset lv i (tI x)) (kk : GG K z cells slots (pc + 2) lv' (st) h) : GG K z cells slots (pc) lv (tI x :: st) h := by
  obtain ⟨p, l, e, R, s, m, args, below, meth, c, D, B0, nL, mc, ms⟩ := K
  obtain ⟨hx, hb, hml, hown, hts, hret, hlk, hK, hnm, hR0, hn0, hm0, hs0⟩ := X
  intro H locs ls hR hL hv
  subst hn0
  exact lv_istore hx hb d hv hi (lset_map lv _ (tI x)).symm (fun ls' hv' => kk H locs ls' hR hL (LH.sub hv' hl))
theorem g_astore_n (X : CX K cc own Ts ret nm R0 n0 m0 s0) {k : Fin 4} {r : Option Nat} {lv' : List (Nat × TV)} (d : decode cc pc = .ok (.astore_n k, 1)) (hi : k.val < n0) (hl : ∀ q ∈ lv', q ∈ lset lv k.val (tR r)) (kk : GG K z cells slots (pc + 1) lv' (st) h) : GG K z cells slots (pc) lv (tR r :: st) h := by
  obtain ⟨p, l, e, R, s, m, args, below, meth, c, D, B0, nL, mc, ms⟩ := K
  obtain ⟨hx, hb, hml, hown, hts, hret, hlk, hK, hnm, hR0, hn0, hm0, hs0⟩ := X
  intro H locs ls hR hL hv
  subst hn0
  cases r with
  | none => exact lv_astore_nN hx hb d rfl hv hi (lset_map lv _ (tR none)).symm (fun ls' hv' => kk H locs ls' hR hL (LH.sub hv' hl))
  | some a => exact lv_astore_n hx hb d rfl hv hi (lset_map lv _ (tR (some a))).symm (fun ls' hv' => kk H locs ls' hR hL (LH.sub hv' hl))
theorem g_astore (X : CX K cc own Ts ret nm R0 n0 m0 s0) {i : Nat} {r : Option Nat} {lv' : List (Nat × TV)} (d : decode cc pc = .ok (.astore i, 2)) (hi : i < n0) (hl : ∀ q ∈ lv', q ∈ lset lv i (tR r)) (kk : GG K z cells slots (pc + 2) lv' (st) h) : GG K z cells slots (pc) lv (tR r :: st) h := by
  obtain ⟨p, l, e, R, s, m, args, below, meth, c, D, B0, nL, mc, ms⟩ := K
  obtain ⟨hx, hb, hml, hown, hts, hret, hlk, hK, hnm, hR0, hn0, hm0, hs0⟩ := X
  intro H locs ls hR hL hv
  subst hn0
  cases r with
  | none => exact lv_astoreN hx hb d hv hi (lset_map lv _ (tR none)).symm (fun ls' hv' => kk H locs ls' hR hL (LH.sub hv' hl))
  | some a => exact lv_astore hx hb d hv hi (lset_map lv _ (tR (some a))).symm (fun ls' hv' => kk H locs ls' hR hL (LH.sub hv' hl))
theorem g_iinc (X : CX K cc own Ts ret nm R0 n0 m0 s0) {i : Nat} {n : Int} {x v : Int32} {lv' : List (Nat × TV)} (d : decode cc pc = .ok (.iinc i n, 3)) (j : Nat) (hj : lv[j]? = some (i, tI x)) (hn : x + Int32.ofInt n = v) (hi : i < n0) (hl : ∀ q ∈ lv', q ∈ lset lv i (tI v)) (kk : GG K z cells slots (pc + 3) lv' (st) h) : GG K z cells slots (pc) lv (st) h := by
  obtain ⟨p, l, e, R, s, m, args, below, meth, c, D, B0, nL, mc, ms⟩ := K
  obtain ⟨hx, hb, hml, hown, hts, hret, hlk, hK, hnm, hR0, hn0, hm0, hs0⟩ := X
  intro H locs ls hR hL hv
  subst hn0
  exact lv_iinc (k := j) hx hb d hv (by rw [List.getElem?_map, hj]; rfl) hn hi (lset_map lv _ (tI v)).symm (fun ls' hv' => kk H locs ls' hR hL (LH.sub hv' hl))
theorem g_goto (X : CX K cc own Ts ret nm R0 n0 m0 s0) {off : Int} {tgt : Nat} (d : decode cc pc = .ok (.goto off, 3)) (ht : (pc : Int) + off = (tgt : Int)) (kk : GG K z cells slots (tgt) lv (st) h) : GG K z cells slots (pc) lv (st) h := by
  obtain ⟨p, l, e, R, s, m, args, below, meth, c, D, B0, nL, mc, ms⟩ := K
  obtain ⟨hx, hb, hml, hown, hts, hret, hlk, hK, hnm, hR0, hn0, hm0, hs0⟩ := X
  intro H locs ls hR hL hv
  exact lv_goto hx hb d ht (kk H locs ls hR hL hv)
def dvI (x y : Int32) : Option Int32 := if y = 0 then none else some (x / y)
theorem g_idiv {α : Type} {f : Int32 → Option α} {w : α} (X : CX K cc own Ts ret nm R0 n0 m0 s0) {x y : Int32} (hf : (dvI x y).bind f = some w) (d : decode cc pc = .ok (.idiv, 1)) (kk : ∀ v, f v = some w → GG K z cells slots (pc + 1) lv (tI v :: st) h) : GG K z cells slots (pc) lv (tI y :: tI x :: st) h := by
  obtain ⟨p, l, e, R, s, m, args, below, meth, c, D, B0, nL, mc, ms⟩ := K
  obtain ⟨hx, hb, hml, hown, hts, hret, hlk, hK, hnm, hR0, hn0, hm0, hs0⟩ := X
  intro H locs ls hR hL hv
  unfold dvI at hf
  by_cases hy : y = 0
  · rw [if_pos hy] at hf; cases hf
  · rw [if_neg hy] at hf
    exact lv_idiv hx hb d hy (kk _ hf H locs ls hR hL hv)
def rmI (x y : Int32) : Option Int32 := if y = 0 then none else some (x - x / y * y)
theorem g_irem {α : Type} {f : Int32 → Option α} {w : α} (X : CX K cc own Ts ret nm R0 n0 m0 s0) {x y : Int32} (hf : (rmI x y).bind f = some w) (d : decode cc pc = .ok (.irem, 1)) (kk : ∀ v, f v = some w → GG K z cells slots (pc + 1) lv (tI v :: st) h) : GG K z cells slots (pc) lv (tI y :: tI x :: st) h := by
  obtain ⟨p, l, e, R, s, m, args, below, meth, c, D, B0, nL, mc, ms⟩ := K
  obtain ⟨hx, hb, hml, hown, hts, hret, hlk, hK, hnm, hR0, hn0, hm0, hs0⟩ := X
  intro H locs ls hR hL hv
  unfold rmI at hf
  by_cases hy : y = 0
  · rw [if_pos hy] at hf; cases hf
  · rw [if_neg hy] at hf
    exact lv_irem hx hb d hy (kk _ hf H locs ls hR hL hv)
theorem g_ifeq {α : Type} {A B : Option α} {w : α} (X : CX K cc own Ts ret nm R0 n0 m0 s0) {x : Int32} {off : Int} {tgt : Nat} {inst : Decidable (x = 0)} (hf : (@ite _ (x = 0) inst A B) = some w) (d : decode cc pc = .ok (.ifCond .eq off, 3)) (ht : (pc : Int) + off = (tgt : Int)) (ka : A = some w → GG K z cells slots (tgt) lv (st) h) (kb : B = some w → GG K z cells slots (pc + 3) lv (st) h) : GG K z cells slots (pc) lv (tI x :: st) h := by
  obtain ⟨p, l, e, R, s, m, args, below, meth, c, D, B0, nL, mc, ms⟩ := K
  obtain ⟨hx, hb, hml, hown, hts, hret, hlk, hK, hnm, hR0, hn0, hm0, hs0⟩ := X
  intro H locs ls hR hL hv
  have fa : (x = 0) → A = some w := fun q => by rw [if_pos q] at hf; exact hf
  have fb : ¬ (x = 0) → B = some w := fun q => by rw [if_neg q] at hf; exact hf
  exact lv_if_eq hx hb d ht (fun q => ka (fa (q)) H locs ls hR hL hv) (fun q => kb (fb (q)) H locs ls hR hL hv)
theorem g_ifne {α : Type} {A B : Option α} {w : α} (X : CX K cc own Ts ret nm R0 n0 m0 s0) {x : Int32} {off : Int} {tgt : Nat} {inst : Decidable (x = 0)} (hf : (@ite _ (x = 0) inst A B) = some w) (d : decode cc pc = .ok (.ifCond .ne off, 3)) (ht : (pc : Int) + off = (tgt : Int)) (ka : A = some w → GG K z cells slots (pc + 3) lv (st) h) (kb : B = some w → GG K z cells slots (tgt) lv (st) h) : GG K z cells slots (pc) lv (tI x :: st) h := by
  obtain ⟨p, l, e, R, s, m, args, below, meth, c, D, B0, nL, mc, ms⟩ := K
  obtain ⟨hx, hb, hml, hown, hts, hret, hlk, hK, hnm, hR0, hn0, hm0, hs0⟩ := X
  intro H locs ls hR hL hv
  have fa : (x = 0) → A = some w := fun q => by rw [if_pos q] at hf; exact hf
  have fb : ¬ (x = 0) → B = some w := fun q => by rw [if_neg q] at hf; exact hf
  exact lv_if_ne hx hb d ht (fun q => kb (fb (q)) H locs ls hR hL hv) (fun q => ka (fa (q)) H locs ls hR hL hv)
theorem g_iflt {α : Type} {A B : Option α} {w : α} (X : CX K cc own Ts ret nm R0 n0 m0 s0) {x : Int32} {off : Int} {tgt : Nat} {inst : Decidable (x < 0)} (hf : (@ite _ (x < 0) inst A B) = some w) (d : decode cc pc = .ok (.ifCond .lt off, 3)) (ht : (pc : Int) + off = (tgt : Int)) (ka : A = some w → GG K z cells slots (tgt) lv (st) h) (kb : B = some w → GG K z cells slots (pc + 3) lv (st) h) : GG K z cells slots (pc) lv (tI x :: st) h := by
  obtain ⟨p, l, e, R, s, m, args, below, meth, c, D, B0, nL, mc, ms⟩ := K
  obtain ⟨hx, hb, hml, hown, hts, hret, hlk, hK, hnm, hR0, hn0, hm0, hs0⟩ := X
  intro H locs ls hR hL hv
  have fa : (x < 0) → A = some w := fun q => by rw [if_pos q] at hf; exact hf
  have fb : ¬ (x < 0) → B = some w := fun q => by rw [if_neg q] at hf; exact hf
  exact lv_if_lt hx hb d ht (fun q => ka (fa (q)) H locs ls hR hL hv) (fun q => kb (fb (q)) H locs ls hR hL hv)
theorem g_ifge {α : Type} {A B : Option α} {w : α} (X : CX K cc own Ts ret nm R0 n0 m0 s0) {x : Int32} {off : Int} {tgt : Nat} {inst : Decidable (x < 0)} (hf : (@ite _ (x < 0) inst A B) = some w) (d : decode cc pc = .ok (.ifCond .ge off, 3)) (ht : (pc : Int) + off = (tgt : Int)) (ka : A = some w → GG K z cells slots (pc + 3) lv (st) h) (kb : B = some w → GG K z cells slots (tgt) lv (st) h) : GG K z cells slots (pc) lv (tI x :: st) h := by
  obtain ⟨p, l, e, R, s, m, args, below, meth, c, D, B0, nL, mc, ms⟩ := K
  obtain ⟨hx, hb, hml, hown, hts, hret, hlk, hK, hnm, hR0, hn0, hm0, hs0⟩ := X
  intro H locs ls hR hL hv
  have fa : (x < 0) → A = some w := fun q => by rw [if_pos q] at hf; exact hf
  have fb : ¬ (x < 0) → B = some w := fun q => by rw [if_neg q] at hf; exact hf
  exact lv_if_ge hx hb d ht (fun q => kb (fb (Int32.not_lt.mpr q)) H locs ls hR hL hv) (fun q => ka (fa (Int32.not_le.mp q)) H locs ls hR hL hv)
theorem g_ifgt {α : Type} {A B : Option α} {w : α} (X : CX K cc own Ts ret nm R0 n0 m0 s0) {x : Int32} {off : Int} {tgt : Nat} {inst : Decidable (0 < x)} (hf : (@ite _ (0 < x) inst A B) = some w) (d : decode cc pc = .ok (.ifCond .gt off, 3)) (ht : (pc : Int) + off = (tgt : Int)) (ka : A = some w → GG K z cells slots (tgt) lv (st) h) (kb : B = some w → GG K z cells slots (pc + 3) lv (st) h) : GG K z cells slots (pc) lv (tI x :: st) h := by
  obtain ⟨p, l, e, R, s, m, args, below, meth, c, D, B0, nL, mc, ms⟩ := K
  obtain ⟨hx, hb, hml, hown, hts, hret, hlk, hK, hnm, hR0, hn0, hm0, hs0⟩ := X
  intro H locs ls hR hL hv
  have fa : (0 < x) → A = some w := fun q => by rw [if_pos q] at hf; exact hf
  have fb : ¬ (0 < x) → B = some w := fun q => by rw [if_neg q] at hf; exact hf
  exact lv_if_gt hx hb d ht (fun q => ka (fa (q)) H locs ls hR hL hv) (fun q => kb (fb (q)) H locs ls hR hL hv)
theorem g_ifle {α : Type} {A B : Option α} {w : α} (X : CX K cc own Ts ret nm R0 n0 m0 s0) {x : Int32} {off : Int} {tgt : Nat} {inst : Decidable (0 < x)} (hf : (@ite _ (0 < x) inst A B) = some w) (d : decode cc pc = .ok (.ifCond .le off, 3)) (ht : (pc : Int) + off = (tgt : Int)) (ka : A = some w → GG K z cells slots (pc + 3) lv (st) h) (kb : B = some w → GG K z cells slots (tgt) lv (st) h) : GG K z cells slots (pc) lv (tI x :: st) h := by
  obtain ⟨p, l, e, R, s, m, args, below, meth, c, D, B0, nL, mc, ms⟩ := K
  obtain ⟨hx, hb, hml, hown, hts, hret, hlk, hK, hnm, hR0, hn0, hm0, hs0⟩ := X
  intro H locs ls hR hL hv
  have fa : (0 < x) → A = some w := fun q => by rw [if_pos q] at hf; exact hf
  have fb : ¬ (0 < x) → B = some w := fun q => by rw [if_neg q] at hf; exact hf
  exact lv_if_le hx hb d ht (fun q => kb (fb (Int32.not_lt.mpr q)) H locs ls hR hL hv) (fun q => ka (fa (Int32.not_le.mp q)) H locs ls hR hL hv)
theorem g_icmpeq {α : Type} {A B : Option α} {w : α} (X : CX K cc own Ts ret nm R0 n0 m0 s0) {x y : Int32} {off : Int} {tgt : Nat} {inst : Decidable (x = y)} (hf : (@ite _ (x = y) inst A B) = some w) (d : decode cc pc = .ok (.if_icmp .eq off, 3)) (ht : (pc : Int) + off = (tgt : Int)) (ka : A = some w → GG K z cells slots (tgt) lv (st) h) (kb : B = some w → GG K z cells slots (pc + 3) lv (st) h) : GG K z cells slots (pc) lv (tI y :: tI x :: st) h := by
  obtain ⟨p, l, e, R, s, m, args, below, meth, c, D, B0, nL, mc, ms⟩ := K
  obtain ⟨hx, hb, hml, hown, hts, hret, hlk, hK, hnm, hR0, hn0, hm0, hs0⟩ := X
  intro H locs ls hR hL hv
  have fa : (x = y) → A = some w := fun q => by rw [if_pos q] at hf; exact hf
  have fb : ¬ (x = y) → B = some w := fun q => by rw [if_neg q] at hf; exact hf
  exact lv_icmp_eq hx hb d ht (fun q => ka (fa (q)) H locs ls hR hL hv) (fun q => kb (fb (q)) H locs ls hR hL hv)
theorem g_icmpne {α : Type} {A B : Option α} {w : α} (X : CX K cc own Ts ret nm R0 n0 m0 s0) {x y : Int32} {off : Int} {tgt : Nat} {inst : Decidable (x = y)} (hf : (@ite _ (x = y) inst A B) = some w) (d : decode cc pc = .ok (.if_icmp .ne off, 3)) (ht : (pc : Int) + off = (tgt : Int)) (ka : A = some w → GG K z cells slots (pc + 3) lv (st) h) (kb : B = some w → GG K z cells slots (tgt) lv (st) h) : GG K z cells slots (pc) lv (tI y :: tI x :: st) h := by
  obtain ⟨p, l, e, R, s, m, args, below, meth, c, D, B0, nL, mc, ms⟩ := K
  obtain ⟨hx, hb, hml, hown, hts, hret, hlk, hK, hnm, hR0, hn0, hm0, hs0⟩ := X
  intro H locs ls hR hL hv
  have fa : (x = y) → A = some w := fun q => by rw [if_pos q] at hf; exact hf
  have fb : ¬ (x = y) → B = some w := fun q => by rw [if_neg q] at hf; exact hf
  exact lv_icmp_ne hx hb d ht (fun q => kb (fb (q)) H locs ls hR hL hv) (fun q => ka (fa (q)) H locs ls hR hL hv)
theorem g_icmplt {α : Type} {A B : Option α} {w : α} (X : CX K cc own Ts ret nm R0 n0 m0 s0) {x y : Int32} {off : Int} {tgt : Nat} {inst : Decidable (x < y)} (hf : (@ite _ (x < y) inst A B) = some w) (d : decode cc pc = .ok (.if_icmp .lt off, 3)) (ht : (pc : Int) + off = (tgt : Int)) (ka : A = some w → GG K z cells slots (tgt) lv (st) h) (kb : B = some w → GG K z cells slots (pc + 3) lv (st) h) : GG K z cells slots (pc) lv (tI y :: tI x :: st) h := by
  obtain ⟨p, l, e, R, s, m, args, below, meth, c, D, B0, nL, mc, ms⟩ := K
  obtain ⟨hx, hb, hml, hown, hts, hret, hlk, hK, hnm, hR0, hn0, hm0, hs0⟩ := X
  intro H locs ls hR hL hv
  have fa : (x < y) → A = some w := fun q => by rw [if_pos q] at hf; exact hf
  have fb : ¬ (x < y) → B = some w := fun q => by rw [if_neg q] at hf; exact hf
  exact lv_icmp_lt hx hb d ht (fun q => ka (fa (q)) H locs ls hR hL hv) (fun q => kb (fb (q)) H locs ls hR hL hv)
theorem g_icmpge {α : Type} {A B : Option α} {w : α} (X : CX K cc own Ts ret nm R0 n0 m0 s0) {x y : Int32} {off : Int} {tgt : Nat} {inst : Decidable (x < y)} (hf : (@ite _ (x < y) inst A B) = some w) (d : decode cc pc = .ok (.if_icmp .ge off, 3)) (ht : (pc : Int) + off = (tgt : Int)) (ka : A = some w → GG K z cells slots (pc + 3) lv (st) h) (kb : B = some w → GG K z cells slots (tgt) lv (st) h) : GG K z cells slots (pc) lv (tI y :: tI x :: st) h := by
  obtain ⟨p, l, e, R, s, m, args, below, meth, c, D, B0, nL, mc, ms⟩ := K
  obtain ⟨hx, hb, hml, hown, hts, hret, hlk, hK, hnm, hR0, hn0, hm0, hs0⟩ := X
  intro H locs ls hR hL hv
  have fa : (x < y) → A = some w := fun q => by rw [if_pos q] at hf; exact hf
  have fb : ¬ (x < y) → B = some w := fun q => by rw [if_neg q] at hf; exact hf
  exact lv_icmp_ge hx hb d ht (fun q => kb (fb (Int32.not_lt.mpr q)) H locs ls hR hL hv) (fun q => ka (fa (Int32.not_le.mp q)) H locs ls hR hL hv)
theorem g_icmpgt {α : Type} {A B : Option α} {w : α} (X : CX K cc own Ts ret nm R0 n0 m0 s0) {x y : Int32} {off : Int} {tgt : Nat} {inst : Decidable (y < x)} (hf : (@ite _ (y < x) inst A B) = some w) (d : decode cc pc = .ok (.if_icmp .gt off, 3)) (ht : (pc : Int) + off = (tgt : Int)) (ka : A = some w → GG K z cells slots (tgt) lv (st) h) (kb : B = some w → GG K z cells slots (pc + 3) lv (st) h) : GG K z cells slots (pc) lv (tI y :: tI x :: st) h := by
  obtain ⟨p, l, e, R, s, m, args, below, meth, c, D, B0, nL, mc, ms⟩ := K
  obtain ⟨hx, hb, hml, hown, hts, hret, hlk, hK, hnm, hR0, hn0, hm0, hs0⟩ := X
  intro H locs ls hR hL hv
  have fa : (y < x) → A = some w := fun q => by rw [if_pos q] at hf; exact hf
  have fb : ¬ (y < x) → B = some w := fun q => by rw [if_neg q] at hf; exact hf
  exact lv_icmp_gt hx hb d ht (fun q => ka (fa (q)) H locs ls hR hL hv) (fun q => kb (fb (q)) H locs ls hR hL hv)
theorem g_icmple {α : Type} {A B : Option α} {w : α} (X : CX K cc own Ts ret nm R0 n0 m0 s0) {x y : Int32} {off : Int} {tgt : Nat} {inst : Decidable (y < x)} (hf : (@ite _ (y < x) inst A B) = some w) (d : decode cc pc = .ok (.if_icmp .le off, 3)) (ht : (pc : Int) + off = (tgt : Int)) (ka : A = some w → GG K z cells slots (pc + 3) lv (st) h) (kb : B = some w → GG K z cells slots (tgt) lv (st) h) : GG K z cells slots (pc) lv (tI y :: tI x :: st) h := by
  obtain ⟨p, l, e, R, s, m, args, below, meth, c, D, B0, nL, mc, ms⟩ := K
  obtain ⟨hx, hb, hml, hown, hts, hret, hlk, hK, hnm, hR0, hn0, hm0, hs0⟩ := X
  intro H locs ls hR hL hv
  have fa : (y < x) → A = some w := fun q => by rw [if_pos q] at hf; exact hf
  have fb : ¬ (y < x) → B = some w := fun q => by rw [if_neg q] at hf; exact hf
  exact lv_icmp_le hx hb d ht (fun q => kb (fb (Int32.not_lt.mpr q)) H locs ls hR hL hv) (fun q => ka (fa (Int32.not_le.mp q)) H locs ls hR hL hv)
theorem g_ifnull {α : Type} {A B : Option α} {w : α} (X : CX K cc own Ts ret nm R0 n0 m0 s0) {r : Option Nat} {off : Int} {tgt : Nat} (hf : (if r = none then A else B) = some w) (d : decode cc pc = .ok (.ifnull off, 3)) (ht : (pc : Int) + off = (tgt : Int)) (ka : A = some w → GG K z cells slots (tgt) lv (st) h) (kb : B = some w → GG K z cells slots (pc + 3) lv (st) h) : GG K z cells slots (pc) lv (tR r :: st) h := by
  obtain ⟨p, l, e, R, s, m, args, below, meth, c, D, B0, nL, mc, ms⟩ := K
  obtain ⟨hx, hb, hml, hown, hts, hret, hlk, hK, hnm, hR0, hn0, hm0, hs0⟩ := X
  intro H locs ls hR hL hv
  cases r with
  | none => exact lv_ifnullN hx hb d ht (ka (by simpa using hf) H locs ls hR hL hv)
  | some a => exact lv_ifnull hx hb d (kb (by simpa using hf) H locs ls hR hL hv)
theorem g_ifnonnull {α : Type} {A B : Option α} {w : α} (X : CX K cc own Ts ret nm R0 n0 m0 s0) {r : Option Nat} {off : Int} {tgt : Nat} (hf : (if r = none then A else B) = some w) (d : decode cc pc = .ok (.ifnonnull off, 3)) (ht : (pc : Int) + off = (tgt : Int)) (ka : A = some w → GG K z cells slots (pc + 3) lv (st) h) (kb : B = some w → GG K z cells slots (tgt) lv (st) h) : GG K z cells slots (pc) lv (tR r :: st) h := by
  obtain ⟨p, l, e, R, s, m, args, below, meth, c, D, B0, nL, mc, ms⟩ := K
  obtain ⟨hx, hb, hml, hown, hts, hret, hlk, hK, hnm, hR0, hn0, hm0, hs0⟩ := X
  intro H locs ls hR hL hv
  cases r with
  | none => exact lv_ifnonnullN hx hb d (ka (by simpa using hf) H locs ls hR hL hv)
  | some a => exact lv_ifnonnull hx hb d ht (kb (by simpa using hf) H locs ls hR hL hv)
theorem g_tabOut (X : CX K cc own Ts ret nm R0 n0 m0 s0) {x : Int32} {dflt lo hi : Int} {offs : Array Int} {len tgt : Nat} (d : decode cc pc = .ok (.tableswitch dflt lo hi offs, len)) (hq : x.toInt < lo ∨ hi < x.toInt) (ht : (pc : Int) + dflt = (tgt : Int)) (kk : GG K z cells slots (tgt) lv (st) h) : GG K z cells slots (pc) lv (tI x :: st) h := by
  obtain ⟨p, l, e, R, s, m, args, below, meth, c, D, B0, nL, mc, ms⟩ := K
  obtain ⟨hx, hb, hml, hown, hts, hret, hlk, hK, hnm, hR0, hn0, hm0, hs0⟩ := X
  intro H locs ls hR hL hv
  exact lv_tableOut hx hb d hq ht (kk H locs ls hR hL hv)
theorem g_tabIn (X : CX K cc own Ts ret nm R0 n0 m0 s0) {x : Int32} {dflt lo hi off : Int} {offs : Array Int} {len tgt : Nat} (v : Int32) (hxv : x = v) (d : decode cc pc = .ok (.tableswitch dflt lo hi offs, len)) (h1 : ¬ v.toInt < lo) (h2 : ¬ hi < v.toInt) (ho : offs[(v.toInt - lo).toNat]? = some off) (ht : (pc : Int) + off = (tgt : Int)) (kk : GG K z cells slots (tgt) lv (st) h) : GG K z cells slots (pc) lv (tI x :: st) h := by
  obtain ⟨p, l, e, R, s, m, args, below, meth, c, D, B0, nL, mc, ms⟩ := K
  obtain ⟨hx, hb, hml, hown, hts, hret, hlk, hK, hnm, hR0, hn0, hm0, hs0⟩ := X
  intro H locs ls hR hL hv
  subst hxv
  exact lv_tableIn hx hb d h1 h2 ho ht (kk H locs ls hR hL hv)
theorem g_locs {lv' : List (Nat × TV)} (hl : ∀ q ∈ lv', q ∈ lv) (kk : GG K z cells slots (pc) lv' (st) h) : GG K z cells slots (pc) lv (st) h := by
  obtain ⟨p, l, e, R, s, m, args, below, meth, c, D, B0, nL, mc, ms⟩ := K
  intro H locs ls hR hL hv
  exact kk H locs ls hR hL (LH.sub hv hl)
end GROWS
