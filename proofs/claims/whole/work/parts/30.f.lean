def b_X12_heap_12    : Nat → Option Nat → Int32 → Int32 → AH → Option (Int32 × AH)
  | 0 => fun _ _ _ _ => none
  | n + 1 => fun x0 x1 x2 h =>
    (gR 12 0 h x0).bind fun v1 =>
    (aI h v1 8).bind fun v2 =>
    if x2 < v2 then
      (gR 12 0 h x0).bind fun v3 =>
      (aI h v3 (1011 + x2)).bind fun v4 =>
      if v4 = x1 then
        some ((-4), h)
      else
        b_X12_heap_12 n x0 x1 (x2 + 1) h
    else
      (gR 12 0 h x0).bind fun v5 =>
      (aI h v5 8).bind fun v6 =>
      if v6 = 9 then
        some ((-2), h)
      else
        (gR 12 0 h x0).bind fun v7 =>
        (gR 12 0 h x0).bind fun v8 =>
        (aI h v8 8).bind fun v9 =>
        (sI h v7 (1011 + v9) x1).bind fun h10 =>
        (gR 12 0 h10 x0).bind fun v11 =>
        (aI h10 v11 8).bind fun v12 =>
        (sI h10 v11 8 (v12 + 1)).bind fun h13 =>
        (gR 12 0 h13 x0).bind fun v14 =>
        (aI h13 v14 8).bind fun v15 =>
        some (v15, h13)
set_option maxRecDepth 20000 in
theorem w_X12_heap_12 {K : KT} {w : (Int32 × AH)}   (X : CX K cX12_heap RX12 TB (some .int) "heap" (rmD 3 0 0) 3 0 0)  : ∀ (n : Nat) (x0 : Option Nat) (x1 : Int32) (x2 : Int32) (h : AH), b_X12_heap_12 n x0 x1 x2 h = some w → GG K (some (tI w.1), w.2) 0 0 12 [(0, tR x0), (1, tI x1), (2, tI x2)] [] h := by
  intro n
  induction n with
  | zero =>
    intro x0 x1 x2 h hf
    cases (show none = some w from hf)
  | succ n ih =>
    intro x0 x1 x2 h hf
    rw [b_X12_heap_12] at hf
    refine g_iload_n X dX12_heap_12 2 rfl ?_
    refine g_aload_n X dX12_heap_13 0 rfl ?_
    refine g_getR X hf (T := TX12) rfl (by decide) (by decide) in_RX12 tb_1135 rfl dX12_heap_14 (fun v1 hf => ?_)
    refine g_bipush (v := 8) X dX12_heap_17 (by decide) ?_
    refine g_iaload X hf dX12_heap_19 (fun v2 hf => ?_)
    refine g_icmpge (tgt := 46) X hf dX12_heap_20 (by decide) (fun hf => ?_) (fun hf => ?_)
    · refine g_aload_n X dX12_heap_23 0 rfl ?_
      refine g_getR X hf (T := TX12) rfl (by decide) (by decide) in_RX12 tb_1135 rfl dX12_heap_24 (fun v3 hf => ?_)
      refine g_sipush (v := 1011) X dX12_heap_27 (by decide) ?_
      refine g_iload_n X dX12_heap_30 2 rfl ?_
      refine g_iadd X dX12_heap_31 ?_
      refine g_iaload X hf dX12_heap_32 (fun v4 hf => ?_)
      refine g_iload_n X dX12_heap_33 1 rfl ?_
      refine g_icmpne (tgt := 40) X hf dX12_heap_34 (by decide) (fun hf => ?_) (fun hf => ?_)
      · refine g_bipush (v := (-4)) X dX12_heap_37 (by decide) ?_
        exact g_ireturn X (zW hf) (by decide) (by decide) dX12_heap_39
      · refine g_iinc (v := (x2 + 1)) (lv' := [(0, tR x0), (1, tI x1), (2, tI (x2 + 1))]) X dX12_heap_40 2 rfl (by rfl) (by decide) (in_pick [1, 2, 0] rfl) ?_
        refine g_goto (tgt := 12) X dX12_heap_43 (by decide) ?_
        exact ih x0 x1 (x2 + 1) h hf
    · refine g_aload_n X dX12_heap_46 0 rfl ?_
      refine g_getR X hf (T := TX12) rfl (by decide) (by decide) in_RX12 tb_1135 rfl dX12_heap_47 (fun v5 hf => ?_)
      refine g_bipush (v := 8) X dX12_heap_50 (by decide) ?_
      refine g_iaload X hf dX12_heap_52 (fun v6 hf => ?_)
      refine g_bipush (v := 9) X dX12_heap_53 (by decide) ?_
      refine g_icmpne (tgt := 61) X hf dX12_heap_55 (by decide) (fun hf => ?_) (fun hf => ?_)
      · refine g_bipush (v := (-2)) X dX12_heap_58 (by decide) ?_
        exact g_ireturn X (zW hf) (by decide) (by decide) dX12_heap_60
      · refine g_aload_n X dX12_heap_61 0 rfl ?_
        refine g_getR X hf (T := TX12) rfl (by decide) (by decide) in_RX12 tb_1135 rfl dX12_heap_62 (fun v7 hf => ?_)
        refine g_sipush (v := 1011) X dX12_heap_65 (by decide) ?_
        refine g_aload_n X dX12_heap_68 0 rfl ?_
        refine g_getR X hf (T := TX12) rfl (by decide) (by decide) in_RX12 tb_1135 rfl dX12_heap_69 (fun v8 hf => ?_)
        refine g_bipush (v := 8) X dX12_heap_72 (by decide) ?_
        refine g_iaload X hf dX12_heap_74 (fun v9 hf => ?_)
        refine g_iadd X dX12_heap_75 ?_
        refine g_iload_n X dX12_heap_76 1 rfl ?_
        refine g_iastore X hf dX12_heap_77 (fun h10 hf => ?_)
        refine g_aload_n X dX12_heap_78 0 rfl ?_
        refine g_getR X hf (T := TX12) rfl (by decide) (by decide) in_RX12 tb_1135 rfl dX12_heap_79 (fun v11 hf => ?_)
        refine g_bipush (v := 8) X dX12_heap_82 (by decide) ?_
        refine g_dup2 X dX12_heap_84 rfl rfl ?_
        refine g_iaload X hf dX12_heap_85 (fun v12 hf => ?_)
        refine g_iconst (v := 1) X dX12_heap_86 (by decide) ?_
        refine g_iadd X dX12_heap_87 ?_
        refine g_iastore X hf dX12_heap_88 (fun h13 hf => ?_)
        refine g_aload_n X dX12_heap_89 0 rfl ?_
        refine g_getR X hf (T := TX12) rfl (by decide) (by decide) in_RX12 tb_1135 rfl dX12_heap_90 (fun v14 hf => ?_)
        refine g_bipush (v := 8) X dX12_heap_93 (by decide) ?_
        refine g_iaload X hf dX12_heap_95 (fun v15 hf => ?_)
        exact g_ireturn X (zW hf) (by decide) (by decide) dX12_heap_96
def f_X12_heap  (a0 : Option Nat) (a1 : Int32) (h : AH) : Option (Int32 × AH) :=
  (ck 12 h a0 (f_X12_isSherd a0 a1 h)).bind fun v1 =>
  if v1 = 0 then
    some ((-1), h)
  else
    b_X12_heap_12 FU a0 a1 0 h
set_option maxRecDepth 20000 in
theorem m_X12_heap  {a0 : Option Nat} {a1 : Int32} {h : AH} {w : (Int32 × AH)} (hf : f_X12_heap a0 a1 h = some w) : CT yX12_heap (wU yX12_heap cX12_heap 3 (some .int)) (rmD 3 0 0) 0 0 [tR a0, tI a1] h (some (tI w.1), w.2) := by
  refine CT.of (cc := cX12_heap) (nL := 3) (ret := (some .int)) (by decide) (by simp [lg_sl, vOf_cat, wOf]) ?_
  intro K X
  refine g_locs (lv' := [(0, tR a0), (1, tI a1)]) (fun q hq => hq) ?_
  unfold f_X12_heap at hf
  refine g_aload_n X dX12_heap_0 0 rfl ?_
  refine g_iload_n X dX12_heap_1 1 rfl ?_
  refine g_callV (n := 1) (av := [tI a1]) (rest := []) (k := 12) X hf (fun v1 => (some (tI v1), h)) (fun _ q => m_X12_isSherd q) (gdV tb_1343 tb_1344 tb_1698 tb_12 tb_1345) rfl (by decide +kernel) rfl (by decide) rfl (by decide) (by decide) rfl (Nat.le_of_ble_eq_true rfl) dX12_heap_2 (fun v1 hf => ?_)
  refine g_ifne (tgt := 10) X hf dX12_heap_5 (by decide) (fun hf => ?_) (fun hf => ?_)
  · refine g_iconst (v := (-1)) X dX12_heap_8 (by decide) ?_
    exact g_ireturn X (zW hf) (by decide) (by decide) dX12_heap_9
  · refine g_iconst (v := 0) X dX12_heap_10 (by decide) ?_
    refine g_istore_n (lv' := [(0, tR a0), (1, tI a1), (2, tI 0)]) X dX12_heap_11 (by decide) (in_pick [1, 2, 0] rfl) ?_
    exact w_X12_heap_12 X FU a0 a1 0 h hf
def f_X12_clear  (a0 : Option Nat) (h : AH) : Option (Int32 × AH) :=
  (gR 12 0 h a0).bind fun v1 =>
  (aI h v1 8).bind fun v2 =>
  (gR 12 0 h a0).bind fun v3 =>
  (sI h v3 8 0).bind fun h4 =>
  some (v2, h4)
set_option maxRecDepth 20000 in
theorem m_X12_clear  {a0 : Option Nat} {h : AH} {w : (Int32 × AH)} (hf : f_X12_clear a0 h = some w) : CT yX12_clear (wU yX12_clear cX12_clear 2 (some .int)) (rmD 1 0 0) 0 0 [tR a0] h (some (tI w.1), w.2) := by
  refine CT.of (cc := cX12_clear) (nL := 2) (ret := (some .int)) (by decide) (by simp [lg_sl, vOf_cat, wOf]) ?_
  intro K X
  refine g_locs (lv' := [(0, tR a0)]) (fun q hq => hq) ?_
  unfold f_X12_clear at hf
  refine g_aload_n X dX12_clear_0 0 rfl ?_
  refine g_getR X hf (T := TX12) rfl (by decide) (by decide) in_RX12 tb_1135 rfl dX12_clear_1 (fun v1 hf => ?_)
  refine g_bipush (v := 8) X dX12_clear_4 (by decide) ?_
  refine g_iaload X hf dX12_clear_6 (fun v2 hf => ?_)
  refine g_istore_n (lv' := [(0, tR a0), (1, tI v2)]) X dX12_clear_7 (by decide) (in_pick [1, 0] rfl) ?_
  refine g_aload_n X dX12_clear_8 0 rfl ?_
  refine g_getR X hf (T := TX12) rfl (by decide) (by decide) in_RX12 tb_1135 rfl dX12_clear_9 (fun v3 hf => ?_)
  refine g_bipush (v := 8) X dX12_clear_12 (by decide) ?_
  refine g_iconst (v := 0) X dX12_clear_14 (by decide) ?_
  refine g_iastore X hf dX12_clear_15 (fun h4 hf => ?_)
  refine g_iload_n X dX12_clear_16 1 rfl ?_
  exact g_ireturn X (zW hf) (by decide) (by decide) dX12_clear_17
def b_X12_areAlike_62  (k29 : Option Nat → Int32 → Int32 → Int32 → Int32 → Option Int32) (h : AH) (x0 : Option Nat) (x3 : Int32) (x4 : Int32) (x6 : Int32) (s0 : Int32) (s1 : Int32) : Option Int32 :=
  k29 x0 (x3 / 10) (x4 / 10) (s0 + s1) (x6 + 1)
set_option maxRecDepth 20000 in
theorem w_X12_areAlike_62 {K : KT} {w : Int32} {h : AH} {k29 : Option Nat → Int32 → Int32 → Int32 → Int32 → Option Int32}  (X : CX K cX12_areAlike RX12 TB (some .boolean) "areAlike" (rmD 1 0 0) 8 0 0) (hk29 : ∀ (x0 : Option Nat) (x3 : Int32) (x4 : Int32) (x5 : Int32) (x6 : Int32), k29 x0 x3 x4 x5 x6 = some w → GG K (some (tI w), h) 0 0 29 [(0, tR x0), (3, tI x3), (4, tI x4), (5, tI x5), (6, tI x6)] [] h) (x0 : Option Nat) (x3 : Int32) (x4 : Int32) (x6 : Int32) (s0 : Int32) (s1 : Int32) (hf : b_X12_areAlike_62 k29 h x0 x3 x4 x6 s0 s1 = some w) : GG K (some (tI w), h) 0 0 62 [(0, tR x0), (3, tI x3), (4, tI x4), (6, tI x6)] [tI s1, tI s0] h := by
  unfold b_X12_areAlike_62 at hf
  refine g_iadd X dX12_areAlike_62 ?_
  refine g_istore (lv' := [(0, tR x0), (3, tI x3), (4, tI x4), (5, tI (s0 + s1)), (6, tI x6)]) X dX12_areAlike_63 (by decide) (in_pick [1, 2, 3, 0, 4] rfl) ?_
  refine g_iload_n X dX12_areAlike_65 1 rfl ?_
  refine g_bipush (v := 10) X dX12_areAlike_66 (by decide) ?_
  refine g_idivc X dX12_areAlike_68 (by decide) ?_
  refine g_istore_n (lv' := [(0, tR x0), (3, tI (x3 / 10)), (4, tI x4), (5, tI (s0 + s1)), (6, tI x6)]) X dX12_areAlike_69 (by decide) (in_pick [1, 0, 2, 3, 4] rfl) ?_
  refine g_iload X dX12_areAlike_70 2 rfl ?_
  refine g_bipush (v := 10) X dX12_areAlike_72 (by decide) ?_
  refine g_idivc X dX12_areAlike_74 (by decide) ?_
  refine g_istore (lv' := [(0, tR x0), (3, tI (x3 / 10)), (4, tI (x4 / 10)), (5, tI (s0 + s1)), (6, tI x6)]) X dX12_areAlike_75 (by decide) (in_pick [1, 2, 0, 3, 4] rfl) ?_
  refine g_iinc (v := (x6 + 1)) (lv' := [(0, tR x0), (3, tI (x3 / 10)), (4, tI (x4 / 10)), (5, tI (s0 + s1)), (6, tI (x6 + 1))]) X dX12_areAlike_77 4 rfl (by rfl) (by decide) (in_pick [1, 2, 3, 4, 0] rfl) ?_
  refine g_goto (tgt := 29) X dX12_areAlike_80 (by decide) ?_
  exact hk29 x0 (x3 / 10) (x4 / 10) (s0 + s1) (x6 + 1) hf
def b_X12_areAlike_29   (h : AH) : Nat → Option Nat → Int32 → Int32 → Int32 → Int32 → Option Int32
  | 0 => fun _ _ _ _ _ => none
  | n + 1 => fun x0 x3 x4 x5 x6 =>
    if x6 < 4 then
      if ((iRem x3 10) - (iRem x4 10)) < 0 then
        b_X12_areAlike_62 (b_X12_areAlike_29 h n) h x0 x3 x4 x6 x5 (-((iRem x3 10) - (iRem x4 10)))
      else
        b_X12_areAlike_62 (b_X12_areAlike_29 h n) h x0 x3 x4 x6 x5 ((iRem x3 10) - (iRem x4 10))
    else
      (gR 12 0 h x0).bind fun v1 =>
      (aI h v1 12).bind fun v2 =>
      if v2 < x5 then
        some 0
      else
        some 1
set_option maxRecDepth 20000 in
theorem w_X12_areAlike_29 {K : KT} {w : Int32} {h : AH}   (X : CX K cX12_areAlike RX12 TB (some .boolean) "areAlike" (rmD 1 0 0) 8 0 0)  : ∀ (n : Nat) (x0 : Option Nat) (x3 : Int32) (x4 : Int32) (x5 : Int32) (x6 : Int32), b_X12_areAlike_29 h n x0 x3 x4 x5 x6 = some w → GG K (some (tI w), h) 0 0 29 [(0, tR x0), (3, tI x3), (4, tI x4), (5, tI x5), (6, tI x6)] [] h := by
  intro n
  induction n with
  | zero =>
    intro x0 x3 x4 x5 x6 hf
    cases (show none = some w from hf)
  | succ n ih =>
    intro x0 x3 x4 x5 x6 hf
    rw [b_X12_areAlike_29] at hf
    refine g_iload X dX12_areAlike_29 4 rfl ?_
    refine g_iconst (v := 4) X dX12_areAlike_31 (by decide) ?_
    refine g_icmpge (tgt := 83) X hf dX12_areAlike_32 (by decide) (fun hf => ?_) (fun hf => ?_)
    · refine g_iload_n X dX12_areAlike_35 1 rfl ?_
      refine g_bipush (v := 10) X dX12_areAlike_36 (by decide) ?_
      refine g_iremc X dX12_areAlike_38 (by decide) ?_
      refine g_iload X dX12_areAlike_39 2 rfl ?_
      refine g_bipush (v := 10) X dX12_areAlike_41 (by decide) ?_
      refine g_iremc X dX12_areAlike_43 (by decide) ?_
      refine g_isub X dX12_areAlike_44 ?_
      refine g_istore (lv' := [(0, tR x0), (3, tI x3), (4, tI x4), (5, tI x5), (6, tI x6), (7, tI ((iRem x3 10) - (iRem x4 10)))]) X dX12_areAlike_45 (by decide) (in_pick [1, 2, 3, 4, 5, 0] rfl) ?_
      refine g_iload X dX12_areAlike_47 3 rfl ?_
      refine g_iload X dX12_areAlike_49 5 rfl ?_
      refine g_ifge (tgt := 60) X hf dX12_areAlike_51 (by decide) (fun hf => ?_) (fun hf => ?_)
      · refine g_iload X dX12_areAlike_54 5 rfl ?_
        refine g_ineg X dX12_areAlike_56 ?_
        refine g_goto (tgt := 62) X dX12_areAlike_57 (by decide) ?_
        refine g_locs (lv' := [(0, tR x0), (3, tI x3), (4, tI x4), (6, tI x6)]) (in_pick [0, 1, 2, 4] rfl) ?_
        exact w_X12_areAlike_62 X ih x0 x3 x4 x6 x5 (-((iRem x3 10) - (iRem x4 10))) hf
      · refine g_iload X dX12_areAlike_60 5 rfl ?_
        refine g_locs (lv' := [(0, tR x0), (3, tI x3), (4, tI x4), (6, tI x6)]) (in_pick [0, 1, 2, 4] rfl) ?_
        exact w_X12_areAlike_62 X ih x0 x3 x4 x6 x5 ((iRem x3 10) - (iRem x4 10)) hf
    · refine g_iload X dX12_areAlike_83 3 rfl ?_
      refine g_aload_n X dX12_areAlike_85 0 rfl ?_
      refine g_getR X hf (T := TX12) rfl (by decide) (by decide) in_RX12 tb_1135 rfl dX12_areAlike_86 (fun v1 hf => ?_)
      refine g_bipush (v := 12) X dX12_areAlike_89 (by decide) ?_
      refine g_iaload X hf dX12_areAlike_91 (fun v2 hf => ?_)
      refine g_icmpgt (tgt := 99) X hf dX12_areAlike_92 (by decide) (fun hf => ?_) (fun hf => ?_)
      · refine g_iconst (v := 0) X dX12_areAlike_99 (by decide) ?_
        exact g_zreturn X (zP hf) (by decide) (by decide) (by decide) dX12_areAlike_100
      · refine g_iconst (v := 1) X dX12_areAlike_95 (by decide) ?_
        refine g_goto (tgt := 100) X dX12_areAlike_96 (by decide) ?_
        exact g_zreturn X (zP hf) (by decide) (by decide) (by decide) dX12_areAlike_100
def f_X12_areAlike  (a0 : Option Nat) (a1 : Int32) (a2 : Int32) (h : AH) : Option Int32 :=
  (gR 12 0 h a0).bind fun v1 =>
  (aI h v1 (891 + a1)).bind fun v2 =>
  (gR 12 0 h a0).bind fun v3 =>
  (aI h v3 (891 + a2)).bind fun v4 =>
  b_X12_areAlike_29 h FU a0 v2 v4 0 0
set_option maxRecDepth 20000 in
theorem m_X12_areAlike  {a0 : Option Nat} {a1 : Int32} {a2 : Int32} {h : AH} {w : Int32} (hf : f_X12_areAlike a0 a1 a2 h = some w) : CT yX12_areAlike (wU yX12_areAlike cX12_areAlike 8 (some .boolean)) (rmD 1 0 0) 0 0 [tR a0, tI a1, tI a2] h (some (tI w), h) := by
  refine CT.of (cc := cX12_areAlike) (nL := 8) (ret := (some .boolean)) (by decide) (by simp [lg_sl, vOf_cat, wOf]) ?_
  intro K X
  refine g_locs (lv' := [(0, tR a0), (1, tI a1), (2, tI a2)]) (fun q hq => hq) ?_
  unfold f_X12_areAlike at hf
  refine g_aload_n X dX12_areAlike_0 0 rfl ?_
  refine g_getR X hf (T := TX12) rfl (by decide) (by decide) in_RX12 tb_1135 rfl dX12_areAlike_1 (fun v1 hf => ?_)
  refine g_sipush (v := 891) X dX12_areAlike_4 (by decide) ?_
  refine g_iload_n X dX12_areAlike_7 1 rfl ?_
  refine g_iadd X dX12_areAlike_8 ?_
  refine g_iaload X hf dX12_areAlike_9 (fun v2 hf => ?_)
  refine g_istore_n (lv' := [(0, tR a0), (1, tI a1), (2, tI a2), (3, tI v2)]) X dX12_areAlike_10 (by decide) (in_pick [1, 2, 3, 0] rfl) ?_
  refine g_aload_n X dX12_areAlike_11 0 rfl ?_
  refine g_getR X hf (T := TX12) rfl (by decide) (by decide) in_RX12 tb_1135 rfl dX12_areAlike_12 (fun v3 hf => ?_)
  refine g_sipush (v := 891) X dX12_areAlike_15 (by decide) ?_
  refine g_iload_n X dX12_areAlike_18 2 rfl ?_
  refine g_iadd X dX12_areAlike_19 ?_
  refine g_iaload X hf dX12_areAlike_20 (fun v4 hf => ?_)
  refine g_istore (lv' := [(0, tR a0), (1, tI a1), (2, tI a2), (3, tI v2), (4, tI v4)]) X dX12_areAlike_21 (by decide) (in_pick [1, 2, 3, 4, 0] rfl) ?_
  refine g_iconst (v := 0) X dX12_areAlike_23 (by decide) ?_
  refine g_istore (lv' := [(0, tR a0), (1, tI a1), (2, tI a2), (3, tI v2), (4, tI v4), (5, tI 0)]) X dX12_areAlike_24 (by decide) (in_pick [1, 2, 3, 4, 5, 0] rfl) ?_
  refine g_iconst (v := 0) X dX12_areAlike_26 (by decide) ?_
  refine g_istore (lv' := [(0, tR a0), (1, tI a1), (2, tI a2), (3, tI v2), (4, tI v4), (5, tI 0), (6, tI 0)]) X dX12_areAlike_27 (by decide) (in_pick [1, 2, 3, 4, 5, 6, 0] rfl) ?_
  refine g_locs (lv' := [(0, tR a0), (3, tI v2), (4, tI v4), (5, tI 0), (6, tI 0)]) (in_pick [0, 3, 4, 5, 6] rfl) ?_
  exact w_X12_areAlike_29 X FU a0 v2 v4 0 0 hf
def f_X12_alike  (a0 : Option Nat) (a1 : Int32) (a2 : Int32) (h : AH) : Option Int32 :=
  (ck 12 h a0 (f_X12_isSherd a0 a1 h)).bind fun v1 =>
  if v1 = 0 then
    some (-1)
  else
    (ck 12 h a0 (f_X12_isSherd a0 a2 h)).bind fun v2 =>
    if v2 = 0 then
      some (-1)
    else
      (ck 12 h a0 (f_X12_areAlike a0 a1 a2 h)).bind fun v3 =>
      if v3 = 0 then
        some 0
      else
        some 1
set_option maxRecDepth 20000 in
theorem m_X12_alike  {a0 : Option Nat} {a1 : Int32} {a2 : Int32} {h : AH} {w : Int32} (hf : f_X12_alike a0 a1 a2 h = some w) : CT yX12_alike (wU yX12_alike cX12_alike 3 (some .int)) (rmD 3 0 0) 0 0 [tR a0, tI a1, tI a2] h (some (tI w), h) := by
  refine CT.of (cc := cX12_alike) (nL := 3) (ret := (some .int)) (by decide) (by simp [lg_sl, vOf_cat, wOf]) ?_
  intro K X
  refine g_locs (lv' := [(0, tR a0), (1, tI a1), (2, tI a2)]) (fun q hq => hq) ?_
  unfold f_X12_alike at hf
  refine g_aload_n X dX12_alike_0 0 rfl ?_
  refine g_iload_n X dX12_alike_1 1 rfl ?_
  refine g_callV (n := 1) (av := [tI a1]) (rest := []) (k := 12) X hf (fun v1 => (some (tI v1), h)) (fun _ q => m_X12_isSherd q) (gdV tb_1343 tb_1344 tb_1698 tb_12 tb_1345) rfl (by decide +kernel) rfl (by decide) rfl (by decide) (by decide) rfl (Nat.le_of_ble_eq_true rfl) dX12_alike_2 (fun v1 hf => ?_)
  refine g_ifeq (tgt := 16) X hf dX12_alike_5 (by decide) (fun hf => ?_) (fun hf => ?_)
  · refine g_iconst (v := (-1)) X dX12_alike_16 (by decide) ?_
    exact g_ireturn X (zP hf) (by decide) (by decide) dX12_alike_17
  · refine g_aload_n X dX12_alike_8 0 rfl ?_
    refine g_iload_n X dX12_alike_9 2 rfl ?_
    refine g_callV (n := 1) (av := [tI a2]) (rest := []) (k := 12) X hf (fun v2 => (some (tI v2), h)) (fun _ q => m_X12_isSherd q) (gdV tb_1343 tb_1344 tb_1698 tb_12 tb_1345) rfl (by decide +kernel) rfl (by decide) rfl (by decide) (by decide) rfl (Nat.le_of_ble_eq_true rfl) dX12_alike_10 (fun v2 hf => ?_)
    refine g_ifne (tgt := 18) X hf dX12_alike_13 (by decide) (fun hf => ?_) (fun hf => ?_)
    · refine g_iconst (v := (-1)) X dX12_alike_16 (by decide) ?_
      exact g_ireturn X (zP hf) (by decide) (by decide) dX12_alike_17
    · refine g_aload_n X dX12_alike_18 0 rfl ?_
      refine g_iload_n X dX12_alike_19 1 rfl ?_
      refine g_iload_n X dX12_alike_20 2 rfl ?_
      refine g_callV (n := 2) (av := [tI a1, tI a2]) (rest := []) (k := 12) X hf (fun v3 => (some (tI v3), h)) (fun _ q => m_X12_areAlike q) (gdV tb_1544 tb_1545 tb_1728 tb_12 tb_1546) rfl (by decide +kernel) rfl (by decide) rfl (by decide) (by decide) rfl (Nat.le_of_ble_eq_true rfl) dX12_alike_21 (fun v3 hf => ?_)
      refine g_ifeq (tgt := 31) X hf dX12_alike_24 (by decide) (fun hf => ?_) (fun hf => ?_)
      · refine g_iconst (v := 0) X dX12_alike_31 (by decide) ?_
        exact g_ireturn X (zP hf) (by decide) (by decide) dX12_alike_32
      · refine g_iconst (v := 1) X dX12_alike_27 (by decide) ?_
        refine g_goto (tgt := 32) X dX12_alike_28 (by decide) ?_
        exact g_ireturn X (zP hf) (by decide) (by decide) dX12_alike_32
def b_X12_parts_126 (kr : Option Nat → Int32 → Int32 → Int32 → AH → Option (Int32 × AH)) (k16 : Option Nat → Int32 → Int32 → Int32 → Int32 → AH → Option (Int32 × AH)) (x0 : Option Nat) (x1 : Int32) (x2 : Int32) (x3 : Int32) (x4 : Int32) (s0 : Option Nat) (s1 : Int32) (s2 : Int32) (h : AH) : Option (Int32 × AH) :=
  (ck 12 h s0 (kr s0 s1 s2 x3 h)).bind fun p1 =>
  if p1.1 = 0 then
    k16 x0 x1 x2 x3 (x4 + 1) p1.2
  else
    some (1, p1.2)
set_option maxRecDepth 20000 in
theorem w_X12_parts_126 {K : KT} {w : (Int32 × AH)} {k16 : Option Nat → Int32 → Int32 → Int32 → Int32 → AH → Option (Int32 × AH)} {dd : Nat} {kr : Option Nat → Int32 → Int32 → Int32 → AH → Option (Int32 × AH)} (hdd : 1 ≤ dd) (hkr : ∀ {b0 : Option Nat} {b1 : Int32} {b2 : Int32} {b3 : Int32} {h : AH} {v : (Int32 × AH)}, kr b0 b1 b2 b3 h = some v → CT yX12_parts (wU yX12_parts cX12_parts 7 (some .boolean)) (rmD dd 0 0) 0 0 [tR b0, tI b1, tI b2, tI b3] h (some (tI v.1), v.2)) (X : CX K cX12_parts RX12 TB (some .boolean) "parts" (rmD (dd + 1) 0 0) 7 0 0) (hk16 : ∀ (x0 : Option Nat) (x1 : Int32) (x2 : Int32) (x3 : Int32) (x4 : Int32) (h : AH), k16 x0 x1 x2 x3 x4 h = some w → GG K (some (tI w.1), w.2) 0 0 16 [(0, tR x0), (1, tI x1), (2, tI x2), (3, tI x3), (4, tI x4)] [] h) (x0 : Option Nat) (x1 : Int32) (x2 : Int32) (x3 : Int32) (x4 : Int32) (s0 : Option Nat) (s1 : Int32) (s2 : Int32) (h : AH) (hf : b_X12_parts_126 kr k16 x0 x1 x2 x3 x4 s0 s1 s2 h = some w) : GG K (some (tI w.1), w.2) 0 0 126 [(0, tR x0), (1, tI x1), (2, tI x2), (3, tI x3), (4, tI x4)] [tI s2, tI s1, tR s0] h := by
  unfold b_X12_parts_126 at hf
  refine g_iload_n X dX12_parts_126 3 rfl ?_
  refine g_callV (n := 3) (av := [tI s1, tI s2, tI x3]) (rest := []) (k := 12) X hf (fun p1 => (some (tI p1.1), p1.2)) (fun _ q => hkr q) (gdV tb_1551 tb_1552 tb_1729 tb_12 tb_1553) rfl (by decide +kernel) rfl (by decide) rfl (by constructor <;> simp only [rmD] <;> omega) ⟨Nat.zero_le _, Nat.zero_le _⟩ rfl (Nat.le_of_ble_eq_true rfl) dX12_parts_127 (fun p1 hf => ?_)
  refine g_ifeq (tgt := 135) X hf dX12_parts_130 (by decide) (fun hf => ?_) (fun hf => ?_)
  · refine g_iinc (v := (x4 + 1)) (lv' := [(0, tR x0), (1, tI x1), (2, tI x2), (3, tI x3), (4, tI (x4 + 1))]) X dX12_parts_135 4 rfl (by rfl) (by decide) (in_pick [1, 2, 3, 4, 0] rfl) ?_
    refine g_goto (tgt := 16) X dX12_parts_138 (by decide) ?_
    exact hk16 x0 x1 x2 x3 (x4 + 1) p1.2 hf
  · refine g_iconst (v := 1) X dX12_parts_133 (by decide) ?_
    exact g_zreturn X (zW hf) (by decide) (by decide) (by decide) dX12_parts_134
def b_X12_parts_87 (kr : Option Nat → Int32 → Int32 → Int32 → AH → Option (Int32 × AH)) (k16 : Option Nat → Int32 → Int32 → Int32 → Int32 → AH → Option (Int32 × AH)) (k34 : Option Nat → Int32 → Int32 → Int32 → Int32 → Int32 → Int32 → AH → Option (Int32 × AH)) (x0 : Option Nat) (x1 : Int32) (x2 : Int32) (x3 : Int32) (x4 : Int32) (x6 : Int32) (s0 : Int32) (s1 : Int32) (h : AH) : Option (Int32 × AH) :=
  k34 x0 x1 x2 x3 x4 (s0 &&& s1) (x6 + 1) h
set_option maxRecDepth 20000 in
theorem w_X12_parts_87 {K : KT} {w : (Int32 × AH)} {k16 : Option Nat → Int32 → Int32 → Int32 → Int32 → AH → Option (Int32 × AH)} {k34 : Option Nat → Int32 → Int32 → Int32 → Int32 → Int32 → Int32 → AH → Option (Int32 × AH)} {dd : Nat} {kr : Option Nat → Int32 → Int32 → Int32 → AH → Option (Int32 × AH)} (hdd : 1 ≤ dd) (hkr : ∀ {b0 : Option Nat} {b1 : Int32} {b2 : Int32} {b3 : Int32} {h : AH} {v : (Int32 × AH)}, kr b0 b1 b2 b3 h = some v → CT yX12_parts (wU yX12_parts cX12_parts 7 (some .boolean)) (rmD dd 0 0) 0 0 [tR b0, tI b1, tI b2, tI b3] h (some (tI v.1), v.2)) (X : CX K cX12_parts RX12 TB (some .boolean) "parts" (rmD (dd + 1) 0 0) 7 0 0) (hk16 : ∀ (x0 : Option Nat) (x1 : Int32) (x2 : Int32) (x3 : Int32) (x4 : Int32) (h : AH), k16 x0 x1 x2 x3 x4 h = some w → GG K (some (tI w.1), w.2) 0 0 16 [(0, tR x0), (1, tI x1), (2, tI x2), (3, tI x3), (4, tI x4)] [] h) (hk34 : ∀ (x0 : Option Nat) (x1 : Int32) (x2 : Int32) (x3 : Int32) (x4 : Int32) (x5 : Int32) (x6 : Int32) (h : AH), k34 x0 x1 x2 x3 x4 x5 x6 h = some w → GG K (some (tI w.1), w.2) 0 0 34 [(0, tR x0), (1, tI x1), (2, tI x2), (3, tI x3), (4, tI x4), (5, tI x5), (6, tI x6)] [] h) (x0 : Option Nat) (x1 : Int32) (x2 : Int32) (x3 : Int32) (x4 : Int32) (x6 : Int32) (s0 : Int32) (s1 : Int32) (h : AH) (hf : b_X12_parts_87 kr k16 k34 x0 x1 x2 x3 x4 x6 s0 s1 h = some w) : GG K (some (tI w.1), w.2) 0 0 87 [(0, tR x0), (1, tI x1), (2, tI x2), (3, tI x3), (4, tI x4), (6, tI x6)] [tI s1, tI s0] h := by
  unfold b_X12_parts_87 at hf
  refine g_iand X dX12_parts_87 ?_
  refine g_istore (lv' := [(0, tR x0), (1, tI x1), (2, tI x2), (3, tI x3), (4, tI x4), (5, tI (s0 &&& s1)), (6, tI x6)]) X dX12_parts_88 (by decide) (in_pick [1, 2, 3, 4, 5, 0, 6] rfl) ?_
  refine g_iinc (v := (x6 + 1)) (lv' := [(0, tR x0), (1, tI x1), (2, tI x2), (3, tI x3), (4, tI x4), (5, tI (s0 &&& s1)), (6, tI (x6 + 1))]) X dX12_parts_90 6 rfl (by rfl) (by decide) (in_pick [1, 2, 3, 4, 5, 6, 0] rfl) ?_
  refine g_goto (tgt := 34) X dX12_parts_93 (by decide) ?_
  exact hk34 x0 x1 x2 x3 x4 (s0 &&& s1) (x6 + 1) h hf
def b_X12_parts_34 (kr : Option Nat → Int32 → Int32 → Int32 → AH → Option (Int32 × AH)) (k16 : Option Nat → Int32 → Int32 → Int32 → Int32 → AH → Option (Int32 × AH))  : Nat → Option Nat → Int32 → Int32 → Int32 → Int32 → Int32 → Int32 → AH → Option (Int32 × AH)
  | 0 => fun _ _ _ _ _ _ _ _ => none
  | n + 1 => fun x0 x1 x2 x3 x4 x5 x6 h =>
    if x6 < x1 then
      (gR 12 30 h x0).bind fun v1 =>
      (aI h v1 x6).bind fun v2 =>
      if v2 = x4 then
        (gR 12 0 h x0).bind fun v3 =>
        (aI h v3 (1011 + x6)).bind fun v4 =>
        (gR 12 0 h x0).bind fun v5 =>
        (aI h v5 (1011 + x1)).bind fun v6 =>
        (ck 12 h x0 (f_X12_areAlike x0 v4 v6 h)).bind fun v7 =>
        if v7 = 0 then
          b_X12_parts_87 kr k16 (b_X12_parts_34 kr k16 n) x0 x1 x2 x3 x4 x6 x5 0 h
        else
          b_X12_parts_87 kr k16 (b_X12_parts_34 kr k16 n) x0 x1 x2 x3 x4 x6 x5 1 h
      else
        b_X12_parts_87 kr k16 (b_X12_parts_34 kr k16 n) x0 x1 x2 x3 x4 x6 x5 1 h
    else
      if x5 = 0 then
        k16 x0 x1 x2 x3 (x4 + 1) h
      else
        (gR 12 30 h x0).bind fun v8 =>
        (sI h v8 x1 x4).bind fun h9 =>
        if x4 = x2 then
          b_X12_parts_126 kr k16 x0 x1 x2 x3 x4 x0 (x1 + 1) (x2 + 1) h9
        else
          b_X12_parts_126 kr k16 x0 x1 x2 x3 x4 x0 (x1 + 1) x2 h9
set_option maxRecDepth 20000 in
theorem w_X12_parts_34 {K : KT} {w : (Int32 × AH)} {k16 : Option Nat → Int32 → Int32 → Int32 → Int32 → AH → Option (Int32 × AH)} {dd : Nat} {kr : Option Nat → Int32 → Int32 → Int32 → AH → Option (Int32 × AH)} (hdd : 1 ≤ dd) (hkr : ∀ {b0 : Option Nat} {b1 : Int32} {b2 : Int32} {b3 : Int32} {h : AH} {v : (Int32 × AH)}, kr b0 b1 b2 b3 h = some v → CT yX12_parts (wU yX12_parts cX12_parts 7 (some .boolean)) (rmD dd 0 0) 0 0 [tR b0, tI b1, tI b2, tI b3] h (some (tI v.1), v.2)) (X : CX K cX12_parts RX12 TB (some .boolean) "parts" (rmD (dd + 1) 0 0) 7 0 0) (hk16 : ∀ (x0 : Option Nat) (x1 : Int32) (x2 : Int32) (x3 : Int32) (x4 : Int32) (h : AH), k16 x0 x1 x2 x3 x4 h = some w → GG K (some (tI w.1), w.2) 0 0 16 [(0, tR x0), (1, tI x1), (2, tI x2), (3, tI x3), (4, tI x4)] [] h) : ∀ (n : Nat) (x0 : Option Nat) (x1 : Int32) (x2 : Int32) (x3 : Int32) (x4 : Int32) (x5 : Int32) (x6 : Int32) (h : AH), b_X12_parts_34 kr k16 n x0 x1 x2 x3 x4 x5 x6 h = some w → GG K (some (tI w.1), w.2) 0 0 34 [(0, tR x0), (1, tI x1), (2, tI x2), (3, tI x3), (4, tI x4), (5, tI x5), (6, tI x6)] [] h := by
  intro n
  induction n with
  | zero =>
    intro x0 x1 x2 x3 x4 x5 x6 h hf
    cases (show none = some w from hf)
  | succ n ih =>
    intro x0 x1 x2 x3 x4 x5 x6 h hf
    rw [b_X12_parts_34] at hf
    refine g_iload X dX12_parts_34 6 rfl ?_
    refine g_iload_n X dX12_parts_36 1 rfl ?_
    refine g_icmpge (tgt := 96) X hf dX12_parts_37 (by decide) (fun hf => ?_) (fun hf => ?_)
    · refine g_iload X dX12_parts_40 5 rfl ?_
      refine g_aload_n X dX12_parts_42 0 rfl ?_
      refine g_getR X hf (T := TX12) rfl (by decide) (by decide) in_RX12 tb_1165 rfl dX12_parts_43 (fun v1 hf => ?_)
      refine g_iload X dX12_parts_46 6 rfl ?_
      refine g_iaload X hf dX12_parts_48 (fun v2 hf => ?_)
      refine g_iload X dX12_parts_49 4 rfl ?_
      refine g_icmpne (tgt := 82) X hf dX12_parts_51 (by decide) (fun hf => ?_) (fun hf => ?_)
      · refine g_aload_n X dX12_parts_54 0 rfl ?_
        refine g_aload_n X dX12_parts_55 0 rfl ?_
        refine g_getR X hf (T := TX12) rfl (by decide) (by decide) in_RX12 tb_1135 rfl dX12_parts_56 (fun v3 hf => ?_)
        refine g_sipush (v := 1011) X dX12_parts_59 (by decide) ?_
        refine g_iload X dX12_parts_62 6 rfl ?_
        refine g_iadd X dX12_parts_64 ?_
        refine g_iaload X hf dX12_parts_65 (fun v4 hf => ?_)
        refine g_aload_n X dX12_parts_66 0 rfl ?_
        refine g_getR X hf (T := TX12) rfl (by decide) (by decide) in_RX12 tb_1135 rfl dX12_parts_67 (fun v5 hf => ?_)
        refine g_sipush (v := 1011) X dX12_parts_70 (by decide) ?_
        refine g_iload_n X dX12_parts_73 1 rfl ?_
        refine g_iadd X dX12_parts_74 ?_
        refine g_iaload X hf dX12_parts_75 (fun v6 hf => ?_)
        refine g_callV (n := 2) (av := [tI v4, tI v6]) (rest := [tI x5]) (k := 12) X hf (fun v7 => (some (tI v7), h)) (fun _ q => m_X12_areAlike q) (gdV tb_1544 tb_1545 tb_1728 tb_12 tb_1546) rfl (by decide +kernel) rfl (by decide) rfl (by constructor <;> simp only [rmD] <;> omega) ⟨Nat.zero_le _, Nat.zero_le _⟩ rfl (Nat.le_of_ble_eq_true rfl) dX12_parts_76 (fun v7 hf => ?_)
        refine g_ifeq (tgt := 86) X hf dX12_parts_79 (by decide) (fun hf => ?_) (fun hf => ?_)
        · refine g_iconst (v := 0) X dX12_parts_86 (by decide) ?_
          refine g_locs (lv' := [(0, tR x0), (1, tI x1), (2, tI x2), (3, tI x3), (4, tI x4), (6, tI x6)]) (in_pick [0, 1, 2, 3, 4, 6] rfl) ?_
          exact w_X12_parts_87 hdd hkr X hk16 ih x0 x1 x2 x3 x4 x6 x5 0 h hf
        · refine g_iconst (v := 1) X dX12_parts_82 (by decide) ?_
          refine g_goto (tgt := 87) X dX12_parts_83 (by decide) ?_
          refine g_locs (lv' := [(0, tR x0), (1, tI x1), (2, tI x2), (3, tI x3), (4, tI x4), (6, tI x6)]) (in_pick [0, 1, 2, 3, 4, 6] rfl) ?_
          exact w_X12_parts_87 hdd hkr X hk16 ih x0 x1 x2 x3 x4 x6 x5 1 h hf
      · refine g_iconst (v := 1) X dX12_parts_82 (by decide) ?_
        refine g_goto (tgt := 87) X dX12_parts_83 (by decide) ?_
        refine g_locs (lv' := [(0, tR x0), (1, tI x1), (2, tI x2), (3, tI x3), (4, tI x4), (6, tI x6)]) (in_pick [0, 1, 2, 3, 4, 6] rfl) ?_
        exact w_X12_parts_87 hdd hkr X hk16 ih x0 x1 x2 x3 x4 x6 x5 1 h hf
    · refine g_iload X dX12_parts_96 5 rfl ?_
      refine g_ifeq (tgt := 135) X hf dX12_parts_98 (by decide) (fun hf => ?_) (fun hf => ?_)
      · refine g_iinc (v := (x4 + 1)) (lv' := [(0, tR x0), (1, tI x1), (2, tI x2), (3, tI x3), (4, tI (x4 + 1)), (5, tI x5), (6, tI x6)]) X dX12_parts_135 4 rfl (by rfl) (by decide) (in_pick [1, 2, 3, 4, 0, 5, 6] rfl) ?_
        refine g_goto (tgt := 16) X dX12_parts_138 (by decide) ?_
        refine g_locs (lv' := [(0, tR x0), (1, tI x1), (2, tI x2), (3, tI x3), (4, tI (x4 + 1))]) (in_pick [0, 1, 2, 3, 4] rfl) ?_
        exact hk16 x0 x1 x2 x3 (x4 + 1) h hf
      · refine g_aload_n X dX12_parts_101 0 rfl ?_
        refine g_getR X hf (T := TX12) rfl (by decide) (by decide) in_RX12 tb_1165 rfl dX12_parts_102 (fun v8 hf => ?_)
        refine g_iload_n X dX12_parts_105 1 rfl ?_
        refine g_iload X dX12_parts_106 4 rfl ?_
        refine g_iastore X hf dX12_parts_108 (fun h9 hf => ?_)
        refine g_aload_n X dX12_parts_109 0 rfl ?_
        refine g_iload_n X dX12_parts_110 1 rfl ?_
        refine g_iconst (v := 1) X dX12_parts_111 (by decide) ?_
        refine g_iadd X dX12_parts_112 ?_
        refine g_iload X dX12_parts_113 4 rfl ?_
        refine g_iload_n X dX12_parts_115 2 rfl ?_
        refine g_icmpne (tgt := 125) X hf dX12_parts_116 (by decide) (fun hf => ?_) (fun hf => ?_)
        · refine g_iload_n X dX12_parts_119 2 rfl ?_
          refine g_iconst (v := 1) X dX12_parts_120 (by decide) ?_
          refine g_iadd X dX12_parts_121 ?_
          refine g_goto (tgt := 126) X dX12_parts_122 (by decide) ?_
          refine g_locs (lv' := [(0, tR x0), (1, tI x1), (2, tI x2), (3, tI x3), (4, tI x4)]) (in_pick [0, 1, 2, 3, 4] rfl) ?_
          exact w_X12_parts_126 hdd hkr X hk16 x0 x1 x2 x3 x4 x0 (x1 + 1) (x2 + 1) h9 hf
        · refine g_iload_n X dX12_parts_125 2 rfl ?_
          refine g_locs (lv' := [(0, tR x0), (1, tI x1), (2, tI x2), (3, tI x3), (4, tI x4)]) (in_pick [0, 1, 2, 3, 4] rfl) ?_
          exact w_X12_parts_126 hdd hkr X hk16 x0 x1 x2 x3 x4 x0 (x1 + 1) x2 h9 hf
def b_X12_parts_16 (kr : Option Nat → Int32 → Int32 → Int32 → AH → Option (Int32 × AH))   : Nat → Option Nat → Int32 → Int32 → Int32 → Int32 → AH → Option (Int32 × AH)
  | 0 => fun _ _ _ _ _ _ => none
  | n + 1 => fun x0 x1 x2 x3 x4 h =>
    if x2 < x4 then
      some (0, h)
    else
      if x4 < x3 then
        b_X12_parts_34 kr (b_X12_parts_16 kr n) FU x0 x1 x2 x3 x4 1 0 h
      else
        some (0, h)
set_option maxRecDepth 20000 in
theorem w_X12_parts_16 {K : KT} {w : (Int32 × AH)}  {dd : Nat} {kr : Option Nat → Int32 → Int32 → Int32 → AH → Option (Int32 × AH)} (hdd : 1 ≤ dd) (hkr : ∀ {b0 : Option Nat} {b1 : Int32} {b2 : Int32} {b3 : Int32} {h : AH} {v : (Int32 × AH)}, kr b0 b1 b2 b3 h = some v → CT yX12_parts (wU yX12_parts cX12_parts 7 (some .boolean)) (rmD dd 0 0) 0 0 [tR b0, tI b1, tI b2, tI b3] h (some (tI v.1), v.2)) (X : CX K cX12_parts RX12 TB (some .boolean) "parts" (rmD (dd + 1) 0 0) 7 0 0)  : ∀ (n : Nat) (x0 : Option Nat) (x1 : Int32) (x2 : Int32) (x3 : Int32) (x4 : Int32) (h : AH), b_X12_parts_16 kr n x0 x1 x2 x3 x4 h = some w → GG K (some (tI w.1), w.2) 0 0 16 [(0, tR x0), (1, tI x1), (2, tI x2), (3, tI x3), (4, tI x4)] [] h := by
  intro n
  induction n with
  | zero =>
    intro x0 x1 x2 x3 x4 h hf
    cases (show none = some w from hf)
  | succ n ih =>
    intro x0 x1 x2 x3 x4 h hf
    rw [b_X12_parts_16] at hf
    refine g_iload X dX12_parts_16 4 rfl ?_
    refine g_iload_n X dX12_parts_18 2 rfl ?_
    refine g_icmpgt (tgt := 141) X hf dX12_parts_19 (by decide) (fun hf => ?_) (fun hf => ?_)
    · refine g_iconst (v := 0) X dX12_parts_141 (by decide) ?_
      exact g_zreturn X (zW hf) (by decide) (by decide) (by decide) dX12_parts_142
    · refine g_iload X dX12_parts_22 4 rfl ?_
      refine g_iload_n X dX12_parts_24 3 rfl ?_
      refine g_icmpge (tgt := 141) X hf dX12_parts_25 (by decide) (fun hf => ?_) (fun hf => ?_)
      · refine g_iconst (v := 1) X dX12_parts_28 (by decide) ?_
        refine g_istore (lv' := [(0, tR x0), (1, tI x1), (2, tI x2), (3, tI x3), (4, tI x4), (5, tI 1)]) X dX12_parts_29 (by decide) (in_pick [1, 2, 3, 4, 5, 0] rfl) ?_
        refine g_iconst (v := 0) X dX12_parts_31 (by decide) ?_
        refine g_istore (lv' := [(0, tR x0), (1, tI x1), (2, tI x2), (3, tI x3), (4, tI x4), (5, tI 1), (6, tI 0)]) X dX12_parts_32 (by decide) (in_pick [1, 2, 3, 4, 5, 6, 0] rfl) ?_
        exact w_X12_parts_34 hdd hkr X ih FU x0 x1 x2 x3 x4 1 0 h hf
      · refine g_iconst (v := 0) X dX12_parts_141 (by decide) ?_
        exact g_zreturn X (zW hf) (by decide) (by decide) (by decide) dX12_parts_142
def g_X12_parts (kr : Option Nat → Int32 → Int32 → Int32 → AH → Option (Int32 × AH)) (a0 : Option Nat) (a1 : Int32) (a2 : Int32) (a3 : Int32) (h : AH) : Option (Int32 × AH) :=
  (gR 12 0 h a0).bind fun v1 =>
  (aI h v1 8).bind fun v2 =>
  if a1 = v2 then
    some (1, h)
  else
    b_X12_parts_16 kr FU a0 a1 a2 a3 0 h
set_option maxRecDepth 20000 in
theorem mg_X12_parts {dd : Nat} {kr : Option Nat → Int32 → Int32 → Int32 → AH → Option (Int32 × AH)} (hdd : 1 ≤ dd) (hkr : ∀ {b0 : Option Nat} {b1 : Int32} {b2 : Int32} {b3 : Int32} {h : AH} {v : (Int32 × AH)}, kr b0 b1 b2 b3 h = some v → CT yX12_parts (wU yX12_parts cX12_parts 7 (some .boolean)) (rmD dd 0 0) 0 0 [tR b0, tI b1, tI b2, tI b3] h (some (tI v.1), v.2)) {a0 : Option Nat} {a1 : Int32} {a2 : Int32} {a3 : Int32} {h : AH} {w : (Int32 × AH)} (hf : g_X12_parts kr a0 a1 a2 a3 h = some w) : CT yX12_parts (wU yX12_parts cX12_parts 7 (some .boolean)) (rmD (dd + 1) 0 0) 0 0 [tR a0, tI a1, tI a2, tI a3] h (some (tI w.1), w.2) := by
  refine CT.of (cc := cX12_parts) (nL := 7) (ret := (some .boolean)) (by decide) (by simp [lg_sl, vOf_cat, wOf]) ?_
  intro K X
  refine g_locs (lv' := [(0, tR a0), (1, tI a1), (2, tI a2), (3, tI a3)]) (fun q hq => hq) ?_
  unfold g_X12_parts at hf
  refine g_iload_n X dX12_parts_0 1 rfl ?_
  refine g_aload_n X dX12_parts_1 0 rfl ?_
  refine g_getR X hf (T := TX12) rfl (by decide) (by decide) in_RX12 tb_1135 rfl dX12_parts_2 (fun v1 hf => ?_)
  refine g_bipush (v := 8) X dX12_parts_5 (by decide) ?_
  refine g_iaload X hf dX12_parts_7 (fun v2 hf => ?_)
  refine g_icmpne (tgt := 13) X hf dX12_parts_8 (by decide) (fun hf => ?_) (fun hf => ?_)
  · refine g_iconst (v := 1) X dX12_parts_11 (by decide) ?_
    exact g_zreturn X (zW hf) (by decide) (by decide) (by decide) dX12_parts_12
  · refine g_iconst (v := 0) X dX12_parts_13 (by decide) ?_
    refine g_istore (lv' := [(0, tR a0), (1, tI a1), (2, tI a2), (3, tI a3), (4, tI 0)]) X dX12_parts_14 (by decide) (in_pick [1, 2, 3, 4, 0] rfl) ?_
    exact w_X12_parts_16 hdd hkr X FU a0 a1 a2 a3 0 h hf
def f_X12_parts : Nat → Option Nat → Int32 → Int32 → Int32 → AH → Option (Int32 × AH)
  | 0 => fun _ _ _ _ _ => none
  | n + 1 => fun a0 a1 a2 a3 h => g_X12_parts (f_X12_parts n) a0 a1 a2 a3 h
theorem m_X12_parts : ∀ (n : Nat) {a0 : Option Nat} {a1 : Int32} {a2 : Int32} {a3 : Int32} {h : AH} {w : (Int32 × AH)}, f_X12_parts n a0 a1 a2 a3 h = some w → CT yX12_parts (wU yX12_parts cX12_parts 7 (some .boolean)) (rmD (1 + 1 * n) 0 0) 0 0 [tR a0, tI a1, tI a2, tI a3] h (some (tI w.1), w.2) := by
  intro n
  induction n with
  | zero =>
    intro a0 a1 a2 a3 h w hf
    cases (show none = some w from hf)
  | succ n ih =>
    intro a0 a1 a2 a3 h w hf
    have hf : g_X12_parts (f_X12_parts n) a0 a1 a2 a3 h = some w := hf
    rw [show 1 + 1 * (n + 1) = 1 + 1 * n + 1 by omega]
    exact mg_X12_parts (dd := 1 + 1 * n) (by omega) (fun q => ih q) hf
def b_X12_isHired_94  (k7 : Option Nat → Int32 → Int32 → Int32 → Int32 → Option Int32) (h : AH) (x0 : Option Nat) (x1 : Int32) (x2 : Int32) (x4 : Int32) (s0 : Int32) (s1 : Int32) : Option Int32 :=
  k7 x0 x1 x2 (s0 ||| s1) (x4 + 1)
set_option maxRecDepth 20000 in
theorem w_X12_isHired_94 {K : KT} {w : Int32} {h : AH} {k7 : Option Nat → Int32 → Int32 → Int32 → Int32 → Option Int32}  (X : CX K cX12_isHired RX12 TB (some .boolean) "isHired" (rmD 2 0 0) 6 0 0) (hk7 : ∀ (x0 : Option Nat) (x1 : Int32) (x2 : Int32) (x3 : Int32) (x4 : Int32), k7 x0 x1 x2 x3 x4 = some w → GG K (some (tI w), h) 0 0 7 [(0, tR x0), (1, tI x1), (2, tI x2), (3, tI x3), (4, tI x4)] [] h) (x0 : Option Nat) (x1 : Int32) (x2 : Int32) (x4 : Int32) (s0 : Int32) (s1 : Int32) (hf : b_X12_isHired_94 k7 h x0 x1 x2 x4 s0 s1 = some w) : GG K (some (tI w), h) 0 0 94 [(0, tR x0), (1, tI x1), (2, tI x2), (4, tI x4)] [tI s1, tI s0] h := by
  unfold b_X12_isHired_94 at hf
  refine g_ior X dX12_isHired_94 ?_
  refine g_istore_n (lv' := [(0, tR x0), (1, tI x1), (2, tI x2), (3, tI (s0 ||| s1)), (4, tI x4)]) X dX12_isHired_95 (by decide) (in_pick [1, 2, 3, 0, 4] rfl) ?_
  refine g_iinc (v := (x4 + 1)) (lv' := [(0, tR x0), (1, tI x1), (2, tI x2), (3, tI (s0 ||| s1)), (4, tI (x4 + 1))]) X dX12_isHired_96 4 rfl (by rfl) (by decide) (in_pick [1, 2, 3, 4, 0] rfl) ?_
  refine g_goto (tgt := 7) X dX12_isHired_99 (by decide) ?_
  exact hk7 x0 x1 x2 (s0 ||| s1) (x4 + 1) hf
def b_X12_isHired_49  (k7 : Option Nat → Int32 → Int32 → Int32 → Int32 → Option Int32) (h : AH) (x0 : Option Nat) (x1 : Int32) (x3 : Int32) (x4 : Int32) (x5 : Int32) (s0 : Int32) (s1 : Int32) : Option Int32 :=
  (gR 12 30 h x0).bind fun v1 =>
  (aI h v1 x4).bind fun v2 =>
  if v2 = x1 then
    (gR 12 0 h x0).bind fun v3 =>
    (aI h v3 (771 + x5)).bind fun v4 =>
    if v4 < 0 then
      b_X12_isHired_94 k7 h x0 x1 (s0 + s1) x4 x3 0
    else
      (gR 12 0 h x0).bind fun v5 =>
      (aI h v5 (771 + x5)).bind fun v6 =>
      b_X12_isHired_94 k7 h x0 x1 (s0 + s1) x4 x3 (1 <<< (v6 &&& 31))
  else
    b_X12_isHired_94 k7 h x0 x1 (s0 + s1) x4 x3 0
set_option maxRecDepth 20000 in
theorem w_X12_isHired_49 {K : KT} {w : Int32} {h : AH} {k7 : Option Nat → Int32 → Int32 → Int32 → Int32 → Option Int32}  (X : CX K cX12_isHired RX12 TB (some .boolean) "isHired" (rmD 2 0 0) 6 0 0) (hk7 : ∀ (x0 : Option Nat) (x1 : Int32) (x2 : Int32) (x3 : Int32) (x4 : Int32), k7 x0 x1 x2 x3 x4 = some w → GG K (some (tI w), h) 0 0 7 [(0, tR x0), (1, tI x1), (2, tI x2), (3, tI x3), (4, tI x4)] [] h) (x0 : Option Nat) (x1 : Int32) (x3 : Int32) (x4 : Int32) (x5 : Int32) (s0 : Int32) (s1 : Int32) (hf : b_X12_isHired_49 k7 h x0 x1 x3 x4 x5 s0 s1 = some w) : GG K (some (tI w), h) 0 0 49 [(0, tR x0), (1, tI x1), (3, tI x3), (4, tI x4), (5, tI x5)] [tI s1, tI s0] h := by
  unfold b_X12_isHired_49 at hf
  refine g_iadd X dX12_isHired_49 ?_
  refine g_istore_n (lv' := [(0, tR x0), (1, tI x1), (2, tI (s0 + s1)), (3, tI x3), (4, tI x4), (5, tI x5)]) X dX12_isHired_50 (by decide) (in_pick [1, 2, 0, 3, 4, 5] rfl) ?_
  refine g_iload_n X dX12_isHired_51 3 rfl ?_
  refine g_aload_n X dX12_isHired_52 0 rfl ?_
  refine g_getR X hf (T := TX12) rfl (by decide) (by decide) in_RX12 tb_1165 rfl dX12_isHired_53 (fun v1 hf => ?_)
  refine g_iload X dX12_isHired_56 4 rfl ?_
  refine g_iaload X hf dX12_isHired_58 (fun v2 hf => ?_)
  refine g_iload_n X dX12_isHired_59 1 rfl ?_
  refine g_icmpne (tgt := 93) X hf dX12_isHired_60 (by decide) (fun hf => ?_) (fun hf => ?_)
  · refine g_aload_n X dX12_isHired_63 0 rfl ?_
    refine g_getR X hf (T := TX12) rfl (by decide) (by decide) in_RX12 tb_1135 rfl dX12_isHired_64 (fun v3 hf => ?_)
    refine g_sipush (v := 771) X dX12_isHired_67 (by decide) ?_
    refine g_iload X dX12_isHired_70 5 rfl ?_
    refine g_iadd X dX12_isHired_72 ?_
    refine g_iaload X hf dX12_isHired_73 (fun v4 hf => ?_)
    refine g_iflt (tgt := 93) X hf dX12_isHired_74 (by decide) (fun hf => ?_) (fun hf => ?_)
    · refine g_iconst (v := 0) X dX12_isHired_93 (by decide) ?_
      refine g_locs (lv' := [(0, tR x0), (1, tI x1), (2, tI (s0 + s1)), (4, tI x4)]) (in_pick [0, 1, 2, 4] rfl) ?_
      exact w_X12_isHired_94 X hk7 x0 x1 (s0 + s1) x4 x3 0 hf
    · refine g_iconst (v := 1) X dX12_isHired_77 (by decide) ?_
      refine g_aload_n X dX12_isHired_78 0 rfl ?_
      refine g_getR X hf (T := TX12) rfl (by decide) (by decide) in_RX12 tb_1135 rfl dX12_isHired_79 (fun v5 hf => ?_)
      refine g_sipush (v := 771) X dX12_isHired_82 (by decide) ?_
      refine g_iload X dX12_isHired_85 5 rfl ?_
      refine g_iadd X dX12_isHired_87 ?_
      refine g_iaload X hf dX12_isHired_88 (fun v6 hf => ?_)
      refine g_ishl X dX12_isHired_89 ?_
      refine g_goto (tgt := 94) X dX12_isHired_90 (by decide) ?_
      refine g_locs (lv' := [(0, tR x0), (1, tI x1), (2, tI (s0 + s1)), (4, tI x4)]) (in_pick [0, 1, 2, 4] rfl) ?_
      exact w_X12_isHired_94 X hk7 x0 x1 (s0 + s1) x4 x3 (1 <<< (v6 &&& 31)) hf
  · refine g_iconst (v := 0) X dX12_isHired_93 (by decide) ?_
    refine g_locs (lv' := [(0, tR x0), (1, tI x1), (2, tI (s0 + s1)), (4, tI x4)]) (in_pick [0, 1, 2, 4] rfl) ?_
    exact w_X12_isHired_94 X hk7 x0 x1 (s0 + s1) x4 x3 0 hf
def b_X12_isHired_7   (h : AH) : Nat → Option Nat → Int32 → Int32 → Int32 → Int32 → Option Int32
  | 0 => fun _ _ _ _ _ => none
  | n + 1 => fun x0 x1 x2 x3 x4 =>
    (gR 12 0 h x0).bind fun v1 =>
    (aI h v1 8).bind fun v2 =>
    if x4 < v2 then
      (gR 12 0 h x0).bind fun v3 =>
      (aI h v3 (1011 + x4)).bind fun v4 =>
      (gR 12 30 h x0).bind fun v5 =>
      (aI h v5 x4).bind fun v6 =>
      if v6 = x1 then
        b_X12_isHired_49 (b_X12_isHired_7 h n) h x0 x1 x3 x4 v4 x2 1
      else
        b_X12_isHired_49 (b_X12_isHired_7 h n) h x0 x1 x3 x4 v4 x2 0
    else
      if x2 < 3 then
        some 0
      else
        (f_X12_bits x3 h).bind fun v7 =>
        if v7 < 2 then
          some 0
        else
          some 1
set_option maxRecDepth 20000 in
theorem w_X12_isHired_7 {K : KT} {w : Int32} {h : AH}   (X : CX K cX12_isHired RX12 TB (some .boolean) "isHired" (rmD 2 0 0) 6 0 0)  : ∀ (n : Nat) (x0 : Option Nat) (x1 : Int32) (x2 : Int32) (x3 : Int32) (x4 : Int32), b_X12_isHired_7 h n x0 x1 x2 x3 x4 = some w → GG K (some (tI w), h) 0 0 7 [(0, tR x0), (1, tI x1), (2, tI x2), (3, tI x3), (4, tI x4)] [] h := by
  intro n
  induction n with
  | zero =>
    intro x0 x1 x2 x3 x4 hf
    cases (show none = some w from hf)
  | succ n ih =>
    intro x0 x1 x2 x3 x4 hf
    rw [b_X12_isHired_7] at hf
    refine g_iload X dX12_isHired_7 4 rfl ?_
    refine g_aload_n X dX12_isHired_9 0 rfl ?_
    refine g_getR X hf (T := TX12) rfl (by decide) (by decide) in_RX12 tb_1135 rfl dX12_isHired_10 (fun v1 hf => ?_)
    refine g_bipush (v := 8) X dX12_isHired_13 (by decide) ?_
    refine g_iaload X hf dX12_isHired_15 (fun v2 hf => ?_)
    refine g_icmpge (tgt := 102) X hf dX12_isHired_16 (by decide) (fun hf => ?_) (fun hf => ?_)
    · refine g_aload_n X dX12_isHired_19 0 rfl ?_
      refine g_getR X hf (T := TX12) rfl (by decide) (by decide) in_RX12 tb_1135 rfl dX12_isHired_20 (fun v3 hf => ?_)
      refine g_sipush (v := 1011) X dX12_isHired_23 (by decide) ?_
      refine g_iload X dX12_isHired_26 4 rfl ?_
      refine g_iadd X dX12_isHired_28 ?_
      refine g_iaload X hf dX12_isHired_29 (fun v4 hf => ?_)
      refine g_istore (lv' := [(0, tR x0), (1, tI x1), (2, tI x2), (3, tI x3), (4, tI x4), (5, tI v4)]) X dX12_isHired_30 (by decide) (in_pick [1, 2, 3, 4, 5, 0] rfl) ?_
      refine g_iload_n X dX12_isHired_32 2 rfl ?_
      refine g_aload_n X dX12_isHired_33 0 rfl ?_
      refine g_getR X hf (T := TX12) rfl (by decide) (by decide) in_RX12 tb_1165 rfl dX12_isHired_34 (fun v5 hf => ?_)
      refine g_iload X dX12_isHired_37 4 rfl ?_
      refine g_iaload X hf dX12_isHired_39 (fun v6 hf => ?_)
      refine g_iload_n X dX12_isHired_40 1 rfl ?_
      refine g_icmpne (tgt := 48) X hf dX12_isHired_41 (by decide) (fun hf => ?_) (fun hf => ?_)
      · refine g_iconst (v := 1) X dX12_isHired_44 (by decide) ?_
        refine g_goto (tgt := 49) X dX12_isHired_45 (by decide) ?_
        refine g_locs (lv' := [(0, tR x0), (1, tI x1), (3, tI x3), (4, tI x4), (5, tI v4)]) (in_pick [0, 1, 3, 4, 5] rfl) ?_
        exact w_X12_isHired_49 X ih x0 x1 x3 x4 v4 x2 1 hf
      · refine g_iconst (v := 0) X dX12_isHired_48 (by decide) ?_
        refine g_locs (lv' := [(0, tR x0), (1, tI x1), (3, tI x3), (4, tI x4), (5, tI v4)]) (in_pick [0, 1, 3, 4, 5] rfl) ?_
        exact w_X12_isHired_49 X ih x0 x1 x3 x4 v4 x2 0 hf
    · refine g_iload_n X dX12_isHired_102 2 rfl ?_
      refine g_iconst (v := 3) X dX12_isHired_103 (by decide) ?_
      refine g_icmplt (tgt := 119) X hf dX12_isHired_104 (by decide) (fun hf => ?_) (fun hf => ?_)
      · refine g_iconst (v := 0) X dX12_isHired_119 (by decide) ?_
        exact g_zreturn X (zP hf) (by decide) (by decide) (by decide) dX12_isHired_120
      · refine g_iload_n X dX12_isHired_107 3 rfl ?_
        refine g_callS (n := 1) (av := [tI x3]) (rest := []) X hf (fun v7 => (some (tI v7), h)) (fun _ q => m_X12_bits q) (gdS tb_1369 tb_1370 tb_12 tb_1371) rfl (by decide +kernel) rfl (by decide) (by decide) rfl (Nat.le_of_ble_eq_true rfl) dX12_isHired_108 (fun v7 hf => ?_)
        refine g_iconst (v := 2) X dX12_isHired_111 (by decide) ?_
        refine g_icmplt (tgt := 119) X hf dX12_isHired_112 (by decide) (fun hf => ?_) (fun hf => ?_)
        · refine g_iconst (v := 0) X dX12_isHired_119 (by decide) ?_
          exact g_zreturn X (zP hf) (by decide) (by decide) (by decide) dX12_isHired_120
        · refine g_iconst (v := 1) X dX12_isHired_115 (by decide) ?_
          refine g_goto (tgt := 120) X dX12_isHired_116 (by decide) ?_
          exact g_zreturn X (zP hf) (by decide) (by decide) (by decide) dX12_isHired_120
def f_X12_isHired  (a0 : Option Nat) (a1 : Int32) (h : AH) : Option Int32 :=
  b_X12_isHired_7 h FU a0 a1 0 0 0
set_option maxRecDepth 20000 in
theorem m_X12_isHired  {a0 : Option Nat} {a1 : Int32} {h : AH} {w : Int32} (hf : f_X12_isHired a0 a1 h = some w) : CT yX12_isHired (wU yX12_isHired cX12_isHired 6 (some .boolean)) (rmD 2 0 0) 0 0 [tR a0, tI a1] h (some (tI w), h) := by
  refine CT.of (cc := cX12_isHired) (nL := 6) (ret := (some .boolean)) (by decide) (by simp [lg_sl, vOf_cat, wOf]) ?_
  intro K X
  refine g_locs (lv' := [(0, tR a0), (1, tI a1)]) (fun q hq => hq) ?_
  unfold f_X12_isHired at hf
  refine g_iconst (v := 0) X dX12_isHired_0 (by decide) ?_
  refine g_istore_n (lv' := [(0, tR a0), (1, tI a1), (2, tI 0)]) X dX12_isHired_1 (by decide) (in_pick [1, 2, 0] rfl) ?_
  refine g_iconst (v := 0) X dX12_isHired_2 (by decide) ?_
  refine g_istore_n (lv' := [(0, tR a0), (1, tI a1), (2, tI 0), (3, tI 0)]) X dX12_isHired_3 (by decide) (in_pick [1, 2, 3, 0] rfl) ?_
  refine g_iconst (v := 0) X dX12_isHired_4 (by decide) ?_
  refine g_istore (lv' := [(0, tR a0), (1, tI a1), (2, tI 0), (3, tI 0), (4, tI 0)]) X dX12_isHired_5 (by decide) (in_pick [1, 2, 3, 4, 0] rfl) ?_
  exact w_X12_isHired_7 X FU a0 a1 0 0 0 hf
def b_X12_hands_89  (k68 : Option Nat → Int32 → Int32 → Int32 → Int32 → AH → Option (Int32 × AH)) (x0 : Option Nat) (x1 : Int32) (x2 : Int32) (x4 : Int32) (s0 : Int32) (s1 : Int32) (h : AH) : Option (Int32 × AH) :=
  k68 x0 x1 x2 (s0 + s1) (x4 + 1) h
set_option maxRecDepth 20000 in
theorem w_X12_hands_89 {K : KT} {w : (Int32 × AH)} {k68 : Option Nat → Int32 → Int32 → Int32 → Int32 → AH → Option (Int32 × AH)}  (X : CX K cX12_hands RX12 TB (some .int) "hands" (rmD 14 0 0) 5 0 0) (hk68 : ∀ (x0 : Option Nat) (x1 : Int32) (x2 : Int32) (x3 : Int32) (x4 : Int32) (h : AH), k68 x0 x1 x2 x3 x4 h = some w → GG K (some (tI w.1), w.2) 0 0 68 [(0, tR x0), (1, tI x1), (2, tI x2), (3, tI x3), (4, tI x4)] [] h) (x0 : Option Nat) (x1 : Int32) (x2 : Int32) (x4 : Int32) (s0 : Int32) (s1 : Int32) (h : AH) (hf : b_X12_hands_89 k68 x0 x1 x2 x4 s0 s1 h = some w) : GG K (some (tI w.1), w.2) 0 0 89 [(0, tR x0), (1, tI x1), (2, tI x2), (4, tI x4)] [tI s1, tI s0] h := by
  unfold b_X12_hands_89 at hf
  refine g_iadd X dX12_hands_89 ?_
  refine g_istore_n (lv' := [(0, tR x0), (1, tI x1), (2, tI x2), (3, tI (s0 + s1)), (4, tI x4)]) X dX12_hands_90 (by decide) (in_pick [1, 2, 3, 0, 4] rfl) ?_
  refine g_iinc (v := (x4 + 1)) (lv' := [(0, tR x0), (1, tI x1), (2, tI x2), (3, tI (s0 + s1)), (4, tI (x4 + 1))]) X dX12_hands_91 4 rfl (by rfl) (by decide) (in_pick [1, 2, 3, 4, 0] rfl) ?_
  refine g_goto (tgt := 68) X dX12_hands_94 (by decide) ?_
  exact hk68 x0 x1 x2 (s0 + s1) (x4 + 1) h hf
def b_X12_hands_68    : Nat → Option Nat → Int32 → Int32 → Int32 → Int32 → AH → Option (Int32 × AH)
  | 0 => fun _ _ _ _ _ _ => none
  | n + 1 => fun x0 x1 x2 x3 x4 h =>
    if x4 < x2 then
      (ck 12 h x0 (f_X12_isHired x0 x4 h)).bind fun v1 =>
      if v1 = 0 then
        b_X12_hands_89 (b_X12_hands_68 n) x0 x1 x2 x4 x3 0 h
      else
        b_X12_hands_89 (b_X12_hands_68 n) x0 x1 x2 x4 x3 1 h
    else
      if x1 = 0 then
        some (x2, h)
      else
        some (x3, h)
set_option maxRecDepth 20000 in
theorem w_X12_hands_68 {K : KT} {w : (Int32 × AH)}   (X : CX K cX12_hands RX12 TB (some .int) "hands" (rmD 14 0 0) 5 0 0)  : ∀ (n : Nat) (x0 : Option Nat) (x1 : Int32) (x2 : Int32) (x3 : Int32) (x4 : Int32) (h : AH), b_X12_hands_68 n x0 x1 x2 x3 x4 h = some w → GG K (some (tI w.1), w.2) 0 0 68 [(0, tR x0), (1, tI x1), (2, tI x2), (3, tI x3), (4, tI x4)] [] h := by
  intro n
  induction n with
  | zero =>
    intro x0 x1 x2 x3 x4 h hf
    cases (show none = some w from hf)
  | succ n ih =>
    intro x0 x1 x2 x3 x4 h hf
    rw [b_X12_hands_68] at hf
    refine g_iload X dX12_hands_68 4 rfl ?_
    refine g_iload_n X dX12_hands_70 2 rfl ?_
    refine g_icmpge (tgt := 97) X hf dX12_hands_71 (by decide) (fun hf => ?_) (fun hf => ?_)
    · refine g_iload_n X dX12_hands_74 3 rfl ?_
      refine g_aload_n X dX12_hands_75 0 rfl ?_
      refine g_iload X dX12_hands_76 4 rfl ?_
      refine g_callV (n := 1) (av := [tI x4]) (rest := [tI x3]) (k := 12) X hf (fun v1 => (some (tI v1), h)) (fun _ q => m_X12_isHired q) (gdV tb_1554 tb_1555 tb_1730 tb_12 tb_1556) rfl (by decide +kernel) rfl (by decide) rfl (by decide) (by decide) rfl (Nat.le_of_ble_eq_true rfl) dX12_hands_78 (fun v1 hf => ?_)
      refine g_ifeq (tgt := 88) X hf dX12_hands_81 (by decide) (fun hf => ?_) (fun hf => ?_)
      · refine g_iconst (v := 0) X dX12_hands_88 (by decide) ?_
        refine g_locs (lv' := [(0, tR x0), (1, tI x1), (2, tI x2), (4, tI x4)]) (in_pick [0, 1, 2, 4] rfl) ?_
        exact w_X12_hands_89 X ih x0 x1 x2 x4 x3 0 h hf
      · refine g_iconst (v := 1) X dX12_hands_84 (by decide) ?_
        refine g_goto (tgt := 89) X dX12_hands_85 (by decide) ?_
        refine g_locs (lv' := [(0, tR x0), (1, tI x1), (2, tI x2), (4, tI x4)]) (in_pick [0, 1, 2, 4] rfl) ?_
        exact w_X12_hands_89 X ih x0 x1 x2 x4 x3 1 h hf
    · refine g_iload_n X dX12_hands_97 1 rfl ?_
      refine g_ifne (tgt := 105) X hf dX12_hands_98 (by decide) (fun hf => ?_) (fun hf => ?_)
      · refine g_iload_n X dX12_hands_101 2 rfl ?_
        refine g_goto (tgt := 106) X dX12_hands_102 (by decide) ?_
        exact g_ireturn X (zW hf) (by decide) (by decide) dX12_hands_106
      · refine g_iload_n X dX12_hands_105 3 rfl ?_
        exact g_ireturn X (zW hf) (by decide) (by decide) dX12_hands_106
def b_X12_hands_32    : Nat → Option Nat → Int32 → Int32 → AH → Option (Int32 × AH)
  | 0 => fun _ _ _ _ => none
  | n + 1 => fun x0 x1 x2 h =>
    (ck 12 h x0 (f_X12_parts 12 x0 0 0 x2 h)).bind fun p1 =>
    if p1.1 = 0 then
      b_X12_hands_32 n x0 x1 (x2 + 1) p1.2
    else
      if 1 < x1 then
        (gR 12 30 p1.2 x0).bind fun v2 =>
        (aI p1.2 v2 (x1 - 10)).bind fun v3 =>
        some (v3, p1.2)
      else
        b_X12_hands_68 FU x0 x1 x2 0 0 p1.2
set_option maxRecDepth 20000 in
theorem w_X12_hands_32 {K : KT} {w : (Int32 × AH)}   (X : CX K cX12_hands RX12 TB (some .int) "hands" (rmD 14 0 0) 5 0 0)  : ∀ (n : Nat) (x0 : Option Nat) (x1 : Int32) (x2 : Int32) (h : AH), b_X12_hands_32 n x0 x1 x2 h = some w → GG K (some (tI w.1), w.2) 0 0 32 [(0, tR x0), (1, tI x1), (2, tI x2)] [] h := by
  intro n
  induction n with
  | zero =>
    intro x0 x1 x2 h hf
    cases (show none = some w from hf)
  | succ n ih =>
    intro x0 x1 x2 h hf
    rw [b_X12_hands_32] at hf
    refine g_aload_n X dX12_hands_32 0 rfl ?_
    refine g_iconst (v := 0) X dX12_hands_33 (by decide) ?_
    refine g_iconst (v := 0) X dX12_hands_34 (by decide) ?_
    refine g_iload_n X dX12_hands_35 2 rfl ?_
    refine g_callV (n := 3) (av := [tI 0, tI 0, tI x2]) (rest := []) (k := 12) X hf (fun p1 => (some (tI p1.1), p1.2)) (fun _ q => m_X12_parts 12 q) (gdV tb_1551 tb_1552 tb_1729 tb_12 tb_1553) rfl (by decide +kernel) rfl (by decide) rfl (by decide) (by decide) rfl (Nat.le_of_ble_eq_true rfl) dX12_hands_36 (fun p1 hf => ?_)
    refine g_ifne (tgt := 48) X hf dX12_hands_39 (by decide) (fun hf => ?_) (fun hf => ?_)
    · refine g_iinc (v := (x2 + 1)) (lv' := [(0, tR x0), (1, tI x1), (2, tI (x2 + 1))]) X dX12_hands_42 2 rfl (by rfl) (by decide) (in_pick [1, 2, 0] rfl) ?_
      refine g_goto (tgt := 32) X dX12_hands_45 (by decide) ?_
      exact ih x0 x1 (x2 + 1) p1.2 hf
    · refine g_iload_n X dX12_hands_48 1 rfl ?_
      refine g_iconst (v := 1) X dX12_hands_49 (by decide) ?_
      refine g_icmple (tgt := 63) X hf dX12_hands_50 (by decide) (fun hf => ?_) (fun hf => ?_)
      · refine g_aload_n X dX12_hands_53 0 rfl ?_
        refine g_getR X hf (T := TX12) rfl (by decide) (by decide) in_RX12 tb_1165 rfl dX12_hands_54 (fun v2 hf => ?_)
        refine g_iload_n X dX12_hands_57 1 rfl ?_
        refine g_bipush (v := 10) X dX12_hands_58 (by decide) ?_
        refine g_isub X dX12_hands_60 ?_
        refine g_iaload X hf dX12_hands_61 (fun v3 hf => ?_)
        exact g_ireturn X (zW hf) (by decide) (by decide) dX12_hands_62
      · refine g_iconst (v := 0) X dX12_hands_63 (by decide) ?_
        refine g_istore_n (lv' := [(0, tR x0), (1, tI x1), (2, tI x2), (3, tI 0)]) X dX12_hands_64 (by decide) (in_pick [1, 2, 3, 0] rfl) ?_
        refine g_iconst (v := 0) X dX12_hands_65 (by decide) ?_
        refine g_istore (lv' := [(0, tR x0), (1, tI x1), (2, tI x2), (3, tI 0), (4, tI 0)]) X dX12_hands_66 (by decide) (in_pick [1, 2, 3, 4, 0] rfl) ?_
        exact w_X12_hands_68 X FU x0 x1 x2 0 0 p1.2 hf
def f_X12_hands  (a0 : Option Nat) (a1 : Int32) (h : AH) : Option (Int32 × AH) :=
  (f_X12_in a1 0 1 h).bind fun v1 =>
  if v1 = 0 then
    (gR 12 0 h a0).bind fun v2 =>
    (aI h v2 8).bind fun v3 =>
    (f_X12_in a1 10 (9 + v3) h).bind fun v4 =>
    if v4 = 0 then
      some ((-1), h)
    else
      b_X12_hands_32 FU a0 a1 0 h
  else
    b_X12_hands_32 FU a0 a1 0 h
set_option maxRecDepth 20000 in
theorem m_X12_hands  {a0 : Option Nat} {a1 : Int32} {h : AH} {w : (Int32 × AH)} (hf : f_X12_hands a0 a1 h = some w) : CT yX12_hands (wU yX12_hands cX12_hands 5 (some .int)) (rmD 14 0 0) 0 0 [tR a0, tI a1] h (some (tI w.1), w.2) := by
  refine CT.of (cc := cX12_hands) (nL := 5) (ret := (some .int)) (by decide) (by simp [lg_sl, vOf_cat, wOf]) ?_
  intro K X
  refine g_locs (lv' := [(0, tR a0), (1, tI a1)]) (fun q hq => hq) ?_
  unfold f_X12_hands at hf
  refine g_iload_n X dX12_hands_0 1 rfl ?_
  refine g_iconst (v := 0) X dX12_hands_1 (by decide) ?_
  refine g_iconst (v := 1) X dX12_hands_2 (by decide) ?_
  refine g_callS (n := 3) (av := [tI a1, tI 0, tI 1]) (rest := []) X hf (fun v1 => (some (tI v1), h)) (fun _ q => m_X12_in q) (gdS tb_1226 tb_1227 tb_12 tb_1228) rfl (by decide +kernel) rfl (by decide) (by decide) rfl (Nat.le_of_ble_eq_true rfl) dX12_hands_3 (fun v1 hf => ?_)
  refine g_ifne (tgt := 30) X hf dX12_hands_6 (by decide) (fun hf => ?_) (fun hf => ?_)
  · refine g_iload_n X dX12_hands_9 1 rfl ?_
    refine g_bipush (v := 10) X dX12_hands_10 (by decide) ?_
    refine g_bipush (v := 9) X dX12_hands_12 (by decide) ?_
    refine g_aload_n X dX12_hands_14 0 rfl ?_
    refine g_getR X hf (T := TX12) rfl (by decide) (by decide) in_RX12 tb_1135 rfl dX12_hands_15 (fun v2 hf => ?_)
    refine g_bipush (v := 8) X dX12_hands_18 (by decide) ?_
    refine g_iaload X hf dX12_hands_20 (fun v3 hf => ?_)
    refine g_iadd X dX12_hands_21 ?_
    refine g_callS (n := 3) (av := [tI a1, tI 10, tI (9 + v3)]) (rest := []) X hf (fun v4 => (some (tI v4), h)) (fun _ q => m_X12_in q) (gdS tb_1226 tb_1227 tb_12 tb_1228) rfl (by decide +kernel) rfl (by decide) (by decide) rfl (Nat.le_of_ble_eq_true rfl) dX12_hands_22 (fun v4 hf => ?_)
    refine g_ifne (tgt := 30) X hf dX12_hands_25 (by decide) (fun hf => ?_) (fun hf => ?_)
    · refine g_iconst (v := (-1)) X dX12_hands_28 (by decide) ?_
      exact g_ireturn X (zW hf) (by decide) (by decide) dX12_hands_29
    · refine g_iconst (v := 0) X dX12_hands_30 (by decide) ?_
      refine g_istore_n (lv' := [(0, tR a0), (1, tI a1), (2, tI 0)]) X dX12_hands_31 (by decide) (in_pick [1, 2, 0] rfl) ?_
      exact w_X12_hands_32 X FU a0 a1 0 h hf
  · refine g_iconst (v := 0) X dX12_hands_30 (by decide) ?_
    refine g_istore_n (lv' := [(0, tR a0), (1, tI a1), (2, tI 0)]) X dX12_hands_31 (by decide) (in_pick [1, 2, 0] rfl) ?_
    exact w_X12_hands_32 X FU a0 a1 0 h hf
def f_X12_isFour  (a0 : Int32) (h : AH) : Option Int32 :=
  (f_X12_in a0 0 3 h).bind fun v1 =>
  rZ v1
set_option maxRecDepth 20000 in
theorem m_X12_isFour  {a0 : Int32} {h : AH} {w : Int32} (hf : f_X12_isFour a0 h = some w) : CT yX12_isFour (wU yX12_isFour cX12_isFour 1 (some .boolean)) (rmD 2 0 0) 0 0 [tI a0] h (some (tI w), h) := by
  refine CT.of (cc := cX12_isFour) (nL := 1) (ret := (some .boolean)) (by decide) (by simp [lg_sl, vOf_cat, wOf]) ?_
  intro K X
  refine g_locs (lv' := [(0, tI a0)]) (fun q hq => hq) ?_
  unfold f_X12_isFour at hf
  refine g_iload_n X dX12_isFour_0 0 rfl ?_
  refine g_iconst (v := 0) X dX12_isFour_1 (by decide) ?_
  refine g_iconst (v := 3) X dX12_isFour_2 (by decide) ?_
  refine g_callS (n := 3) (av := [tI a0, tI 0, tI 3]) (rest := []) X hf (fun v1 => (some (tI v1), h)) (fun _ q => m_X12_in q) (gdS tb_1226 tb_1227 tb_12 tb_1228) rfl (by decide +kernel) rfl (by decide) (by decide) rfl (Nat.le_of_ble_eq_true rfl) dX12_isFour_3 (fun v1 hf => ?_)
  exact g_zreturn2 X hf (by decide) (by decide) dX12_isFour_6
def b_X12_freeRow_53  (k4 : Option Nat → Int32 → Int32 → Option Int32) (k12 : Option Nat → Int32 → Int32 → Int32 → Option Int32) (h : AH) (x0 : Option Nat) (x1 : Int32) (x3 : Int32) (s0 : Int32) (s1 : Int32) : Option Int32 :=
  k12 x0 x1 (s0 ||| s1) (x3 + 1)
set_option maxRecDepth 20000 in
theorem w_X12_freeRow_53 {K : KT} {w : Int32} {h : AH} {k4 : Option Nat → Int32 → Int32 → Option Int32} {k12 : Option Nat → Int32 → Int32 → Int32 → Option Int32}  (X : CX K cX12_freeRow RX12 TB (some .int) "freeRow" (rmD 1 0 0) 4 0 0) (hk4 : ∀ (x0 : Option Nat) (x1 : Int32) (x2 : Int32), k4 x0 x1 x2 = some w → GG K (some (tI w), h) 0 0 4 [(0, tR x0), (1, tI x1), (2, tI x2)] [] h) (hk12 : ∀ (x0 : Option Nat) (x1 : Int32) (x2 : Int32) (x3 : Int32), k12 x0 x1 x2 x3 = some w → GG K (some (tI w), h) 0 0 12 [(0, tR x0), (1, tI x1), (2, tI x2), (3, tI x3)] [] h) (x0 : Option Nat) (x1 : Int32) (x3 : Int32) (s0 : Int32) (s1 : Int32) (hf : b_X12_freeRow_53 k4 k12 h x0 x1 x3 s0 s1 = some w) : GG K (some (tI w), h) 0 0 53 [(0, tR x0), (1, tI x1), (3, tI x3)] [tI s1, tI s0] h := by
  unfold b_X12_freeRow_53 at hf
  refine g_ior X dX12_freeRow_53 ?_
  refine g_istore_n (lv' := [(0, tR x0), (1, tI x1), (2, tI (s0 ||| s1)), (3, tI x3)]) X dX12_freeRow_54 (by decide) (in_pick [1, 2, 0, 3] rfl) ?_
  refine g_iinc (v := (x3 + 1)) (lv' := [(0, tR x0), (1, tI x1), (2, tI (s0 ||| s1)), (3, tI (x3 + 1))]) X dX12_freeRow_55 3 rfl (by rfl) (by decide) (in_pick [1, 2, 3, 0] rfl) ?_
  refine g_goto (tgt := 12) X dX12_freeRow_58 (by decide) ?_
  exact hk12 x0 x1 (s0 ||| s1) (x3 + 1) hf
def b_X12_freeRow_12  (k4 : Option Nat → Int32 → Int32 → Option Int32) (h : AH) : Nat → Option Nat → Int32 → Int32 → Int32 → Option Int32
  | 0 => fun _ _ _ _ => none
  | n + 1 => fun x0 x1 x2 x3 =>
    if x3 < 4 then
      (gR 12 31 h x0).bind fun v1 =>
      (aI h v1 x3).bind fun v2 =>
      if v2 = x1 then
        b_X12_freeRow_53 k4 (b_X12_freeRow_12 k4 h n) h x0 x1 x3 x2 1
      else
        (gR 12 35 h x0).bind fun v3 =>
        (aI h v3 x3).bind fun v4 =>
        if v4 = 4 then
          (gR 12 36 h x0).bind fun v5 =>
          (aI h v5 x3).bind fun v6 =>
          if v6 = x1 then
            b_X12_freeRow_53 k4 (b_X12_freeRow_12 k4 h n) h x0 x1 x3 x2 1
          else
            b_X12_freeRow_53 k4 (b_X12_freeRow_12 k4 h n) h x0 x1 x3 x2 0
        else
          b_X12_freeRow_53 k4 (b_X12_freeRow_12 k4 h n) h x0 x1 x3 x2 0
    else
      if x2 = 0 then
        k4 x0 (x1 + 0) x2
      else
        k4 x0 (x1 + 1) x2
set_option maxRecDepth 20000 in
theorem w_X12_freeRow_12 {K : KT} {w : Int32} {h : AH} {k4 : Option Nat → Int32 → Int32 → Option Int32}  (X : CX K cX12_freeRow RX12 TB (some .int) "freeRow" (rmD 1 0 0) 4 0 0) (hk4 : ∀ (x0 : Option Nat) (x1 : Int32) (x2 : Int32), k4 x0 x1 x2 = some w → GG K (some (tI w), h) 0 0 4 [(0, tR x0), (1, tI x1), (2, tI x2)] [] h) : ∀ (n : Nat) (x0 : Option Nat) (x1 : Int32) (x2 : Int32) (x3 : Int32), b_X12_freeRow_12 k4 h n x0 x1 x2 x3 = some w → GG K (some (tI w), h) 0 0 12 [(0, tR x0), (1, tI x1), (2, tI x2), (3, tI x3)] [] h := by
  intro n
  induction n with
  | zero =>
    intro x0 x1 x2 x3 hf
    cases (show none = some w from hf)
  | succ n ih =>
    intro x0 x1 x2 x3 hf
    rw [b_X12_freeRow_12] at hf
    refine g_iload_n X dX12_freeRow_12 3 rfl ?_
    refine g_iconst (v := 4) X dX12_freeRow_13 (by decide) ?_
    refine g_icmpge (tgt := 61) X hf dX12_freeRow_14 (by decide) (fun hf => ?_) (fun hf => ?_)
    · refine g_iload_n X dX12_freeRow_17 2 rfl ?_
      refine g_aload_n X dX12_freeRow_18 0 rfl ?_
      refine g_getR X hf (T := TX12) rfl (by decide) (by decide) in_RX12 tb_1166 rfl dX12_freeRow_19 (fun v1 hf => ?_)
      refine g_iload_n X dX12_freeRow_22 3 rfl ?_
      refine g_iaload X hf dX12_freeRow_23 (fun v2 hf => ?_)
      refine g_iload_n X dX12_freeRow_24 1 rfl ?_
      refine g_icmpeq (tgt := 48) X hf dX12_freeRow_25 (by decide) (fun hf => ?_) (fun hf => ?_)
      · refine g_iconst (v := 1) X dX12_freeRow_48 (by decide) ?_
        refine g_goto (tgt := 53) X dX12_freeRow_49 (by decide) ?_
        refine g_locs (lv' := [(0, tR x0), (1, tI x1), (3, tI x3)]) (in_pick [0, 1, 3] rfl) ?_
        exact w_X12_freeRow_53 X hk4 ih x0 x1 x3 x2 1 hf
      · refine g_aload_n X dX12_freeRow_28 0 rfl ?_
        refine g_getR X hf (T := TX12) rfl (by decide) (by decide) in_RX12 tb_1170 rfl dX12_freeRow_29 (fun v3 hf => ?_)
        refine g_iload_n X dX12_freeRow_32 3 rfl ?_
        refine g_iaload X hf dX12_freeRow_33 (fun v4 hf => ?_)
        refine g_iconst (v := 4) X dX12_freeRow_34 (by decide) ?_
        refine g_icmpne (tgt := 52) X hf dX12_freeRow_35 (by decide) (fun hf => ?_) (fun hf => ?_)
        · refine g_aload_n X dX12_freeRow_38 0 rfl ?_
          refine g_getR X hf (T := TX12) rfl (by decide) (by decide) in_RX12 tb_1171 rfl dX12_freeRow_39 (fun v5 hf => ?_)
          refine g_iload_n X dX12_freeRow_42 3 rfl ?_
          refine g_iaload X hf dX12_freeRow_43 (fun v6 hf => ?_)
          refine g_iload_n X dX12_freeRow_44 1 rfl ?_
          refine g_icmpne (tgt := 52) X hf dX12_freeRow_45 (by decide) (fun hf => ?_) (fun hf => ?_)
          · refine g_iconst (v := 1) X dX12_freeRow_48 (by decide) ?_
            refine g_goto (tgt := 53) X dX12_freeRow_49 (by decide) ?_
            refine g_locs (lv' := [(0, tR x0), (1, tI x1), (3, tI x3)]) (in_pick [0, 1, 3] rfl) ?_
            exact w_X12_freeRow_53 X hk4 ih x0 x1 x3 x2 1 hf
          · refine g_iconst (v := 0) X dX12_freeRow_52 (by decide) ?_
            refine g_locs (lv' := [(0, tR x0), (1, tI x1), (3, tI x3)]) (in_pick [0, 1, 3] rfl) ?_
            exact w_X12_freeRow_53 X hk4 ih x0 x1 x3 x2 0 hf
        · refine g_iconst (v := 0) X dX12_freeRow_52 (by decide) ?_
          refine g_locs (lv' := [(0, tR x0), (1, tI x1), (3, tI x3)]) (in_pick [0, 1, 3] rfl) ?_
          exact w_X12_freeRow_53 X hk4 ih x0 x1 x3 x2 0 hf
    · refine g_iload_n X dX12_freeRow_61 1 rfl ?_
      refine g_iload_n X dX12_freeRow_62 2 rfl ?_
      refine g_ifeq (tgt := 70) X hf dX12_freeRow_63 (by decide) (fun hf => ?_) (fun hf => ?_)
      · refine g_iconst (v := 0) X dX12_freeRow_70 (by decide) ?_
        refine g_iadd X dX12_freeRow_71 ?_
        refine g_istore_n (lv' := [(0, tR x0), (1, tI (x1 + 0)), (2, tI x2), (3, tI x3)]) X dX12_freeRow_72 (by decide) (in_pick [1, 0, 2, 3] rfl) ?_
        refine g_goto (tgt := 4) X dX12_freeRow_73 (by decide) ?_
        refine g_locs (lv' := [(0, tR x0), (1, tI (x1 + 0)), (2, tI x2)]) (in_pick [0, 1, 2] rfl) ?_
        exact hk4 x0 (x1 + 0) x2 hf
      · refine g_iconst (v := 1) X dX12_freeRow_66 (by decide) ?_
        refine g_goto (tgt := 71) X dX12_freeRow_67 (by decide) ?_
        refine g_iadd X dX12_freeRow_71 ?_
        refine g_istore_n (lv' := [(0, tR x0), (1, tI (x1 + 1)), (2, tI x2), (3, tI x3)]) X dX12_freeRow_72 (by decide) (in_pick [1, 0, 2, 3] rfl) ?_
        refine g_goto (tgt := 4) X dX12_freeRow_73 (by decide) ?_
        refine g_locs (lv' := [(0, tR x0), (1, tI (x1 + 1)), (2, tI x2)]) (in_pick [0, 1, 2] rfl) ?_
        exact hk4 x0 (x1 + 1) x2 hf
def b_X12_freeRow_4   (h : AH) : Nat → Option Nat → Int32 → Int32 → Option Int32
  | 0 => fun _ _ _ => none
  | n + 1 => fun x0 x1 x2 =>
    if x2 = 0 then
      some x1
    else
      b_X12_freeRow_12 (b_X12_freeRow_4 h n) h FU x0 x1 0 0
set_option maxRecDepth 20000 in
theorem w_X12_freeRow_4 {K : KT} {w : Int32} {h : AH}   (X : CX K cX12_freeRow RX12 TB (some .int) "freeRow" (rmD 1 0 0) 4 0 0)  : ∀ (n : Nat) (x0 : Option Nat) (x1 : Int32) (x2 : Int32), b_X12_freeRow_4 h n x0 x1 x2 = some w → GG K (some (tI w), h) 0 0 4 [(0, tR x0), (1, tI x1), (2, tI x2)] [] h := by
  intro n
  induction n with
  | zero =>
    intro x0 x1 x2 hf
    cases (show none = some w from hf)
  | succ n ih =>
    intro x0 x1 x2 hf
    rw [b_X12_freeRow_4] at hf
    refine g_iload_n X dX12_freeRow_4 2 rfl ?_
    refine g_ifeq (tgt := 76) X hf dX12_freeRow_5 (by decide) (fun hf => ?_) (fun hf => ?_)
    · refine g_iload_n X dX12_freeRow_76 1 rfl ?_
      exact g_ireturn X (zP hf) (by decide) (by decide) dX12_freeRow_77
    · refine g_iconst (v := 0) X dX12_freeRow_8 (by decide) ?_
      refine g_istore_n (lv' := [(0, tR x0), (1, tI x1), (2, tI 0)]) X dX12_freeRow_9 (by decide) (in_pick [1, 2, 0] rfl) ?_
      refine g_iconst (v := 0) X dX12_freeRow_10 (by decide) ?_
      refine g_istore_n (lv' := [(0, tR x0), (1, tI x1), (2, tI 0), (3, tI 0)]) X dX12_freeRow_11 (by decide) (in_pick [1, 2, 3, 0] rfl) ?_
      exact w_X12_freeRow_12 X ih FU x0 x1 0 0 hf
def f_X12_freeRow  (a0 : Option Nat) (h : AH) : Option Int32 :=
  b_X12_freeRow_4 h FU a0 0 1
set_option maxRecDepth 20000 in
theorem m_X12_freeRow  {a0 : Option Nat} {h : AH} {w : Int32} (hf : f_X12_freeRow a0 h = some w) : CT yX12_freeRow (wU yX12_freeRow cX12_freeRow 4 (some .int)) (rmD 1 0 0) 0 0 [tR a0] h (some (tI w), h) := by
  refine CT.of (cc := cX12_freeRow) (nL := 4) (ret := (some .int)) (by decide) (by simp [lg_sl, vOf_cat, wOf]) ?_
  intro K X
  refine g_locs (lv' := [(0, tR a0)]) (fun q hq => hq) ?_
  unfold f_X12_freeRow at hf
  refine g_iconst (v := 0) X dX12_freeRow_0 (by decide) ?_
  refine g_istore_n (lv' := [(0, tR a0), (1, tI 0)]) X dX12_freeRow_1 (by decide) (in_pick [1, 0] rfl) ?_
  refine g_iconst (v := 1) X dX12_freeRow_2 (by decide) ?_
  refine g_istore_n (lv' := [(0, tR a0), (1, tI 0), (2, tI 1)]) X dX12_freeRow_3 (by decide) (in_pick [1, 2, 0] rfl) ?_
  exact w_X12_freeRow_4 X FU a0 0 1 hf
def b_X12_sheet_85    : Nat → Option Nat → Int32 → Int32 → AH → Option (Int32 × AH)
  | 0 => fun _ _ _ _ => none
  | n + 1 => fun x0 x4 x5 h =>
    if x5 < 40 then
      (gR 12 34 h x0).bind fun v1 =>
      (sI h v1 ((40 * x4) + x5) 0).bind fun h2 =>
      b_X12_sheet_85 n x0 x4 (x5 + 1) h2
    else
      some (1, h)
set_option maxRecDepth 20000 in
theorem w_X12_sheet_85 {K : KT} {w : (Int32 × AH)}   (X : CX K cX12_sheet RX12 TB (some .int) "sheet" (rmD 3 0 0) 6 0 0)  : ∀ (n : Nat) (x0 : Option Nat) (x4 : Int32) (x5 : Int32) (h : AH), b_X12_sheet_85 n x0 x4 x5 h = some w → GG K (some (tI w.1), w.2) 0 0 85 [(0, tR x0), (4, tI x4), (5, tI x5)] [] h := by
  intro n
  induction n with
  | zero =>
    intro x0 x4 x5 h hf
    cases (show none = some w from hf)
  | succ n ih =>
    intro x0 x4 x5 h hf
    rw [b_X12_sheet_85] at hf
    refine g_iload X dX12_sheet_85 2 rfl ?_
    refine g_bipush (v := 40) X dX12_sheet_87 (by decide) ?_
    refine g_icmpge (tgt := 112) X hf dX12_sheet_89 (by decide) (fun hf => ?_) (fun hf => ?_)
    · refine g_aload_n X dX12_sheet_92 0 rfl ?_
      refine g_getR X hf (T := TX12) rfl (by decide) (by decide) in_RX12 tb_1169 rfl dX12_sheet_93 (fun v1 hf => ?_)
      refine g_bipush (v := 40) X dX12_sheet_96 (by decide) ?_
      refine g_iload X dX12_sheet_98 1 rfl ?_
      refine g_imul X dX12_sheet_100 ?_
      refine g_iload X dX12_sheet_101 2 rfl ?_
      refine g_iadd X dX12_sheet_103 ?_
      refine g_iconst (v := 0) X dX12_sheet_104 (by decide) ?_
      refine g_iastore X hf dX12_sheet_105 (fun h2 hf => ?_)
      refine g_iinc (v := (x5 + 1)) (lv' := [(0, tR x0), (4, tI x4), (5, tI (x5 + 1))]) X dX12_sheet_106 2 rfl (by rfl) (by decide) (in_pick [1, 2, 0] rfl) ?_
      refine g_goto (tgt := 85) X dX12_sheet_109 (by decide) ?_
      exact ih x0 x4 (x5 + 1) h2 hf
    · refine g_iconst (v := 1) X dX12_sheet_112 (by decide) ?_
      exact g_ireturn X (zW hf) (by decide) (by decide) dX12_sheet_113
def b_X12_sheet_39   (x0 : Option Nat) (x1 : Int32) (x2 : Int32) (x3 : Int32) (h : AH) : Option (Int32 × AH) :=
  (gR 12 31 h x0).bind fun v1 =>
  (sI h v1 x1 (-1)).bind fun h2 =>
  if x2 < 0 then
    some (1, h2)
  else
    (ck 12 h2 x0 (f_X12_freeRow x0 h2)).bind fun v3 =>
    (gR 12 31 h2 x0).bind fun v4 =>
    (sI h2 v4 x1 v3).bind fun h5 =>
    (gR 12 32 h5 x0).bind fun v6 =>
    (sI h5 v6 v3 x2).bind fun h7 =>
    (gR 12 33 h7 x0).bind fun v8 =>
    (sI h7 v8 v3 x3).bind fun h9 =>
    b_X12_sheet_85 FU x0 v3 0 h9
set_option maxRecDepth 20000 in
theorem w_X12_sheet_39 {K : KT} {w : (Int32 × AH)}   (X : CX K cX12_sheet RX12 TB (some .int) "sheet" (rmD 3 0 0) 6 0 0)  (x0 : Option Nat) (x1 : Int32) (x2 : Int32) (x3 : Int32) (h : AH) (hf : b_X12_sheet_39 x0 x1 x2 x3 h = some w) : GG K (some (tI w.1), w.2) 0 0 39 [(0, tR x0), (1, tI x1), (2, tI x2), (3, tI x3)] [] h := by
  unfold b_X12_sheet_39 at hf
  refine g_aload_n X dX12_sheet_39 0 rfl ?_
  refine g_getR X hf (T := TX12) rfl (by decide) (by decide) in_RX12 tb_1166 rfl dX12_sheet_40 (fun v1 hf => ?_)
  refine g_iload_n X dX12_sheet_43 1 rfl ?_
  refine g_iconst (v := (-1)) X dX12_sheet_44 (by decide) ?_
  refine g_iastore X hf dX12_sheet_45 (fun h2 hf => ?_)
  refine g_iload_n X dX12_sheet_46 2 rfl ?_
  refine g_ifge (tgt := 52) X hf dX12_sheet_47 (by decide) (fun hf => ?_) (fun hf => ?_)
  · refine g_iconst (v := 1) X dX12_sheet_50 (by decide) ?_
    exact g_ireturn X (zW hf) (by decide) (by decide) dX12_sheet_51
  · refine g_aload_n X dX12_sheet_52 0 rfl ?_
    refine g_callV (n := 0) (av := []) (rest := []) (k := 12) X hf (fun v3 => (some (tI v3), h2)) (fun _ q => m_X12_freeRow q) (gdV tb_1564 tb_1565 tb_1731 tb_12 tb_1566) rfl (by decide +kernel) rfl (by decide) rfl (by decide) (by decide) rfl (Nat.le_of_ble_eq_true rfl) dX12_sheet_53 (fun v3 hf => ?_)
    refine g_istore (lv' := [(0, tR x0), (1, tI x1), (2, tI x2), (3, tI x3), (4, tI v3)]) X dX12_sheet_56 (by decide) (in_pick [1, 2, 3, 4, 0] rfl) ?_
    refine g_aload_n X dX12_sheet_58 0 rfl ?_
    refine g_getR X hf (T := TX12) rfl (by decide) (by decide) in_RX12 tb_1166 rfl dX12_sheet_59 (fun v4 hf => ?_)
    refine g_iload_n X dX12_sheet_62 1 rfl ?_
    refine g_iload X dX12_sheet_63 4 rfl ?_
    refine g_iastore X hf dX12_sheet_65 (fun h5 hf => ?_)
    refine g_aload_n X dX12_sheet_66 0 rfl ?_
    refine g_getR X hf (T := TX12) rfl (by decide) (by decide) in_RX12 tb_1167 rfl dX12_sheet_67 (fun v6 hf => ?_)
    refine g_iload X dX12_sheet_70 4 rfl ?_
    refine g_iload_n X dX12_sheet_72 2 rfl ?_
    refine g_iastore X hf dX12_sheet_73 (fun h7 hf => ?_)
    refine g_aload_n X dX12_sheet_74 0 rfl ?_
    refine g_getR X hf (T := TX12) rfl (by decide) (by decide) in_RX12 tb_1168 rfl dX12_sheet_75 (fun v8 hf => ?_)
    refine g_iload X dX12_sheet_78 4 rfl ?_
    refine g_iload_n X dX12_sheet_80 3 rfl ?_
    refine g_iastore X hf dX12_sheet_81 (fun h9 hf => ?_)
    refine g_iconst (v := 0) X dX12_sheet_82 (by decide) ?_
    refine g_istore (lv' := [(0, tR x0), (1, tI x1), (2, tI x2), (3, tI x3), (4, tI v3), (5, tI 0)]) X dX12_sheet_83 (by decide) (in_pick [1, 2, 3, 4, 5, 0] rfl) ?_
    refine g_locs (lv' := [(0, tR x0), (4, tI v3), (5, tI 0)]) (in_pick [0, 4, 5] rfl) ?_
    exact w_X12_sheet_85 X FU x0 v3 0 h9 hf
def b_X12_sheet_28   (x0 : Option Nat) (x1 : Int32) (x2 : Int32) (x3 : Int32) (h : AH) : Option (Int32 × AH) :=
  if x2 < 0 then
    b_X12_sheet_39 x0 x1 x2 x3 h
  else
    if x3 < 0 then
      some ((-14), h)
    else
      b_X12_sheet_39 x0 x1 x2 x3 h
set_option maxRecDepth 20000 in
theorem w_X12_sheet_28 {K : KT} {w : (Int32 × AH)}   (X : CX K cX12_sheet RX12 TB (some .int) "sheet" (rmD 3 0 0) 6 0 0)  (x0 : Option Nat) (x1 : Int32) (x2 : Int32) (x3 : Int32) (h : AH) (hf : b_X12_sheet_28 x0 x1 x2 x3 h = some w) : GG K (some (tI w.1), w.2) 0 0 28 [(0, tR x0), (1, tI x1), (2, tI x2), (3, tI x3)] [] h := by
  unfold b_X12_sheet_28 at hf
  refine g_iload_n X dX12_sheet_28 2 rfl ?_
  refine g_iflt (tgt := 39) X hf dX12_sheet_29 (by decide) (fun hf => ?_) (fun hf => ?_)
  · exact w_X12_sheet_39 X x0 x1 x2 x3 h hf
  · refine g_iload_n X dX12_sheet_32 3 rfl ?_
    refine g_ifge (tgt := 39) X hf dX12_sheet_33 (by decide) (fun hf => ?_) (fun hf => ?_)
    · refine g_bipush (v := (-14)) X dX12_sheet_36 (by decide) ?_
      exact g_ireturn X (zW hf) (by decide) (by decide) dX12_sheet_38
    · exact w_X12_sheet_39 X x0 x1 x2 x3 h hf
def f_X12_sheet  (a0 : Option Nat) (a1 : Int32) (a2 : Int32) (a3 : Int32) (h : AH) : Option (Int32 × AH) :=
  (f_X12_isFour a1 h).bind fun v1 =>
  if v1 = 0 then
    some ((-1), h)
  else
    (f_X12_in a2 (-1) 4 h).bind fun v2 =>
    if v2 = 0 then
      some ((-1), h)
    else
      if a2 < 0 then
        b_X12_sheet_28 a0 a1 a2 a3 h
      else
        if 40 < a3 then
          some ((-1), h)
        else
          b_X12_sheet_28 a0 a1 a2 a3 h
set_option maxRecDepth 20000 in
theorem m_X12_sheet  {a0 : Option Nat} {a1 : Int32} {a2 : Int32} {a3 : Int32} {h : AH} {w : (Int32 × AH)} (hf : f_X12_sheet a0 a1 a2 a3 h = some w) : CT yX12_sheet (wU yX12_sheet cX12_sheet 6 (some .int)) (rmD 3 0 0) 0 0 [tR a0, tI a1, tI a2, tI a3] h (some (tI w.1), w.2) := by
  refine CT.of (cc := cX12_sheet) (nL := 6) (ret := (some .int)) (by decide) (by simp [lg_sl, vOf_cat, wOf]) ?_
  intro K X
  refine g_locs (lv' := [(0, tR a0), (1, tI a1), (2, tI a2), (3, tI a3)]) (fun q hq => hq) ?_
  unfold f_X12_sheet at hf
  refine g_iload_n X dX12_sheet_0 1 rfl ?_
  refine g_callS (n := 1) (av := [tI a1]) (rest := []) X hf (fun v1 => (some (tI v1), h)) (fun _ q => m_X12_isFour q) (gdS tb_1561 tb_1562 tb_12 tb_1563) rfl (by decide +kernel) rfl (by decide) (by decide) rfl (Nat.le_of_ble_eq_true rfl) dX12_sheet_1 (fun v1 hf => ?_)
  refine g_ifeq (tgt := 26) X hf dX12_sheet_4 (by decide) (fun hf => ?_) (fun hf => ?_)
  · refine g_iconst (v := (-1)) X dX12_sheet_26 (by decide) ?_
    exact g_ireturn X (zW hf) (by decide) (by decide) dX12_sheet_27
  · refine g_iload_n X dX12_sheet_7 2 rfl ?_
    refine g_iconst (v := (-1)) X dX12_sheet_8 (by decide) ?_
    refine g_iconst (v := 4) X dX12_sheet_9 (by decide) ?_
    refine g_callS (n := 3) (av := [tI a2, tI (-1), tI 4]) (rest := []) X hf (fun v2 => (some (tI v2), h)) (fun _ q => m_X12_in q) (gdS tb_1226 tb_1227 tb_12 tb_1228) rfl (by decide +kernel) rfl (by decide) (by decide) rfl (Nat.le_of_ble_eq_true rfl) dX12_sheet_10 (fun v2 hf => ?_)
    refine g_ifeq (tgt := 26) X hf dX12_sheet_13 (by decide) (fun hf => ?_) (fun hf => ?_)
    · refine g_iconst (v := (-1)) X dX12_sheet_26 (by decide) ?_
      exact g_ireturn X (zW hf) (by decide) (by decide) dX12_sheet_27
    · refine g_iload_n X dX12_sheet_16 2 rfl ?_
      refine g_iflt (tgt := 28) X hf dX12_sheet_17 (by decide) (fun hf => ?_) (fun hf => ?_)
      · exact w_X12_sheet_28 X a0 a1 a2 a3 h hf
      · refine g_iload_n X dX12_sheet_20 3 rfl ?_
        refine g_bipush (v := 40) X dX12_sheet_21 (by decide) ?_
        refine g_icmple (tgt := 28) X hf dX12_sheet_23 (by decide) (fun hf => ?_) (fun hf => ?_)
        · refine g_iconst (v := (-1)) X dX12_sheet_26 (by decide) ?_
          exact g_ireturn X (zW hf) (by decide) (by decide) dX12_sheet_27
        · exact w_X12_sheet_28 X a0 a1 a2 a3 h hf
def b_X12_put_111   (s0 : Option Nat) (s1 : Int32) (s2 : Int32) (h : AH) : Option (Int32 × AH) :=
  (sI h s0 s1 s2).bind fun h1 =>
  some (1, h1)
set_option maxRecDepth 20000 in
theorem w_X12_put_111 {K : KT} {w : (Int32 × AH)}   (X : CX K cX12_put RX12 TB (some .int) "put" (rmD 3 0 0) 5 0 0)  (s0 : Option Nat) (s1 : Int32) (s2 : Int32) (h : AH) (hf : b_X12_put_111 s0 s1 s2 h = some w) : GG K (some (tI w.1), w.2) 0 0 111 [] [tI s2, tI s1, tR s0] h := by
  unfold b_X12_put_111 at hf
  refine g_iastore X hf dX12_put_111 (fun h1 hf => ?_)
  refine g_iconst (v := 1) X dX12_put_112 (by decide) ?_
  exact g_ireturn X (zW hf) (by decide) (by decide) dX12_put_113
def f_X12_put  (a0 : Option Nat) (a1 : Int32) (a2 : Int32) (a3 : Int32) (h : AH) : Option (Int32 × AH) :=
  (f_X12_isFour a1 h).bind fun v1 =>
  if v1 = 0 then
    some ((-1), h)
  else
    (gR 12 31 h a0).bind fun v2 =>
    (aI h v2 a1).bind fun v3 =>
    if v3 < 0 then
      some ((-11), h)
    else
      (gR 12 33 h a0).bind fun v4 =>
      (aI h v4 v3).bind fun v5 =>
      (f_X12_in a2 0 (v5 - 1) h).bind fun v6 =>
      if v6 = 0 then
        some ((-12), h)
      else
        (gR 12 34 h a0).bind fun v7 =>
        (gR 12 32 h a0).bind fun v8 =>
        (aI h v8 v3).bind fun v9 =>
        if v9 = 0 then
          b_X12_put_111 v7 ((40 * v3) + a2) ((a3 : Int32).toInt8.toInt32) h
        else
          (gR 12 32 h a0).bind fun v10 =>
          (aI h v10 v3).bind fun v11 =>
          if v11 = 1 then
            b_X12_put_111 v7 ((40 * v3) + a2) ((a3 : Int32).toInt16.toInt32) h
          else
            (gR 12 32 h a0).bind fun v12 =>
            (aI h v12 v3).bind fun v13 =>
            if v13 = 4 then
              if a3 = 0 then
                b_X12_put_111 v7 ((40 * v3) + a2) 0 h
              else
                b_X12_put_111 v7 ((40 * v3) + a2) 1 h
            else
              b_X12_put_111 v7 ((40 * v3) + a2) a3 h
set_option maxRecDepth 20000 in
theorem m_X12_put  {a0 : Option Nat} {a1 : Int32} {a2 : Int32} {a3 : Int32} {h : AH} {w : (Int32 × AH)} (hf : f_X12_put a0 a1 a2 a3 h = some w) : CT yX12_put (wU yX12_put cX12_put 5 (some .int)) (rmD 3 0 0) 0 0 [tR a0, tI a1, tI a2, tI a3] h (some (tI w.1), w.2) := by
  refine CT.of (cc := cX12_put) (nL := 5) (ret := (some .int)) (by decide) (by simp [lg_sl, vOf_cat, wOf]) ?_
  intro K X
  refine g_locs (lv' := [(0, tR a0), (1, tI a1), (2, tI a2), (3, tI a3)]) (fun q hq => hq) ?_
  unfold f_X12_put at hf
  refine g_iload_n X dX12_put_0 1 rfl ?_
  refine g_callS (n := 1) (av := [tI a1]) (rest := []) X hf (fun v1 => (some (tI v1), h)) (fun _ q => m_X12_isFour q) (gdS tb_1561 tb_1562 tb_12 tb_1563) rfl (by decide +kernel) rfl (by decide) (by decide) rfl (Nat.le_of_ble_eq_true rfl) dX12_put_1 (fun v1 hf => ?_)
  refine g_ifne (tgt := 9) X hf dX12_put_4 (by decide) (fun hf => ?_) (fun hf => ?_)
  · refine g_iconst (v := (-1)) X dX12_put_7 (by decide) ?_
    exact g_ireturn X (zW hf) (by decide) (by decide) dX12_put_8
  · refine g_aload_n X dX12_put_9 0 rfl ?_
    refine g_getR X hf (T := TX12) rfl (by decide) (by decide) in_RX12 tb_1166 rfl dX12_put_10 (fun v2 hf => ?_)
    refine g_iload_n X dX12_put_13 1 rfl ?_
    refine g_iaload X hf dX12_put_14 (fun v3 hf => ?_)
    refine g_istore (lv' := [(0, tR a0), (1, tI a1), (2, tI a2), (3, tI a3), (4, tI v3)]) X dX12_put_15 (by decide) (in_pick [1, 2, 3, 4, 0] rfl) ?_
    refine g_iload X dX12_put_17 4 rfl ?_
    refine g_ifge (tgt := 25) X hf dX12_put_19 (by decide) (fun hf => ?_) (fun hf => ?_)
    · refine g_bipush (v := (-11)) X dX12_put_22 (by decide) ?_
      exact g_ireturn X (zW hf) (by decide) (by decide) dX12_put_24
    · refine g_iload_n X dX12_put_25 2 rfl ?_
      refine g_iconst (v := 0) X dX12_put_26 (by decide) ?_
      refine g_aload_n X dX12_put_27 0 rfl ?_
      refine g_getR X hf (T := TX12) rfl (by decide) (by decide) in_RX12 tb_1168 rfl dX12_put_28 (fun v4 hf => ?_)
      refine g_iload X dX12_put_31 4 rfl ?_
      refine g_iaload X hf dX12_put_33 (fun v5 hf => ?_)
      refine g_iconst (v := 1) X dX12_put_34 (by decide) ?_
      refine g_isub X dX12_put_35 ?_
      refine g_callS (n := 3) (av := [tI a2, tI 0, tI (v5 - 1)]) (rest := []) X hf (fun v6 => (some (tI v6), h)) (fun _ q => m_X12_in q) (gdS tb_1226 tb_1227 tb_12 tb_1228) rfl (by decide +kernel) rfl (by decide) (by decide) rfl (Nat.le_of_ble_eq_true rfl) dX12_put_36 (fun v6 hf => ?_)
      refine g_ifne (tgt := 45) X hf dX12_put_39 (by decide) (fun hf => ?_) (fun hf => ?_)
      · refine g_bipush (v := (-12)) X dX12_put_42 (by decide) ?_
        exact g_ireturn X (zW hf) (by decide) (by decide) dX12_put_44
      · refine g_aload_n X dX12_put_45 0 rfl ?_
        refine g_getR X hf (T := TX12) rfl (by decide) (by decide) in_RX12 tb_1169 rfl dX12_put_46 (fun v7 hf => ?_)
        refine g_bipush (v := 40) X dX12_put_49 (by decide) ?_
        refine g_iload X dX12_put_51 4 rfl ?_
        refine g_imul X dX12_put_53 ?_
        refine g_iload_n X dX12_put_54 2 rfl ?_
        refine g_iadd X dX12_put_55 ?_
        refine g_aload_n X dX12_put_56 0 rfl ?_
        refine g_getR X hf (T := TX12) rfl (by decide) (by decide) in_RX12 tb_1167 rfl dX12_put_57 (fun v8 hf => ?_)
        refine g_iload X dX12_put_60 4 rfl ?_
        refine g_iaload X hf dX12_put_62 (fun v9 hf => ?_)
        refine g_ifne (tgt := 71) X hf dX12_put_63 (by decide) (fun hf => ?_) (fun hf => ?_)
        · refine g_iload_n X dX12_put_66 3 rfl ?_
          refine g_i2b X dX12_put_67 ?_
          refine g_goto (tgt := 111) X dX12_put_68 (by decide) ?_
          refine g_locs (lv' := []) (in_pick [] rfl) ?_
          exact w_X12_put_111 X v7 ((40 * v3) + a2) ((a3 : Int32).toInt8.toInt32) h hf
        · refine g_aload_n X dX12_put_71 0 rfl ?_
          refine g_getR X hf (T := TX12) rfl (by decide) (by decide) in_RX12 tb_1167 rfl dX12_put_72 (fun v10 hf => ?_)
          refine g_iload X dX12_put_75 4 rfl ?_
          refine g_iaload X hf dX12_put_77 (fun v11 hf => ?_)
          refine g_iconst (v := 1) X dX12_put_78 (by decide) ?_
          refine g_icmpne (tgt := 87) X hf dX12_put_79 (by decide) (fun hf => ?_) (fun hf => ?_)
          · refine g_iload_n X dX12_put_82 3 rfl ?_
            refine g_i2s X dX12_put_83 ?_
            refine g_goto (tgt := 111) X dX12_put_84 (by decide) ?_
            refine g_locs (lv' := []) (in_pick [] rfl) ?_
            exact w_X12_put_111 X v7 ((40 * v3) + a2) ((a3 : Int32).toInt16.toInt32) h hf
          · refine g_aload_n X dX12_put_87 0 rfl ?_
            refine g_getR X hf (T := TX12) rfl (by decide) (by decide) in_RX12 tb_1167 rfl dX12_put_88 (fun v12 hf => ?_)
            refine g_iload X dX12_put_91 4 rfl ?_
            refine g_iaload X hf dX12_put_93 (fun v13 hf => ?_)
            refine g_iconst (v := 4) X dX12_put_94 (by decide) ?_
            refine g_icmpne (tgt := 110) X hf dX12_put_95 (by decide) (fun hf => ?_) (fun hf => ?_)
            · refine g_iload_n X dX12_put_98 3 rfl ?_
              refine g_ifeq (tgt := 106) X hf dX12_put_99 (by decide) (fun hf => ?_) (fun hf => ?_)
              · refine g_iconst (v := 0) X dX12_put_106 (by decide) ?_
                refine g_goto (tgt := 111) X dX12_put_107 (by decide) ?_
                refine g_locs (lv' := []) (in_pick [] rfl) ?_
                exact w_X12_put_111 X v7 ((40 * v3) + a2) 0 h hf
              · refine g_iconst (v := 1) X dX12_put_102 (by decide) ?_
                refine g_goto (tgt := 111) X dX12_put_103 (by decide) ?_
                refine g_locs (lv' := []) (in_pick [] rfl) ?_
                exact w_X12_put_111 X v7 ((40 * v3) + a2) 1 h hf
            · refine g_iload_n X dX12_put_110 3 rfl ?_
              refine g_locs (lv' := []) (in_pick [] rfl) ?_
              exact w_X12_put_111 X v7 ((40 * v3) + a2) a3 h hf
def b_X12_item_45   (h : AH) (x0 : Option Nat) (x3 : Int32) (x4 : Int32) : Option Int32 :=
  if x4 < 0 then
    some (-11)
  else
    (gR 12 33 h x0).bind fun v1 =>
    (aI h v1 x4).bind fun v2 =>
    (f_X12_in x3 0 (v2 - 1) h).bind fun v3 =>
    if v3 = 0 then
      some (-12)
    else
      (gR 12 34 h x0).bind fun v4 =>
      (aI h v4 ((40 * x4) + x3)).bind fun v5 =>
      some v5
set_option maxRecDepth 20000 in
theorem w_X12_item_45 {K : KT} {w : Int32} {h : AH}   (X : CX K cX12_item RX12 TB (some .int) "item" (rmD 3 0 0) 5 0 0)  (x0 : Option Nat) (x3 : Int32) (x4 : Int32) (hf : b_X12_item_45 h x0 x3 x4 = some w) : GG K (some (tI w), h) 0 0 45 [(0, tR x0), (3, tI x3), (4, tI x4)] [] h := by
  unfold b_X12_item_45 at hf
  refine g_iload X dX12_item_45 2 rfl ?_
  refine g_ifge (tgt := 53) X hf dX12_item_47 (by decide) (fun hf => ?_) (fun hf => ?_)
  · refine g_bipush (v := (-11)) X dX12_item_50 (by decide) ?_
    exact g_ireturn X (zP hf) (by decide) (by decide) dX12_item_52
  · refine g_iload_n X dX12_item_53 1 rfl ?_
    refine g_iconst (v := 0) X dX12_item_54 (by decide) ?_
    refine g_aload_n X dX12_item_55 0 rfl ?_
    refine g_getR X hf (T := TX12) rfl (by decide) (by decide) in_RX12 tb_1168 rfl dX12_item_56 (fun v1 hf => ?_)
    refine g_iload X dX12_item_59 2 rfl ?_
    refine g_iaload X hf dX12_item_61 (fun v2 hf => ?_)
    refine g_iconst (v := 1) X dX12_item_62 (by decide) ?_
    refine g_isub X dX12_item_63 ?_
    refine g_callS (n := 3) (av := [tI x3, tI 0, tI (v2 - 1)]) (rest := []) X hf (fun v3 => (some (tI v3), h)) (fun _ q => m_X12_in q) (gdS tb_1226 tb_1227 tb_12 tb_1228) rfl (by decide +kernel) rfl (by decide) (by decide) rfl (Nat.le_of_ble_eq_true rfl) dX12_item_64 (fun v3 hf => ?_)
    refine g_ifeq (tgt := 85) X hf dX12_item_67 (by decide) (fun hf => ?_) (fun hf => ?_)
    · refine g_bipush (v := (-12)) X dX12_item_85 (by decide) ?_
      exact g_ireturn X (zP hf) (by decide) (by decide) dX12_item_87
    · refine g_aload_n X dX12_item_70 0 rfl ?_
      refine g_getR X hf (T := TX12) rfl (by decide) (by decide) in_RX12 tb_1169 rfl dX12_item_71 (fun v4 hf => ?_)
      refine g_bipush (v := 40) X dX12_item_74 (by decide) ?_
      refine g_iload X dX12_item_76 2 rfl ?_
      refine g_imul X dX12_item_78 ?_
      refine g_iload_n X dX12_item_79 1 rfl ?_
      refine g_iadd X dX12_item_80 ?_
      refine g_iaload X hf dX12_item_81 (fun v5 hf => ?_)
      refine g_goto (tgt := 87) X dX12_item_82 (by decide) ?_
      exact g_ireturn X (zP hf) (by decide) (by decide) dX12_item_87
def f_X12_item  (a0 : Option Nat) (a1 : Int32) (a2 : Int32) (a3 : Int32) (h : AH) : Option Int32 :=
  (f_X12_isFour a1 h).bind fun v1 =>
  if v1 = 0 then
    some (-1)
  else
    (f_X12_in a2 0 4 h).bind fun v2 =>
    if v2 = 0 then
      some (-1)
    else
      (gR 12 31 h a0).bind fun v3 =>
      (aI h v3 a1).bind fun v4 =>
      if v4 < 0 then
        b_X12_item_45 h a0 a3 v4
      else
        (gR 12 32 h a0).bind fun v5 =>
        (aI h v5 v4).bind fun v6 =>
        if v6 = a2 then
          b_X12_item_45 h a0 a3 v4
        else
          some (-13)
set_option maxRecDepth 20000 in
theorem m_X12_item  {a0 : Option Nat} {a1 : Int32} {a2 : Int32} {a3 : Int32} {h : AH} {w : Int32} (hf : f_X12_item a0 a1 a2 a3 h = some w) : CT yX12_item (wU yX12_item cX12_item 5 (some .int)) (rmD 3 0 0) 0 0 [tR a0, tI a1, tI a2, tI a3] h (some (tI w), h) := by
  refine CT.of (cc := cX12_item) (nL := 5) (ret := (some .int)) (by decide) (by simp [lg_sl, vOf_cat, wOf]) ?_
  intro K X
  refine g_locs (lv' := [(0, tR a0), (1, tI a1), (2, tI a2), (3, tI a3)]) (fun q hq => hq) ?_
  unfold f_X12_item at hf
  refine g_iload_n X dX12_item_0 1 rfl ?_
  refine g_callS (n := 1) (av := [tI a1]) (rest := []) X hf (fun v1 => (some (tI v1), h)) (fun _ q => m_X12_isFour q) (gdS tb_1561 tb_1562 tb_12 tb_1563) rfl (by decide +kernel) rfl (by decide) (by decide) rfl (Nat.le_of_ble_eq_true rfl) dX12_item_1 (fun v1 hf => ?_)
  refine g_ifeq (tgt := 16) X hf dX12_item_4 (by decide) (fun hf => ?_) (fun hf => ?_)
  · refine g_iconst (v := (-1)) X dX12_item_16 (by decide) ?_
    exact g_ireturn X (zP hf) (by decide) (by decide) dX12_item_17
  · refine g_iload_n X dX12_item_7 2 rfl ?_
    refine g_iconst (v := 0) X dX12_item_8 (by decide) ?_
    refine g_iconst (v := 4) X dX12_item_9 (by decide) ?_
    refine g_callS (n := 3) (av := [tI a2, tI 0, tI 4]) (rest := []) X hf (fun v2 => (some (tI v2), h)) (fun _ q => m_X12_in q) (gdS tb_1226 tb_1227 tb_12 tb_1228) rfl (by decide +kernel) rfl (by decide) (by decide) rfl (Nat.le_of_ble_eq_true rfl) dX12_item_10 (fun v2 hf => ?_)
    refine g_ifne (tgt := 18) X hf dX12_item_13 (by decide) (fun hf => ?_) (fun hf => ?_)
    · refine g_iconst (v := (-1)) X dX12_item_16 (by decide) ?_
      exact g_ireturn X (zP hf) (by decide) (by decide) dX12_item_17
    · refine g_aload_n X dX12_item_18 0 rfl ?_
      refine g_getR X hf (T := TX12) rfl (by decide) (by decide) in_RX12 tb_1166 rfl dX12_item_19 (fun v3 hf => ?_)
      refine g_iload_n X dX12_item_22 1 rfl ?_
      refine g_iaload X hf dX12_item_23 (fun v4 hf => ?_)
      refine g_istore (lv' := [(0, tR a0), (1, tI a1), (2, tI a2), (3, tI a3), (4, tI v4)]) X dX12_item_24 (by decide) (in_pick [1, 2, 3, 4, 0] rfl) ?_
      refine g_iload X dX12_item_26 4 rfl ?_
      refine g_iflt (tgt := 45) X hf dX12_item_28 (by decide) (fun hf => ?_) (fun hf => ?_)
      · refine g_locs (lv' := [(0, tR a0), (3, tI a3), (4, tI v4)]) (in_pick [0, 3, 4] rfl) ?_
        exact w_X12_item_45 X a0 a3 v4 hf
      · refine g_aload_n X dX12_item_31 0 rfl ?_
        refine g_getR X hf (T := TX12) rfl (by decide) (by decide) in_RX12 tb_1167 rfl dX12_item_32 (fun v5 hf => ?_)
        refine g_iload X dX12_item_35 4 rfl ?_
        refine g_iaload X hf dX12_item_37 (fun v6 hf => ?_)
        refine g_iload_n X dX12_item_38 2 rfl ?_
        refine g_icmpeq (tgt := 45) X hf dX12_item_39 (by decide) (fun hf => ?_) (fun hf => ?_)
        · refine g_locs (lv' := [(0, tR a0), (3, tI a3), (4, tI v4)]) (in_pick [0, 3, 4] rfl) ?_
          exact w_X12_item_45 X a0 a3 v4 hf
        · refine g_bipush (v := (-13)) X dX12_item_42 (by decide) ?_
          exact g_ireturn X (zP hf) (by decide) (by decide) dX12_item_44
def b_X12_comesFrom_33   (x0 : Option Nat) (x2 : Int32) (x3 : Int32) (h : AH) : Option (Int32 × AH) :=
  if x3 < 0 then
    some ((-11), h)
  else
    if x2 < 0 then
      some ((-12), h)
    else
      (gR 12 33 h x0).bind fun v1 =>
      (aI h v1 x3).bind fun v2 =>
      if (v2 - 6) < x2 then
        some ((-12), h)
      else
        (gR 12 34 h x0).bind fun v3 =>
        (aI h v3 ((40 * x3) + x2)).bind fun v4 =>
        (gR 12 34 h x0).bind fun v5 =>
        (aI h v5 (((40 * x3) + x2) + 1)).bind fun v6 =>
        (gR 12 34 h x0).bind fun v7 =>
        (aI h v7 (((40 * x3) + x2) + 2)).bind fun v8 =>
        (gR 12 34 h x0).bind fun v9 =>
        (aI h v9 (((40 * x3) + x2) + 3)).bind fun v10 =>
        (gR 12 34 h x0).bind fun v11 =>
        (aI h v11 (((40 * x3) + x2) + 4)).bind fun v12 =>
        (gR 12 34 h x0).bind fun v13 =>
        (aI h v13 (((40 * x3) + x2) + 5)).bind fun v14 =>
        (ck 12 h x0 (f_X12_sherd x0 v4 v6 v8 v10 v12 v14 h)).bind fun p15 =>
        some (p15.1, p15.2)
set_option maxRecDepth 20000 in
theorem w_X12_comesFrom_33 {K : KT} {w : (Int32 × AH)}   (X : CX K cX12_comesFrom RX12 TB (some .int) "comesFrom" (rmD 4 0 0) 5 0 0)  (x0 : Option Nat) (x2 : Int32) (x3 : Int32) (h : AH) (hf : b_X12_comesFrom_33 x0 x2 x3 h = some w) : GG K (some (tI w.1), w.2) 0 0 33 [(0, tR x0), (2, tI x2), (3, tI x3)] [] h := by
  unfold b_X12_comesFrom_33 at hf
  refine g_iload_n X dX12_comesFrom_33 2 rfl ?_
  refine g_ifge (tgt := 40) X hf dX12_comesFrom_34 (by decide) (fun hf => ?_) (fun hf => ?_)
  · refine g_bipush (v := (-11)) X dX12_comesFrom_37 (by decide) ?_
    exact g_ireturn X (zW hf) (by decide) (by decide) dX12_comesFrom_39
  · refine g_iload_n X dX12_comesFrom_40 1 rfl ?_
    refine g_iflt (tgt := 57) X hf dX12_comesFrom_41 (by decide) (fun hf => ?_) (fun hf => ?_)
    · refine g_bipush (v := (-12)) X dX12_comesFrom_57 (by decide) ?_
      exact g_ireturn X (zW hf) (by decide) (by decide) dX12_comesFrom_59
    · refine g_iload_n X dX12_comesFrom_44 1 rfl ?_
      refine g_aload_n X dX12_comesFrom_45 0 rfl ?_
      refine g_getR X hf (T := TX12) rfl (by decide) (by decide) in_RX12 tb_1168 rfl dX12_comesFrom_46 (fun v1 hf => ?_)
      refine g_iload_n X dX12_comesFrom_49 2 rfl ?_
      refine g_iaload X hf dX12_comesFrom_50 (fun v2 hf => ?_)
      refine g_bipush (v := 6) X dX12_comesFrom_51 (by decide) ?_
      refine g_isub X dX12_comesFrom_53 ?_
      refine g_icmple (tgt := 60) X hf dX12_comesFrom_54 (by decide) (fun hf => ?_) (fun hf => ?_)
      · refine g_bipush (v := (-12)) X dX12_comesFrom_57 (by decide) ?_
        exact g_ireturn X (zW hf) (by decide) (by decide) dX12_comesFrom_59
      · refine g_bipush (v := 40) X dX12_comesFrom_60 (by decide) ?_
        refine g_iload_n X dX12_comesFrom_62 2 rfl ?_
        refine g_imul X dX12_comesFrom_63 ?_
        refine g_iload_n X dX12_comesFrom_64 1 rfl ?_
        refine g_iadd X dX12_comesFrom_65 ?_
        refine g_istore (lv' := [(0, tR x0), (2, tI x2), (3, tI x3), (4, tI ((40 * x3) + x2))]) X dX12_comesFrom_66 (by decide) (in_pick [1, 2, 3, 0] rfl) ?_
        refine g_aload_n X dX12_comesFrom_68 0 rfl ?_
        refine g_aload_n X dX12_comesFrom_69 0 rfl ?_
        refine g_getR X hf (T := TX12) rfl (by decide) (by decide) in_RX12 tb_1169 rfl dX12_comesFrom_70 (fun v3 hf => ?_)
        refine g_iload X dX12_comesFrom_73 3 rfl ?_
        refine g_iaload X hf dX12_comesFrom_75 (fun v4 hf => ?_)
        refine g_aload_n X dX12_comesFrom_76 0 rfl ?_
        refine g_getR X hf (T := TX12) rfl (by decide) (by decide) in_RX12 tb_1169 rfl dX12_comesFrom_77 (fun v5 hf => ?_)
        refine g_iload X dX12_comesFrom_80 3 rfl ?_
        refine g_iconst (v := 1) X dX12_comesFrom_82 (by decide) ?_
        refine g_iadd X dX12_comesFrom_83 ?_
        refine g_iaload X hf dX12_comesFrom_84 (fun v6 hf => ?_)
        refine g_aload_n X dX12_comesFrom_85 0 rfl ?_
        refine g_getR X hf (T := TX12) rfl (by decide) (by decide) in_RX12 tb_1169 rfl dX12_comesFrom_86 (fun v7 hf => ?_)
        refine g_iload X dX12_comesFrom_89 3 rfl ?_
        refine g_iconst (v := 2) X dX12_comesFrom_91 (by decide) ?_
        refine g_iadd X dX12_comesFrom_92 ?_
        refine g_iaload X hf dX12_comesFrom_93 (fun v8 hf => ?_)
        refine g_aload_n X dX12_comesFrom_94 0 rfl ?_
        refine g_getR X hf (T := TX12) rfl (by decide) (by decide) in_RX12 tb_1169 rfl dX12_comesFrom_95 (fun v9 hf => ?_)
        refine g_iload X dX12_comesFrom_98 3 rfl ?_
        refine g_iconst (v := 3) X dX12_comesFrom_100 (by decide) ?_
        refine g_iadd X dX12_comesFrom_101 ?_
        refine g_iaload X hf dX12_comesFrom_102 (fun v10 hf => ?_)
        refine g_aload_n X dX12_comesFrom_103 0 rfl ?_
        refine g_getR X hf (T := TX12) rfl (by decide) (by decide) in_RX12 tb_1169 rfl dX12_comesFrom_104 (fun v11 hf => ?_)
        refine g_iload X dX12_comesFrom_107 3 rfl ?_
        refine g_iconst (v := 4) X dX12_comesFrom_109 (by decide) ?_
        refine g_iadd X dX12_comesFrom_110 ?_
        refine g_iaload X hf dX12_comesFrom_111 (fun v12 hf => ?_)
        refine g_aload_n X dX12_comesFrom_112 0 rfl ?_
        refine g_getR X hf (T := TX12) rfl (by decide) (by decide) in_RX12 tb_1169 rfl dX12_comesFrom_113 (fun v13 hf => ?_)
        refine g_iload X dX12_comesFrom_116 3 rfl ?_
        refine g_iconst (v := 5) X dX12_comesFrom_118 (by decide) ?_
        refine g_iadd X dX12_comesFrom_119 ?_
        refine g_iaload X hf dX12_comesFrom_120 (fun v14 hf => ?_)
        refine g_callV (n := 6) (av := [tI v4, tI v6, tI v8, tI v10, tI v12, tI v14]) (rest := []) (k := 12) X hf (fun p15 => (some (tI p15.1), p15.2)) (fun _ q => m_X12_sherd q) (gdV tb_1579 tb_1329 tb_1330 tb_12 tb_1331) rfl (by decide +kernel) rfl (by decide) rfl (by decide) (by decide) rfl (Nat.le_of_ble_eq_true rfl) dX12_comesFrom_121 (fun p15 hf => ?_)
        exact g_ireturn X (zW hf) (by decide) (by decide) dX12_comesFrom_124
def f_X12_comesFrom  (a0 : Option Nat) (a1 : Int32) (a2 : Int32) (h : AH) : Option (Int32 × AH) :=
  (f_X12_isFour a1 h).bind fun v1 =>
  if v1 = 0 then
    some ((-1), h)
  else
    (gR 12 31 h a0).bind fun v2 =>
    (aI h v2 a1).bind fun v3 =>
    if v3 < 0 then
      b_X12_comesFrom_33 a0 a2 v3 h
    else
      (gR 12 32 h a0).bind fun v4 =>
      (aI h v4 v3).bind fun v5 =>
      if v5 = 2 then
        b_X12_comesFrom_33 a0 a2 v3 h
      else
        some ((-13), h)
set_option maxRecDepth 20000 in
theorem m_X12_comesFrom  {a0 : Option Nat} {a1 : Int32} {a2 : Int32} {h : AH} {w : (Int32 × AH)} (hf : f_X12_comesFrom a0 a1 a2 h = some w) : CT yX12_comesFrom (wU yX12_comesFrom cX12_comesFrom 5 (some .int)) (rmD 4 0 0) 0 0 [tR a0, tI a1, tI a2] h (some (tI w.1), w.2) := by
  refine CT.of (cc := cX12_comesFrom) (nL := 5) (ret := (some .int)) (by decide) (by simp [lg_sl, vOf_cat, wOf]) ?_
  intro K X
  refine g_locs (lv' := [(0, tR a0), (1, tI a1), (2, tI a2)]) (fun q hq => hq) ?_
  unfold f_X12_comesFrom at hf
  refine g_iload_n X dX12_comesFrom_0 1 rfl ?_
  refine g_callS (n := 1) (av := [tI a1]) (rest := []) X hf (fun v1 => (some (tI v1), h)) (fun _ q => m_X12_isFour q) (gdS tb_1561 tb_1562 tb_12 tb_1563) rfl (by decide +kernel) rfl (by decide) (by decide) rfl (Nat.le_of_ble_eq_true rfl) dX12_comesFrom_1 (fun v1 hf => ?_)
  refine g_ifne (tgt := 9) X hf dX12_comesFrom_4 (by decide) (fun hf => ?_) (fun hf => ?_)
  · refine g_iconst (v := (-1)) X dX12_comesFrom_7 (by decide) ?_
    exact g_ireturn X (zW hf) (by decide) (by decide) dX12_comesFrom_8
  · refine g_aload_n X dX12_comesFrom_9 0 rfl ?_
    refine g_getR X hf (T := TX12) rfl (by decide) (by decide) in_RX12 tb_1166 rfl dX12_comesFrom_10 (fun v2 hf => ?_)
    refine g_iload_n X dX12_comesFrom_13 1 rfl ?_
    refine g_iaload X hf dX12_comesFrom_14 (fun v3 hf => ?_)
    refine g_istore_n (lv' := [(0, tR a0), (1, tI a1), (2, tI a2), (3, tI v3)]) X dX12_comesFrom_15 (by decide) (in_pick [1, 2, 3, 0] rfl) ?_
    refine g_iload_n X dX12_comesFrom_16 3 rfl ?_
    refine g_iflt (tgt := 33) X hf dX12_comesFrom_17 (by decide) (fun hf => ?_) (fun hf => ?_)
    · refine g_locs (lv' := [(0, tR a0), (2, tI a2), (3, tI v3)]) (in_pick [0, 2, 3] rfl) ?_
      exact w_X12_comesFrom_33 X a0 a2 v3 h hf
    · refine g_aload_n X dX12_comesFrom_20 0 rfl ?_
      refine g_getR X hf (T := TX12) rfl (by decide) (by decide) in_RX12 tb_1167 rfl dX12_comesFrom_21 (fun v4 hf => ?_)
      refine g_iload_n X dX12_comesFrom_24 3 rfl ?_
      refine g_iaload X hf dX12_comesFrom_25 (fun v5 hf => ?_)
      refine g_iconst (v := 2) X dX12_comesFrom_26 (by decide) ?_
      refine g_icmpeq (tgt := 33) X hf dX12_comesFrom_27 (by decide) (fun hf => ?_) (fun hf => ?_)
      · refine g_locs (lv' := [(0, tR a0), (2, tI a2), (3, tI v3)]) (in_pick [0, 2, 3] rfl) ?_
        exact w_X12_comesFrom_33 X a0 a2 v3 h hf
      · refine g_bipush (v := (-13)) X dX12_comesFrom_30 (by decide) ?_
        exact g_ireturn X (zW hf) (by decide) (by decide) dX12_comesFrom_32
def b_X12_shelf_163   (s0 : Option Nat) (s1 : Int32) (s2 : Int32) (h : AH) : Option (Int32 × AH) :=
  (sI h s0 s1 s2).bind fun h1 =>
  some (1, h1)
set_option maxRecDepth 20000 in
theorem w_X12_shelf_163 {K : KT} {w : (Int32 × AH)}   (X : CX K cX12_shelf RX12 TB (some .int) "shelf" (rmD 3 0 0) 6 0 0)  (s0 : Option Nat) (s1 : Int32) (s2 : Int32) (h : AH) (hf : b_X12_shelf_163 s0 s1 s2 h = some w) : GG K (some (tI w.1), w.2) 0 0 163 [] [tI s2, tI s1, tR s0] h := by
  unfold b_X12_shelf_163 at hf
  refine g_iastore X hf dX12_shelf_163 (fun h1 hf => ?_)
  refine g_iconst (v := 1) X dX12_shelf_164 (by decide) ?_
  exact g_ireturn X (zW hf) (by decide) (by decide) dX12_shelf_165
def b_X12_shelf_133   (x0 : Option Nat) (x1 : Int32) (x2 : Int32) (x3 : Int32) (x5 : Int32) (s0 : Option Nat) (s1 : Int32) (s2 : Int32) (h : AH) : Option (Int32 × AH) :=
  (sI h s0 s1 s2).bind fun h1 =>
  (gR 12 36 h1 x0).bind fun v2 =>
  if x5 = 0 then
    if x2 = 3 then
      (gR 12 31 h1 x0).bind fun v3 =>
      (aI h1 v3 x3).bind fun v4 =>
      b_X12_shelf_163 v2 x1 v4 h1
    else
      b_X12_shelf_163 v2 x1 x3 h1
  else
    b_X12_shelf_163 v2 x1 0 h1
set_option maxRecDepth 20000 in
theorem w_X12_shelf_133 {K : KT} {w : (Int32 × AH)}   (X : CX K cX12_shelf RX12 TB (some .int) "shelf" (rmD 3 0 0) 6 0 0)  (x0 : Option Nat) (x1 : Int32) (x2 : Int32) (x3 : Int32) (x5 : Int32) (s0 : Option Nat) (s1 : Int32) (s2 : Int32) (h : AH) (hf : b_X12_shelf_133 x0 x1 x2 x3 x5 s0 s1 s2 h = some w) : GG K (some (tI w.1), w.2) 0 0 133 [(0, tR x0), (1, tI x1), (2, tI x2), (3, tI x3), (5, tI x5)] [tI s2, tI s1, tR s0] h := by
  unfold b_X12_shelf_133 at hf
  refine g_iastore X hf dX12_shelf_133 (fun h1 hf => ?_)
  refine g_aload_n X dX12_shelf_134 0 rfl ?_
  refine g_getR X hf (T := TX12) rfl (by decide) (by decide) in_RX12 tb_1171 rfl dX12_shelf_135 (fun v2 hf => ?_)
  refine g_iload_n X dX12_shelf_138 1 rfl ?_
  refine g_iload X dX12_shelf_139 4 rfl ?_
  refine g_ifeq (tgt := 148) X hf dX12_shelf_141 (by decide) (fun hf => ?_) (fun hf => ?_)
  · refine g_iload_n X dX12_shelf_148 2 rfl ?_
    refine g_iconst (v := 3) X dX12_shelf_149 (by decide) ?_
    refine g_icmpne (tgt := 162) X hf dX12_shelf_150 (by decide) (fun hf => ?_) (fun hf => ?_)
    · refine g_aload_n X dX12_shelf_153 0 rfl ?_
      refine g_getR X hf (T := TX12) rfl (by decide) (by decide) in_RX12 tb_1166 rfl dX12_shelf_154 (fun v3 hf => ?_)
      refine g_iload_n X dX12_shelf_157 3 rfl ?_
      refine g_iaload X hf dX12_shelf_158 (fun v4 hf => ?_)
      refine g_goto (tgt := 163) X dX12_shelf_159 (by decide) ?_
      refine g_locs (lv' := []) (in_pick [] rfl) ?_
      exact w_X12_shelf_163 X v2 x1 v4 h1 hf
    · refine g_iload_n X dX12_shelf_162 3 rfl ?_
      refine g_locs (lv' := []) (in_pick [] rfl) ?_
      exact w_X12_shelf_163 X v2 x1 x3 h1 hf
  · refine g_iconst (v := 0) X dX12_shelf_144 (by decide) ?_
    refine g_goto (tgt := 163) X dX12_shelf_145 (by decide) ?_
    refine g_locs (lv' := []) (in_pick [] rfl) ?_
    exact w_X12_shelf_163 X v2 x1 0 h1 hf
def b_X12_shelf_114   (x0 : Option Nat) (x1 : Int32) (x2 : Int32) (x3 : Int32) (s0 : Int32) (h : AH) : Option (Int32 × AH) :=
  (gR 12 35 h x0).bind fun v1 =>
  if s0 = 0 then
    b_X12_shelf_133 x0 x1 x2 x3 s0 v1 x1 (x2 + 1) h
  else
    b_X12_shelf_133 x0 x1 x2 x3 s0 v1 x1 0 h
set_option maxRecDepth 20000 in
theorem w_X12_shelf_114 {K : KT} {w : (Int32 × AH)}   (X : CX K cX12_shelf RX12 TB (some .int) "shelf" (rmD 3 0 0) 6 0 0)  (x0 : Option Nat) (x1 : Int32) (x2 : Int32) (x3 : Int32) (s0 : Int32) (h : AH) (hf : b_X12_shelf_114 x0 x1 x2 x3 s0 h = some w) : GG K (some (tI w.1), w.2) 0 0 114 [(0, tR x0), (1, tI x1), (2, tI x2), (3, tI x3)] [tI s0] h := by
  unfold b_X12_shelf_114 at hf
  refine g_istore (lv' := [(0, tR x0), (1, tI x1), (2, tI x2), (3, tI x3), (5, tI s0)]) X dX12_shelf_114 (by decide) (in_pick [1, 2, 3, 4, 0] rfl) ?_
  refine g_aload_n X dX12_shelf_116 0 rfl ?_
  refine g_getR X hf (T := TX12) rfl (by decide) (by decide) in_RX12 tb_1170 rfl dX12_shelf_117 (fun v1 hf => ?_)
  refine g_iload_n X dX12_shelf_120 1 rfl ?_
  refine g_iload X dX12_shelf_121 4 rfl ?_
  refine g_ifeq (tgt := 130) X hf dX12_shelf_123 (by decide) (fun hf => ?_) (fun hf => ?_)
  · refine g_iload_n X dX12_shelf_130 2 rfl ?_
    refine g_iconst (v := 1) X dX12_shelf_131 (by decide) ?_
    refine g_iadd X dX12_shelf_132 ?_
    exact w_X12_shelf_133 X x0 x1 x2 x3 s0 v1 x1 (x2 + 1) h hf
  · refine g_iconst (v := 0) X dX12_shelf_126 (by decide) ?_
    refine g_goto (tgt := 133) X dX12_shelf_127 (by decide) ?_
    exact w_X12_shelf_133 X x0 x1 x2 x3 s0 v1 x1 0 h hf
def b_X12_shelf_81   (x0 : Option Nat) (x1 : Int32) (x2 : Int32) (x3 : Int32) (s0 : Int32) (h : AH) : Option (Int32 × AH) :=
  if s0 = 0 then
    some ((-1), h)
  else
    if x2 = 4 then
      b_X12_shelf_114 x0 x1 x2 x3 1 h
    else
      if x2 = 3 then
        (gR 12 31 h x0).bind fun v1 =>
        (aI h v1 x3).bind fun v2 =>
        if v2 < 0 then
          b_X12_shelf_114 x0 x1 x2 x3 1 h
        else
          b_X12_shelf_114 x0 x1 x2 x3 0 h
      else
        b_X12_shelf_114 x0 x1 x2 x3 0 h
set_option maxRecDepth 20000 in
theorem w_X12_shelf_81 {K : KT} {w : (Int32 × AH)}   (X : CX K cX12_shelf RX12 TB (some .int) "shelf" (rmD 3 0 0) 6 0 0)  (x0 : Option Nat) (x1 : Int32) (x2 : Int32) (x3 : Int32) (s0 : Int32) (h : AH) (hf : b_X12_shelf_81 x0 x1 x2 x3 s0 h = some w) : GG K (some (tI w.1), w.2) 0 0 81 [(0, tR x0), (1, tI x1), (2, tI x2), (3, tI x3)] [tI s0] h := by
  unfold b_X12_shelf_81 at hf
  refine g_istore (lv' := [(0, tR x0), (1, tI x1), (2, tI x2), (3, tI x3), (4, tI s0)]) X dX12_shelf_81 (by decide) (in_pick [1, 2, 3, 4, 0] rfl) ?_
  refine g_iload X dX12_shelf_83 4 rfl ?_
  refine g_ifne (tgt := 90) X hf dX12_shelf_85 (by decide) (fun hf => ?_) (fun hf => ?_)
  · refine g_iconst (v := (-1)) X dX12_shelf_88 (by decide) ?_
    exact g_ireturn X (zW hf) (by decide) (by decide) dX12_shelf_89
  · refine g_iload_n X dX12_shelf_90 2 rfl ?_
    refine g_iconst (v := 4) X dX12_shelf_91 (by decide) ?_
    refine g_icmpeq (tgt := 109) X hf dX12_shelf_92 (by decide) (fun hf => ?_) (fun hf => ?_)
    · refine g_iconst (v := 1) X dX12_shelf_109 (by decide) ?_
      refine g_goto (tgt := 114) X dX12_shelf_110 (by decide) ?_
      refine g_locs (lv' := [(0, tR x0), (1, tI x1), (2, tI x2), (3, tI x3)]) (in_pick [0, 1, 2, 3] rfl) ?_
      exact w_X12_shelf_114 X x0 x1 x2 x3 1 h hf
    · refine g_iload_n X dX12_shelf_95 2 rfl ?_
      refine g_iconst (v := 3) X dX12_shelf_96 (by decide) ?_
      refine g_icmpne (tgt := 113) X hf dX12_shelf_97 (by decide) (fun hf => ?_) (fun hf => ?_)
      · refine g_aload_n X dX12_shelf_100 0 rfl ?_
        refine g_getR X hf (T := TX12) rfl (by decide) (by decide) in_RX12 tb_1166 rfl dX12_shelf_101 (fun v1 hf => ?_)
        refine g_iload_n X dX12_shelf_104 3 rfl ?_
        refine g_iaload X hf dX12_shelf_105 (fun v2 hf => ?_)
        refine g_ifge (tgt := 113) X hf dX12_shelf_106 (by decide) (fun hf => ?_) (fun hf => ?_)
        · refine g_iconst (v := 1) X dX12_shelf_109 (by decide) ?_
          refine g_goto (tgt := 114) X dX12_shelf_110 (by decide) ?_
          refine g_locs (lv' := [(0, tR x0), (1, tI x1), (2, tI x2), (3, tI x3)]) (in_pick [0, 1, 2, 3] rfl) ?_
          exact w_X12_shelf_114 X x0 x1 x2 x3 1 h hf
        · refine g_iconst (v := 0) X dX12_shelf_113 (by decide) ?_
          refine g_locs (lv' := [(0, tR x0), (1, tI x1), (2, tI x2), (3, tI x3)]) (in_pick [0, 1, 2, 3] rfl) ?_
          exact w_X12_shelf_114 X x0 x1 x2 x3 0 h hf
      · refine g_iconst (v := 0) X dX12_shelf_113 (by decide) ?_
        refine g_locs (lv' := [(0, tR x0), (1, tI x1), (2, tI x2), (3, tI x3)]) (in_pick [0, 1, 2, 3] rfl) ?_
        exact w_X12_shelf_114 X x0 x1 x2 x3 0 h hf
def f_X12_shelf  (a0 : Option Nat) (a1 : Int32) (a2 : Int32) (a3 : Int32) (h : AH) : Option (Int32 × AH) :=
  (f_X12_isFour a1 h).bind fun v1 =>
  if v1 = 0 then
    some ((-1), h)
  else
    (f_X12_in a2 0 4 h).bind fun v2 =>
    if v2 = 0 then
      some ((-1), h)
    else
      if a2 = 0 then
        (ck 12 h a0 (f_X12_isSherd a0 a3 h)).bind fun v3 =>
        b_X12_shelf_81 a0 a1 a2 a3 v3 h
      else
        if a2 = 1 then
          (gR 12 0 h a0).bind fun v4 =>
          (aI h v4 4).bind fun v5 =>
          (f_X12_in a3 0 (v5 - 1) h).bind fun v6 =>
          b_X12_shelf_81 a0 a1 a2 a3 v6 h
        else
          if a2 = 2 then
            (ck 12 h a0 (f_X12_isMan a0 a3 h)).bind fun v7 =>
            b_X12_shelf_81 a0 a1 a2 a3 v7 h
          else
            if a2 = 4 then
              b_X12_shelf_81 a0 a1 a2 a3 1 h
            else
              (f_X12_isFour a3 h).bind fun v8 =>
              if v8 = 0 then
                b_X12_shelf_81 a0 a1 a2 a3 0 h
              else
                b_X12_shelf_81 a0 a1 a2 a3 1 h
set_option maxRecDepth 20000 in
theorem m_X12_shelf  {a0 : Option Nat} {a1 : Int32} {a2 : Int32} {a3 : Int32} {h : AH} {w : (Int32 × AH)} (hf : f_X12_shelf a0 a1 a2 a3 h = some w) : CT yX12_shelf (wU yX12_shelf cX12_shelf 6 (some .int)) (rmD 3 0 0) 0 0 [tR a0, tI a1, tI a2, tI a3] h (some (tI w.1), w.2) := by
  refine CT.of (cc := cX12_shelf) (nL := 6) (ret := (some .int)) (by decide) (by simp [lg_sl, vOf_cat, wOf]) ?_
  intro K X
  refine g_locs (lv' := [(0, tR a0), (1, tI a1), (2, tI a2), (3, tI a3)]) (fun q hq => hq) ?_
  unfold f_X12_shelf at hf
  refine g_iload_n X dX12_shelf_0 1 rfl ?_
  refine g_callS (n := 1) (av := [tI a1]) (rest := []) X hf (fun v1 => (some (tI v1), h)) (fun _ q => m_X12_isFour q) (gdS tb_1561 tb_1562 tb_12 tb_1563) rfl (by decide +kernel) rfl (by decide) (by decide) rfl (Nat.le_of_ble_eq_true rfl) dX12_shelf_1 (fun v1 hf => ?_)
  refine g_ifeq (tgt := 16) X hf dX12_shelf_4 (by decide) (fun hf => ?_) (fun hf => ?_)
  · refine g_iconst (v := (-1)) X dX12_shelf_16 (by decide) ?_
    exact g_ireturn X (zW hf) (by decide) (by decide) dX12_shelf_17
  · refine g_iload_n X dX12_shelf_7 2 rfl ?_
    refine g_iconst (v := 0) X dX12_shelf_8 (by decide) ?_
    refine g_iconst (v := 4) X dX12_shelf_9 (by decide) ?_
    refine g_callS (n := 3) (av := [tI a2, tI 0, tI 4]) (rest := []) X hf (fun v2 => (some (tI v2), h)) (fun _ q => m_X12_in q) (gdS tb_1226 tb_1227 tb_12 tb_1228) rfl (by decide +kernel) rfl (by decide) (by decide) rfl (Nat.le_of_ble_eq_true rfl) dX12_shelf_10 (fun v2 hf => ?_)
    refine g_ifne (tgt := 18) X hf dX12_shelf_13 (by decide) (fun hf => ?_) (fun hf => ?_)
    · refine g_iconst (v := (-1)) X dX12_shelf_16 (by decide) ?_
      exact g_ireturn X (zW hf) (by decide) (by decide) dX12_shelf_17
    · refine g_iload_n X dX12_shelf_18 2 rfl ?_
      refine g_ifne (tgt := 30) X hf dX12_shelf_19 (by decide) (fun hf => ?_) (fun hf => ?_)
      · refine g_aload_n X dX12_shelf_22 0 rfl ?_
        refine g_iload_n X dX12_shelf_23 3 rfl ?_
        refine g_callV (n := 1) (av := [tI a3]) (rest := []) (k := 12) X hf (fun v3 => (some (tI v3), h)) (fun _ q => m_X12_isSherd q) (gdV tb_1343 tb_1344 tb_1698 tb_12 tb_1345) rfl (by decide +kernel) rfl (by decide) rfl (by decide) (by decide) rfl (Nat.le_of_ble_eq_true rfl) dX12_shelf_24 (fun v3 hf => ?_)
        refine g_goto (tgt := 81) X dX12_shelf_27 (by decide) ?_
        exact w_X12_shelf_81 X a0 a1 a2 a3 v3 h hf
      · refine g_iload_n X dX12_shelf_30 2 rfl ?_
        refine g_iconst (v := 1) X dX12_shelf_31 (by decide) ?_
        refine g_icmpne (tgt := 51) X hf dX12_shelf_32 (by decide) (fun hf => ?_) (fun hf => ?_)
        · refine g_iload_n X dX12_shelf_35 3 rfl ?_
          refine g_iconst (v := 0) X dX12_shelf_36 (by decide) ?_
          refine g_aload_n X dX12_shelf_37 0 rfl ?_
          refine g_getR X hf (T := TX12) rfl (by decide) (by decide) in_RX12 tb_1135 rfl dX12_shelf_38 (fun v4 hf => ?_)
          refine g_iconst (v := 4) X dX12_shelf_41 (by decide) ?_
          refine g_iaload X hf dX12_shelf_42 (fun v5 hf => ?_)
          refine g_iconst (v := 1) X dX12_shelf_43 (by decide) ?_
          refine g_isub X dX12_shelf_44 ?_
          refine g_callS (n := 3) (av := [tI a3, tI 0, tI (v5 - 1)]) (rest := []) X hf (fun v6 => (some (tI v6), h)) (fun _ q => m_X12_in q) (gdS tb_1226 tb_1227 tb_12 tb_1228) rfl (by decide +kernel) rfl (by decide) (by decide) rfl (Nat.le_of_ble_eq_true rfl) dX12_shelf_45 (fun v6 hf => ?_)
          refine g_goto (tgt := 81) X dX12_shelf_48 (by decide) ?_
          exact w_X12_shelf_81 X a0 a1 a2 a3 v6 h hf
        · refine g_iload_n X dX12_shelf_51 2 rfl ?_
          refine g_iconst (v := 2) X dX12_shelf_52 (by decide) ?_
          refine g_icmpne (tgt := 64) X hf dX12_shelf_53 (by decide) (fun hf => ?_) (fun hf => ?_)
          · refine g_aload_n X dX12_shelf_56 0 rfl ?_
            refine g_iload_n X dX12_shelf_57 3 rfl ?_
            refine g_callV (n := 1) (av := [tI a3]) (rest := []) (k := 12) X hf (fun v7 => (some (tI v7), h)) (fun _ q => m_X12_isMan q) (gdV tb_1267 tb_1268 tb_1691 tb_12 tb_1269) rfl (by decide +kernel) rfl (by decide) rfl (by decide) (by decide) rfl (Nat.le_of_ble_eq_true rfl) dX12_shelf_58 (fun v7 hf => ?_)
            refine g_goto (tgt := 81) X dX12_shelf_61 (by decide) ?_
            exact w_X12_shelf_81 X a0 a1 a2 a3 v7 h hf
          · refine g_iload_n X dX12_shelf_64 2 rfl ?_
            refine g_iconst (v := 4) X dX12_shelf_65 (by decide) ?_
            refine g_icmpeq (tgt := 76) X hf dX12_shelf_66 (by decide) (fun hf => ?_) (fun hf => ?_)
            · refine g_iconst (v := 1) X dX12_shelf_76 (by decide) ?_
              refine g_goto (tgt := 81) X dX12_shelf_77 (by decide) ?_
              exact w_X12_shelf_81 X a0 a1 a2 a3 1 h hf
            · refine g_iload_n X dX12_shelf_69 3 rfl ?_
              refine g_callS (n := 1) (av := [tI a3]) (rest := []) X hf (fun v8 => (some (tI v8), h)) (fun _ q => m_X12_isFour q) (gdS tb_1561 tb_1562 tb_12 tb_1563) rfl (by decide +kernel) rfl (by decide) (by decide) rfl (Nat.le_of_ble_eq_true rfl) dX12_shelf_70 (fun v8 hf => ?_)
              refine g_ifeq (tgt := 80) X hf dX12_shelf_73 (by decide) (fun hf => ?_) (fun hf => ?_)
              · refine g_iconst (v := 0) X dX12_shelf_80 (by decide) ?_
                exact w_X12_shelf_81 X a0 a1 a2 a3 0 h hf
              · refine g_iconst (v := 1) X dX12_shelf_76 (by decide) ?_
                refine g_goto (tgt := 81) X dX12_shelf_77 (by decide) ?_
                exact w_X12_shelf_81 X a0 a1 a2 a3 1 h hf
def f_X12_kindOn  (a0 : Option Nat) (a1 : Int32) (h : AH) : Option (Int32 × AH) :=
  (gR 12 36 h a0).bind fun v1 =>
  (aI h v1 a1).bind fun v2 =>
  (gR 12 35 h a0).bind fun v3 =>
  (aI h v3 a1).bind fun v4 =>
  if v4 < 1 ∨ 4 < v4 then
    some ((-1), h)
  else if v4 = 1 then
    (ck 12 h a0 (f_X12_isSherd a0 v2 h)).bind fun v5 =>
    if v5 = 0 then
      some ((-1), h)
    else
      (ck 12 h a0 (f_X12_meant a0 v2 h)).bind fun p6 =>
      if p6.1 = 0 then
        some (3, p6.2)
      else
        (gR 12 0 p6.2 a0).bind fun v7 =>
        (aI p6.2 v7 (811 + v2)).bind fun v8 =>
        if 0 < v8 then
          some (3, p6.2)
        else
          (gR 12 0 p6.2 a0).bind fun v9 =>
          (aI p6.2 v9 (851 + v2)).bind fun v10 =>
          if v10 = 1 then
            some (2, p6.2)
          else
            some (1, p6.2)
  else if v4 = 2 then
    (gR 12 0 h a0).bind fun v11 =>
    (aI h v11 4).bind fun v12 =>
    if v2 < v12 then
      some (4, h)
    else
      some ((-1), h)
  else if v4 = 3 then
    (ck 12 h a0 (f_X12_isMan a0 v2 h)).bind fun v13 =>
    if v13 = 0 then
      some ((-1), h)
    else
      (gR 12 0 h a0).bind fun v14 =>
      (aI h v14 (171 + v2)).bind fun v15 =>
      if v15 < 0 then
        some ((-1), h)
      else
        (gR 12 0 h a0).bind fun v16 =>
        (aI h v16 (203 + v2)).bind fun v17 =>
        if v17 = 1 then
          some (6, h)
        else
          some (5, h)
  else if v4 = 4 then
    some ((-2), h)
  else none
set_option maxRecDepth 20000 in
theorem m_X12_kindOn  {a0 : Option Nat} {a1 : Int32} {h : AH} {w : (Int32 × AH)} (hf : f_X12_kindOn a0 a1 h = some w) : CT yX12_kindOn (wU yX12_kindOn cX12_kindOn 3 (some .int)) (rmD 5 0 0) 0 0 [tR a0, tI a1] h (some (tI w.1), w.2) := by
  refine CT.of (cc := cX12_kindOn) (nL := 3) (ret := (some .int)) (by decide) (by simp [lg_sl, vOf_cat, wOf]) ?_
  intro K X
  refine g_locs (lv' := [(0, tR a0), (1, tI a1)]) (fun q hq => hq) ?_
  unfold f_X12_kindOn at hf
  refine g_aload_n X dX12_kindOn_0 0 rfl ?_
  refine g_getR X hf (T := TX12) rfl (by decide) (by decide) in_RX12 tb_1171 rfl dX12_kindOn_1 (fun v1 hf => ?_)
  refine g_iload_n X dX12_kindOn_4 1 rfl ?_
  refine g_iaload X hf dX12_kindOn_5 (fun v2 hf => ?_)
  refine g_istore_n (lv' := [(0, tR a0), (1, tI a1), (2, tI v2)]) X dX12_kindOn_6 (by decide) (in_pick [1, 2, 0] rfl) ?_
  refine g_aload_n X dX12_kindOn_7 0 rfl ?_
  refine g_getR X hf (T := TX12) rfl (by decide) (by decide) in_RX12 tb_1170 rfl dX12_kindOn_8 (fun v3 hf => ?_)
  refine g_iload_n X dX12_kindOn_11 1 rfl ?_
  refine g_iaload X hf dX12_kindOn_12 (fun v4 hf => ?_)
  by_cases hsw : v4 < 1 ∨ 4 < v4
  · rw [if_pos hsw] at hf
    refine g_tabOut (tgt := 166) X dX12_kindOn_13 (tab_out hsw) (by decide) ?_
    refine g_iconst (v := (-1)) X dX12_kindOn_166 (by decide) ?_
    exact g_ireturn X (zW hf) (by decide) (by decide) dX12_kindOn_167
  rw [if_neg hsw] at hf
  by_cases hs0 : v4 = 1
  · rw [if_pos hs0] at hf
    refine g_tabIn (off := 31) (tgt := 44) X 1 hs0 dX12_kindOn_13 (by decide) (by decide) (by decide +kernel) (by decide) ?_
    refine g_aload_n X dX12_kindOn_44 0 rfl ?_
    refine g_iload_n X dX12_kindOn_45 2 rfl ?_
    refine g_callV (n := 1) (av := [tI v2]) (rest := []) (k := 12) X hf (fun v5 => (some (tI v5), h)) (fun _ q => m_X12_isSherd q) (gdV tb_1343 tb_1344 tb_1698 tb_12 tb_1345) rfl (by decide +kernel) rfl (by decide) rfl (by decide) (by decide) rfl (Nat.le_of_ble_eq_true rfl) dX12_kindOn_46 (fun v5 hf => ?_)
    refine g_ifne (tgt := 56) X hf dX12_kindOn_49 (by decide) (fun hf => ?_) (fun hf => ?_)
    · refine g_iconst (v := (-1)) X dX12_kindOn_52 (by decide) ?_
      refine g_goto (tgt := 100) X dX12_kindOn_53 (by decide) ?_
      exact g_ireturn X (zW hf) (by decide) (by decide) dX12_kindOn_100
    · refine g_aload_n X dX12_kindOn_56 0 rfl ?_
      refine g_iload_n X dX12_kindOn_57 2 rfl ?_
      refine g_callV (n := 1) (av := [tI v2]) (rest := []) (k := 12) X hf (fun p6 => (some (tI p6.1), p6.2)) (fun _ q => m_X12_meant q) (gdV tb_1363 tb_1364 tb_1701 tb_12 tb_1365) rfl (by decide +kernel) rfl (by decide) rfl (by decide) (by decide) rfl (Nat.le_of_ble_eq_true rfl) dX12_kindOn_58 (fun p6 hf => ?_)
      refine g_ifeq (tgt := 77) X hf dX12_kindOn_61 (by decide) (fun hf => ?_) (fun hf => ?_)
      · refine g_iconst (v := 3) X dX12_kindOn_77 (by decide) ?_
        refine g_goto (tgt := 100) X dX12_kindOn_78 (by decide) ?_
        exact g_ireturn X (zW hf) (by decide) (by decide) dX12_kindOn_100
      · refine g_aload_n X dX12_kindOn_64 0 rfl ?_
        refine g_getR X hf (T := TX12) rfl (by decide) (by decide) in_RX12 tb_1135 rfl dX12_kindOn_65 (fun v7 hf => ?_)
        refine g_sipush (v := 811) X dX12_kindOn_68 (by decide) ?_
        refine g_iload_n X dX12_kindOn_71 2 rfl ?_
        refine g_iadd X dX12_kindOn_72 ?_
        refine g_iaload X hf dX12_kindOn_73 (fun v8 hf => ?_)
        refine g_ifle (tgt := 81) X hf dX12_kindOn_74 (by decide) (fun hf => ?_) (fun hf => ?_)
        · refine g_iconst (v := 3) X dX12_kindOn_77 (by decide) ?_
          refine g_goto (tgt := 100) X dX12_kindOn_78 (by decide) ?_
          exact g_ireturn X (zW hf) (by decide) (by decide) dX12_kindOn_100
        · refine g_aload_n X dX12_kindOn_81 0 rfl ?_
          refine g_getR X hf (T := TX12) rfl (by decide) (by decide) in_RX12 tb_1135 rfl dX12_kindOn_82 (fun v9 hf => ?_)
          refine g_sipush (v := 851) X dX12_kindOn_85 (by decide) ?_
          refine g_iload_n X dX12_kindOn_88 2 rfl ?_
          refine g_iadd X dX12_kindOn_89 ?_
          refine g_iaload X hf dX12_kindOn_90 (fun v10 hf => ?_)
          refine g_iconst (v := 1) X dX12_kindOn_91 (by decide) ?_
          refine g_icmpne (tgt := 99) X hf dX12_kindOn_92 (by decide) (fun hf => ?_) (fun hf => ?_)
          · refine g_iconst (v := 2) X dX12_kindOn_95 (by decide) ?_
            refine g_goto (tgt := 100) X dX12_kindOn_96 (by decide) ?_
            exact g_ireturn X (zW hf) (by decide) (by decide) dX12_kindOn_100
          · refine g_iconst (v := 1) X dX12_kindOn_99 (by decide) ?_
            exact g_ireturn X (zW hf) (by decide) (by decide) dX12_kindOn_100
  rw [if_neg hs0] at hf
  by_cases hs1 : v4 = 2
  · rw [if_pos hs1] at hf
    refine g_tabIn (off := 88) (tgt := 101) X 2 hs1 dX12_kindOn_13 (by decide) (by decide) (by decide +kernel) (by decide) ?_
    refine g_iload_n X dX12_kindOn_101 2 rfl ?_
    refine g_aload_n X dX12_kindOn_102 0 rfl ?_
    refine g_getR X hf (T := TX12) rfl (by decide) (by decide) in_RX12 tb_1135 rfl dX12_kindOn_103 (fun v11 hf => ?_)
    refine g_iconst (v := 4) X dX12_kindOn_106 (by decide) ?_
    refine g_iaload X hf dX12_kindOn_107 (fun v12 hf => ?_)
    refine g_icmpge (tgt := 115) X hf dX12_kindOn_108 (by decide) (fun hf => ?_) (fun hf => ?_)
    · refine g_iconst (v := 4) X dX12_kindOn_111 (by decide) ?_
      refine g_goto (tgt := 116) X dX12_kindOn_112 (by decide) ?_
      exact g_ireturn X (zW hf) (by decide) (by decide) dX12_kindOn_116
    · refine g_iconst (v := (-1)) X dX12_kindOn_115 (by decide) ?_
      exact g_ireturn X (zW hf) (by decide) (by decide) dX12_kindOn_116
  rw [if_neg hs1] at hf
  by_cases hs2 : v4 = 3
  · rw [if_pos hs2] at hf
    refine g_tabIn (off := 104) (tgt := 117) X 3 hs2 dX12_kindOn_13 (by decide) (by decide) (by decide +kernel) (by decide) ?_
    refine g_aload_n X dX12_kindOn_117 0 rfl ?_
    refine g_iload_n X dX12_kindOn_118 2 rfl ?_
    refine g_callV (n := 1) (av := [tI v2]) (rest := []) (k := 12) X hf (fun v13 => (some (tI v13), h)) (fun _ q => m_X12_isMan q) (gdV tb_1267 tb_1268 tb_1691 tb_12 tb_1269) rfl (by decide +kernel) rfl (by decide) rfl (by decide) (by decide) rfl (Nat.le_of_ble_eq_true rfl) dX12_kindOn_119 (fun v13 hf => ?_)
    refine g_ifeq (tgt := 138) X hf dX12_kindOn_122 (by decide) (fun hf => ?_) (fun hf => ?_)
    · refine g_iconst (v := (-1)) X dX12_kindOn_138 (by decide) ?_
      refine g_goto (tgt := 162) X dX12_kindOn_139 (by decide) ?_
      exact g_ireturn X (zW hf) (by decide) (by decide) dX12_kindOn_162
    · refine g_aload_n X dX12_kindOn_125 0 rfl ?_
      refine g_getR X hf (T := TX12) rfl (by decide) (by decide) in_RX12 tb_1135 rfl dX12_kindOn_126 (fun v14 hf => ?_)
      refine g_sipush (v := 171) X dX12_kindOn_129 (by decide) ?_
      refine g_iload_n X dX12_kindOn_132 2 rfl ?_
      refine g_iadd X dX12_kindOn_133 ?_
      refine g_iaload X hf dX12_kindOn_134 (fun v15 hf => ?_)
      refine g_ifge (tgt := 142) X hf dX12_kindOn_135 (by decide) (fun hf => ?_) (fun hf => ?_)
      · refine g_iconst (v := (-1)) X dX12_kindOn_138 (by decide) ?_
        refine g_goto (tgt := 162) X dX12_kindOn_139 (by decide) ?_
        exact g_ireturn X (zW hf) (by decide) (by decide) dX12_kindOn_162
      · refine g_aload_n X dX12_kindOn_142 0 rfl ?_
        refine g_getR X hf (T := TX12) rfl (by decide) (by decide) in_RX12 tb_1135 rfl dX12_kindOn_143 (fun v16 hf => ?_)
        refine g_sipush (v := 203) X dX12_kindOn_146 (by decide) ?_
        refine g_iload_n X dX12_kindOn_149 2 rfl ?_
        refine g_iadd X dX12_kindOn_150 ?_
        refine g_iaload X hf dX12_kindOn_151 (fun v17 hf => ?_)
        refine g_iconst (v := 1) X dX12_kindOn_152 (by decide) ?_
        refine g_icmpne (tgt := 161) X hf dX12_kindOn_153 (by decide) (fun hf => ?_) (fun hf => ?_)
        · refine g_bipush (v := 6) X dX12_kindOn_156 (by decide) ?_
          refine g_goto (tgt := 162) X dX12_kindOn_158 (by decide) ?_
          exact g_ireturn X (zW hf) (by decide) (by decide) dX12_kindOn_162
        · refine g_iconst (v := 5) X dX12_kindOn_161 (by decide) ?_
          exact g_ireturn X (zW hf) (by decide) (by decide) dX12_kindOn_162
  rw [if_neg hs2] at hf
  by_cases hs3 : v4 = 4
  · rw [if_pos hs3] at hf
    refine g_tabIn (off := 150) (tgt := 163) X 4 hs3 dX12_kindOn_13 (by decide) (by decide) (by decide +kernel) (by decide) ?_
    refine g_bipush (v := (-2)) X dX12_kindOn_163 (by decide) ?_
    exact g_ireturn X (zW hf) (by decide) (by decide) dX12_kindOn_165
  rw [if_neg hs3] at hf
  cases hf
def b_X12_taken_130   (x0 : Option Nat) (x1 : Int32) (s0 : Int32) (h : AH) : Option (Int32 × AH) :=
  if s0 = 0 then
    some ((-13), h)
  else
    (gR 12 36 h x0).bind fun v1 =>
    (aI h v1 x1).bind fun v2 =>
    some (v2, h)
set_option maxRecDepth 20000 in
theorem w_X12_taken_130 {K : KT} {w : (Int32 × AH)}   (X : CX K cX12_taken RX12 TB (some .int) "taken" (rmD 6 0 0) 5 0 0)  (x0 : Option Nat) (x1 : Int32) (s0 : Int32) (h : AH) (hf : b_X12_taken_130 x0 x1 s0 h = some w) : GG K (some (tI w.1), w.2) 0 0 130 [(0, tR x0), (1, tI x1)] [tI s0] h := by
  unfold b_X12_taken_130 at hf
  refine g_istore (lv' := [(0, tR x0), (1, tI x1), (4, tI s0)]) X dX12_taken_130 (by decide) (in_pick [1, 2, 0] rfl) ?_
  refine g_iload X dX12_taken_132 2 rfl ?_
  refine g_ifeq (tgt := 146) X hf dX12_taken_134 (by decide) (fun hf => ?_) (fun hf => ?_)
  · refine g_bipush (v := (-13)) X dX12_taken_146 (by decide) ?_
    exact g_ireturn X (zW hf) (by decide) (by decide) dX12_taken_148
  · refine g_aload_n X dX12_taken_137 0 rfl ?_
    refine g_getR X hf (T := TX12) rfl (by decide) (by decide) in_RX12 tb_1171 rfl dX12_taken_138 (fun v1 hf => ?_)
    refine g_iload_n X dX12_taken_141 1 rfl ?_
    refine g_iaload X hf dX12_taken_142 (fun v2 hf => ?_)
    refine g_goto (tgt := 148) X dX12_taken_143 (by decide) ?_
    exact g_ireturn X (zW hf) (by decide) (by decide) dX12_taken_148
def b_X12_taken_114   (x0 : Option Nat) (x1 : Int32) (x2 : Int32) (x3 : Int32) (h : AH) : Option (Int32 × AH) :=
  if x2 = 5 then
    if x3 = 6 then
      b_X12_taken_130 x0 x1 1 h
    else
      b_X12_taken_130 x0 x1 0 h
  else
    b_X12_taken_130 x0 x1 0 h
set_option maxRecDepth 20000 in
theorem w_X12_taken_114 {K : KT} {w : (Int32 × AH)}   (X : CX K cX12_taken RX12 TB (some .int) "taken" (rmD 6 0 0) 5 0 0)  (x0 : Option Nat) (x1 : Int32) (x2 : Int32) (x3 : Int32) (h : AH) (hf : b_X12_taken_114 x0 x1 x2 x3 h = some w) : GG K (some (tI w.1), w.2) 0 0 114 [(0, tR x0), (1, tI x1), (2, tI x2), (3, tI x3)] [] h := by
  unfold b_X12_taken_114 at hf
  refine g_iload_n X dX12_taken_114 2 rfl ?_
  refine g_iconst (v := 5) X dX12_taken_115 (by decide) ?_
  refine g_icmpne (tgt := 129) X hf dX12_taken_116 (by decide) (fun hf => ?_) (fun hf => ?_)
  · refine g_iload_n X dX12_taken_119 3 rfl ?_
    refine g_bipush (v := 6) X dX12_taken_120 (by decide) ?_
    refine g_icmpne (tgt := 129) X hf dX12_taken_122 (by decide) (fun hf => ?_) (fun hf => ?_)
    · refine g_iconst (v := 1) X dX12_taken_125 (by decide) ?_
      refine g_goto (tgt := 130) X dX12_taken_126 (by decide) ?_
      refine g_locs (lv' := [(0, tR x0), (1, tI x1)]) (in_pick [0, 1] rfl) ?_
      exact w_X12_taken_130 X x0 x1 1 h hf
    · refine g_iconst (v := 0) X dX12_taken_129 (by decide) ?_
      refine g_locs (lv' := [(0, tR x0), (1, tI x1)]) (in_pick [0, 1] rfl) ?_
      exact w_X12_taken_130 X x0 x1 0 h hf
  · refine g_iconst (v := 0) X dX12_taken_129 (by decide) ?_
    refine g_locs (lv' := [(0, tR x0), (1, tI x1)]) (in_pick [0, 1] rfl) ?_
    exact w_X12_taken_130 X x0 x1 0 h hf
def b_X12_taken_30   (x0 : Option Nat) (x1 : Int32) (x2 : Int32) (h : AH) : Option (Int32 × AH) :=
  (ck 12 h x0 (f_X12_kindOn x0 x1 h)).bind fun p1 =>
  if p1.1 = (-1) then
    some ((-11), p1.2)
  else
    if p1.1 = (-2) then
      if x2 < 10 then
        some ((-13), p1.2)
      else
        (gR 12 32 p1.2 x0).bind fun v2 =>
        (gR 12 36 p1.2 x0).bind fun v3 =>
        (aI p1.2 v3 x1).bind fun v4 =>
        (aI p1.2 v2 v4).bind fun v5 =>
        if v5 = (x2 - 10) then
          (gR 12 33 p1.2 x0).bind fun v6 =>
          (gR 12 36 p1.2 x0).bind fun v7 =>
          (aI p1.2 v7 x1).bind fun v8 =>
          (aI p1.2 v6 v8).bind fun v9 =>
          some (v9, p1.2)
        else
          some ((-13), p1.2)
    else
      if x2 = 0 then
        b_X12_taken_130 x0 x1 1 p1.2
      else
        if x2 = p1.1 then
          b_X12_taken_130 x0 x1 1 p1.2
        else
          if x2 = 1 then
            (f_X12_in p1.1 1 3 p1.2).bind fun v10 =>
            if v10 = 0 then
              b_X12_taken_114 x0 x1 x2 p1.1 p1.2
            else
              b_X12_taken_130 x0 x1 1 p1.2
          else
            b_X12_taken_114 x0 x1 x2 p1.1 p1.2
set_option maxRecDepth 20000 in
theorem w_X12_taken_30 {K : KT} {w : (Int32 × AH)}   (X : CX K cX12_taken RX12 TB (some .int) "taken" (rmD 6 0 0) 5 0 0)  (x0 : Option Nat) (x1 : Int32) (x2 : Int32) (h : AH) (hf : b_X12_taken_30 x0 x1 x2 h = some w) : GG K (some (tI w.1), w.2) 0 0 30 [(0, tR x0), (1, tI x1), (2, tI x2)] [] h := by
  unfold b_X12_taken_30 at hf
  refine g_aload_n X dX12_taken_30 0 rfl ?_
  refine g_iload_n X dX12_taken_31 1 rfl ?_
  refine g_callV (n := 1) (av := [tI x1]) (rest := []) (k := 12) X hf (fun p1 => (some (tI p1.1), p1.2)) (fun _ q => m_X12_kindOn q) (gdV tb_1588 tb_1589 tb_1732 tb_12 tb_1590) rfl (by decide +kernel) rfl (by decide) rfl (by decide) (by decide) rfl (Nat.le_of_ble_eq_true rfl) dX12_taken_32 (fun p1 hf => ?_)
  refine g_istore_n (lv' := [(0, tR x0), (1, tI x1), (2, tI x2), (3, tI p1.1)]) X dX12_taken_35 (by decide) (in_pick [1, 2, 3, 0] rfl) ?_
  refine g_iload_n X dX12_taken_36 3 rfl ?_
  refine g_iconst (v := (-1)) X dX12_taken_37 (by decide) ?_
  refine g_icmpne (tgt := 44) X hf dX12_taken_38 (by decide) (fun hf => ?_) (fun hf => ?_)
  · refine g_bipush (v := (-11)) X dX12_taken_41 (by decide) ?_
    exact g_ireturn X (zW hf) (by decide) (by decide) dX12_taken_43
  · refine g_iload_n X dX12_taken_44 3 rfl ?_
    refine g_bipush (v := (-2)) X dX12_taken_45 (by decide) ?_
    refine g_icmpne (tgt := 91) X hf dX12_taken_47 (by decide) (fun hf => ?_) (fun hf => ?_)
    · refine g_iload_n X dX12_taken_50 2 rfl ?_
      refine g_bipush (v := 10) X dX12_taken_51 (by decide) ?_
      refine g_icmplt (tgt := 88) X hf dX12_taken_53 (by decide) (fun hf => ?_) (fun hf => ?_)
      · refine g_bipush (v := (-13)) X dX12_taken_88 (by decide) ?_
        exact g_ireturn X (zW hf) (by decide) (by decide) dX12_taken_90
      · refine g_aload_n X dX12_taken_56 0 rfl ?_
        refine g_getR X hf (T := TX12) rfl (by decide) (by decide) in_RX12 tb_1167 rfl dX12_taken_57 (fun v2 hf => ?_)
        refine g_aload_n X dX12_taken_60 0 rfl ?_
        refine g_getR X hf (T := TX12) rfl (by decide) (by decide) in_RX12 tb_1171 rfl dX12_taken_61 (fun v3 hf => ?_)
        refine g_iload_n X dX12_taken_64 1 rfl ?_
        refine g_iaload X hf dX12_taken_65 (fun v4 hf => ?_)
        refine g_iaload X hf dX12_taken_66 (fun v5 hf => ?_)
        refine g_iload_n X dX12_taken_67 2 rfl ?_
        refine g_bipush (v := 10) X dX12_taken_68 (by decide) ?_
        refine g_isub X dX12_taken_70 ?_
        refine g_icmpne (tgt := 88) X hf dX12_taken_71 (by decide) (fun hf => ?_) (fun hf => ?_)
        · refine g_aload_n X dX12_taken_74 0 rfl ?_
          refine g_getR X hf (T := TX12) rfl (by decide) (by decide) in_RX12 tb_1168 rfl dX12_taken_75 (fun v6 hf => ?_)
          refine g_aload_n X dX12_taken_78 0 rfl ?_
          refine g_getR X hf (T := TX12) rfl (by decide) (by decide) in_RX12 tb_1171 rfl dX12_taken_79 (fun v7 hf => ?_)
          refine g_iload_n X dX12_taken_82 1 rfl ?_
          refine g_iaload X hf dX12_taken_83 (fun v8 hf => ?_)
          refine g_iaload X hf dX12_taken_84 (fun v9 hf => ?_)
          refine g_goto (tgt := 90) X dX12_taken_85 (by decide) ?_
          exact g_ireturn X (zW hf) (by decide) (by decide) dX12_taken_90
        · refine g_bipush (v := (-13)) X dX12_taken_88 (by decide) ?_
          exact g_ireturn X (zW hf) (by decide) (by decide) dX12_taken_90
    · refine g_iload_n X dX12_taken_91 2 rfl ?_
      refine g_ifeq (tgt := 125) X hf dX12_taken_92 (by decide) (fun hf => ?_) (fun hf => ?_)
      · refine g_iconst (v := 1) X dX12_taken_125 (by decide) ?_
        refine g_goto (tgt := 130) X dX12_taken_126 (by decide) ?_
        refine g_locs (lv' := [(0, tR x0), (1, tI x1)]) (in_pick [0, 1] rfl) ?_
        exact w_X12_taken_130 X x0 x1 1 p1.2 hf
      · refine g_iload_n X dX12_taken_95 2 rfl ?_
        refine g_iload_n X dX12_taken_96 3 rfl ?_
        refine g_icmpeq (tgt := 125) X hf dX12_taken_97 (by decide) (fun hf => ?_) (fun hf => ?_)
        · refine g_iconst (v := 1) X dX12_taken_125 (by decide) ?_
          refine g_goto (tgt := 130) X dX12_taken_126 (by decide) ?_
          refine g_locs (lv' := [(0, tR x0), (1, tI x1)]) (in_pick [0, 1] rfl) ?_
          exact w_X12_taken_130 X x0 x1 1 p1.2 hf
        · refine g_iload_n X dX12_taken_100 2 rfl ?_
          refine g_iconst (v := 1) X dX12_taken_101 (by decide) ?_
          refine g_icmpne (tgt := 114) X hf dX12_taken_102 (by decide) (fun hf => ?_) (fun hf => ?_)
          · refine g_iload_n X dX12_taken_105 3 rfl ?_
            refine g_iconst (v := 1) X dX12_taken_106 (by decide) ?_
            refine g_iconst (v := 3) X dX12_taken_107 (by decide) ?_
            refine g_callS (n := 3) (av := [tI p1.1, tI 1, tI 3]) (rest := []) X hf (fun v10 => (some (tI v10), p1.2)) (fun _ q => m_X12_in q) (gdS tb_1226 tb_1227 tb_12 tb_1228) rfl (by decide +kernel) rfl (by decide) (by decide) rfl (Nat.le_of_ble_eq_true rfl) dX12_taken_108 (fun v10 hf => ?_)
            refine g_ifne (tgt := 125) X hf dX12_taken_111 (by decide) (fun hf => ?_) (fun hf => ?_)
            · exact w_X12_taken_114 X x0 x1 x2 p1.1 p1.2 hf
            · refine g_iconst (v := 1) X dX12_taken_125 (by decide) ?_
              refine g_goto (tgt := 130) X dX12_taken_126 (by decide) ?_
              refine g_locs (lv' := [(0, tR x0), (1, tI x1)]) (in_pick [0, 1] rfl) ?_
              exact w_X12_taken_130 X x0 x1 1 p1.2 hf
          · exact w_X12_taken_114 X x0 x1 x2 p1.1 p1.2 hf
def f_X12_taken  (a0 : Option Nat) (a1 : Int32) (a2 : Int32) (h : AH) : Option (Int32 × AH) :=
  (f_X12_isFour a1 h).bind fun v1 =>
  if v1 = 0 then
    some ((-1), h)
  else
    (f_X12_in a2 0 6 h).bind fun v2 =>
    if v2 = 0 then
      (f_X12_in a2 10 14 h).bind fun v3 =>
      if v3 = 0 then
        some ((-1), h)
      else
        b_X12_taken_30 a0 a1 a2 h
    else
      b_X12_taken_30 a0 a1 a2 h
set_option maxRecDepth 20000 in
theorem m_X12_taken  {a0 : Option Nat} {a1 : Int32} {a2 : Int32} {h : AH} {w : (Int32 × AH)} (hf : f_X12_taken a0 a1 a2 h = some w) : CT yX12_taken (wU yX12_taken cX12_taken 5 (some .int)) (rmD 6 0 0) 0 0 [tR a0, tI a1, tI a2] h (some (tI w.1), w.2) := by
  refine CT.of (cc := cX12_taken) (nL := 5) (ret := (some .int)) (by decide) (by simp [lg_sl, vOf_cat, wOf]) ?_
  intro K X
  refine g_locs (lv' := [(0, tR a0), (1, tI a1), (2, tI a2)]) (fun q hq => hq) ?_
  unfold f_X12_taken at hf
  refine g_iload_n X dX12_taken_0 1 rfl ?_
  refine g_callS (n := 1) (av := [tI a1]) (rest := []) X hf (fun v1 => (some (tI v1), h)) (fun _ q => m_X12_isFour q) (gdS tb_1561 tb_1562 tb_12 tb_1563) rfl (by decide +kernel) rfl (by decide) (by decide) rfl (Nat.le_of_ble_eq_true rfl) dX12_taken_1 (fun v1 hf => ?_)
  refine g_ifeq (tgt := 28) X hf dX12_taken_4 (by decide) (fun hf => ?_) (fun hf => ?_)
  · refine g_iconst (v := (-1)) X dX12_taken_28 (by decide) ?_
    exact g_ireturn X (zW hf) (by decide) (by decide) dX12_taken_29
  · refine g_iload_n X dX12_taken_7 2 rfl ?_
    refine g_iconst (v := 0) X dX12_taken_8 (by decide) ?_
    refine g_bipush (v := 6) X dX12_taken_9 (by decide) ?_
    refine g_callS (n := 3) (av := [tI a2, tI 0, tI 6]) (rest := []) X hf (fun v2 => (some (tI v2), h)) (fun _ q => m_X12_in q) (gdS tb_1226 tb_1227 tb_12 tb_1228) rfl (by decide +kernel) rfl (by decide) (by decide) rfl (Nat.le_of_ble_eq_true rfl) dX12_taken_11 (fun v2 hf => ?_)
    refine g_ifne (tgt := 30) X hf dX12_taken_14 (by decide) (fun hf => ?_) (fun hf => ?_)
    · refine g_iload_n X dX12_taken_17 2 rfl ?_
      refine g_bipush (v := 10) X dX12_taken_18 (by decide) ?_
      refine g_bipush (v := 14) X dX12_taken_20 (by decide) ?_
      refine g_callS (n := 3) (av := [tI a2, tI 10, tI 14]) (rest := []) X hf (fun v3 => (some (tI v3), h)) (fun _ q => m_X12_in q) (gdS tb_1226 tb_1227 tb_12 tb_1228) rfl (by decide +kernel) rfl (by decide) (by decide) rfl (Nat.le_of_ble_eq_true rfl) dX12_taken_22 (fun v3 hf => ?_)
      refine g_ifne (tgt := 30) X hf dX12_taken_25 (by decide) (fun hf => ?_) (fun hf => ?_)
      · refine g_iconst (v := (-1)) X dX12_taken_28 (by decide) ?_
        exact g_ireturn X (zW hf) (by decide) (by decide) dX12_taken_29
      · exact w_X12_taken_30 X a0 a1 a2 h hf
    · exact w_X12_taken_30 X a0 a1 a2 h hf
def f_X12_begins  (a0 : Option Nat) (a1 : Int32) (h : AH) : Option AH :=
  (gI 12 38 h a0).bind fun v1 =>
  if v1 < 30 then
    (gR 12 37 h a0).bind fun v2 =>
    (gI 12 38 h a0).bind fun v3 =>
    (sI h v2 v3 a1).bind fun h4 =>
    (gI 12 38 h4 a0).bind fun v5 =>
    (pI 12 38 h4 a0 (v5 + 1)).bind fun h6 =>
    some h6
  else
    some h
set_option maxRecDepth 20000 in
theorem m_X12_begins  {a0 : Option Nat} {a1 : Int32} {h : AH} {w : AH} (hf : f_X12_begins a0 a1 h = some w) : CT yX12_begins (wU yX12_begins cX12_begins 2 none) (rmD 1 0 0) 0 0 [tR a0, tI a1] h (none, w) := by
  refine CT.of (cc := cX12_begins) (nL := 2) (ret := none) (by decide) (by simp [lg_sl, vOf_cat, wOf]) ?_
  intro K X
  refine g_locs (lv' := [(0, tR a0), (1, tI a1)]) (fun q hq => hq) ?_
  unfold f_X12_begins at hf
  refine g_aload_n X dX12_begins_0 0 rfl ?_
  refine g_getI X hf (T := TX12) rfl (by decide) (by decide) in_RX12 tb_1173 rfl dX12_begins_1 (fun v1 hf => ?_)
  refine g_bipush (v := 30) X dX12_begins_4 (by decide) ?_
  refine g_icmpge (tgt := 29) X hf dX12_begins_6 (by decide) (fun hf => ?_) (fun hf => ?_)
  · refine g_aload_n X dX12_begins_9 0 rfl ?_
    refine g_getR X hf (T := TX12) rfl (by decide) (by decide) in_RX12 tb_1172 rfl dX12_begins_10 (fun v2 hf => ?_)
    refine g_aload_n X dX12_begins_13 0 rfl ?_
    refine g_getI X hf (T := TX12) rfl (by decide) (by decide) in_RX12 tb_1173 rfl dX12_begins_14 (fun v3 hf => ?_)
    refine g_iload_n X dX12_begins_17 1 rfl ?_
    refine g_iastore X hf dX12_begins_18 (fun h4 hf => ?_)
    refine g_aload_n X dX12_begins_19 0 rfl ?_
    refine g_dup X dX12_begins_20 rfl ?_
    refine g_getI X hf (T := TX12) rfl (by decide) (by decide) in_RX12 tb_1173 rfl dX12_begins_21 (fun v5 hf => ?_)
    refine g_iconst (v := 1) X dX12_begins_24 (by decide) ?_
    refine g_iadd X dX12_begins_25 ?_
    refine g_putI X hf (T := TX12) rfl (by decide) (by decide) in_RX12 tyX12 tyX12_ok nmX12 tb_1173 rfl rfl rfl dX12_begins_26 (fun h6 hf => ?_)
    exact g_vreturn X (zV hf) (by decide) (by decide) dX12_begins_29
  · exact g_vreturn X (zV hf) (by decide) (by decide) dX12_begins_29
def f_X12_thingNames  (a0 : Option Nat) (a1 : Int32) (h : AH) : Option (Int32 × AH) :=
  (ck 12 h a0 (f_X12_begins a0 10 h)).bind fun h1 =>
  (gI 12 40 h1 a0).bind fun v2 =>
  some ((a1 + v2), h1)
set_option maxRecDepth 20000 in
theorem m_X12_thingNames  {a0 : Option Nat} {a1 : Int32} {h : AH} {w : (Int32 × AH)} (hf : f_X12_thingNames a0 a1 h = some w) : CT yX12_thingNames (wU yX12_thingNames cX12_thingNames 2 (some .int)) (rmD 2 0 0) 0 0 [tR a0, tI a1] h (some (tI w.1), w.2) := by
  refine CT.of (cc := cX12_thingNames) (nL := 2) (ret := (some .int)) (by decide) (by simp [lg_sl, vOf_cat, wOf]) ?_
  intro K X
  refine g_locs (lv' := [(0, tR a0), (1, tI a1)]) (fun q hq => hq) ?_
  unfold f_X12_thingNames at hf
  refine g_aload_n X dX12_thingNames_0 0 rfl ?_
  refine g_bipush (v := 10) X dX12_thingNames_1 (by decide) ?_
  refine g_callV (n := 1) (av := [tI 10]) (rest := []) (k := 12) X hf (fun h1 => (none, h1)) (fun _ q => m_X12_begins q) (gdV tb_1598 tb_1599 tb_1734 tb_12 tb_1600) rfl (by decide +kernel) rfl (by decide) rfl (by decide) (by decide) rfl (Nat.le_of_ble_eq_true rfl) dX12_thingNames_3 (fun h1 hf => ?_)
  refine g_iload_n X dX12_thingNames_6 1 rfl ?_
  refine g_aload_n X dX12_thingNames_7 0 rfl ?_
  refine g_getI X hf (T := TX12) rfl (by decide) (by decide) in_RX12 tb_1175 rfl dX12_thingNames_8 (fun v2 hf => ?_)
  refine g_iadd X dX12_thingNames_11 ?_
  exact g_ireturn X (zW hf) (by decide) (by decide) dX12_thingNames_12
def f_X12_names  (a0 : Option Nat) (a1 : Int32) (h : AH) : Option (Int32 × AH) :=
  (gI 12 39 h a0).bind fun v1 =>
  if v1 = 2 then
    (ck 12 h a0 (f_X12_begins a0 30 h)).bind fun h2 =>
    (ck 12 h2 a0 (f_X12_thingNames a0 a1 h2)).bind fun p3 =>
    some ((p3.1 * 3), p3.2)
  else
    (gI 12 39 h a0).bind fun v4 =>
    if v4 = 4 then
      (ck 12 h a0 (f_X12_begins a0 51 h)).bind fun h5 =>
      (ck 12 h5 a0 (f_X12_thingNames a0 (a1 - 1) h5)).bind fun p6 =>
      some (p6.1, p6.2)
    else
      (ck 12 h a0 (f_X12_thingNames a0 a1 h)).bind fun p7 =>
      some (p7.1, p7.2)
set_option maxRecDepth 20000 in
theorem m_X12_names  {a0 : Option Nat} {a1 : Int32} {h : AH} {w : (Int32 × AH)} (hf : f_X12_names a0 a1 h = some w) : CT yX12_names (wU yX12_names cX12_names 2 (some .int)) (rmD 3 0 0) 0 0 [tR a0, tI a1] h (some (tI w.1), w.2) := by
  refine CT.of (cc := cX12_names) (nL := 2) (ret := (some .int)) (by decide) (by simp [lg_sl, vOf_cat, wOf]) ?_
  intro K X
  refine g_locs (lv' := [(0, tR a0), (1, tI a1)]) (fun q hq => hq) ?_
  unfold f_X12_names at hf
  refine g_aload_n X dX12_names_0 0 rfl ?_
  refine g_getI X hf (T := TX12) rfl (by decide) (by decide) in_RX12 tb_1174 rfl dX12_names_1 (fun v1 hf => ?_)
  refine g_iconst (v := 2) X dX12_names_4 (by decide) ?_
  refine g_icmpne (tgt := 22) X hf dX12_names_5 (by decide) (fun hf => ?_) (fun hf => ?_)
  · refine g_aload_n X dX12_names_8 0 rfl ?_
    refine g_bipush (v := 30) X dX12_names_9 (by decide) ?_
    refine g_callV (n := 1) (av := [tI 30]) (rest := []) (k := 12) X hf (fun h2 => (none, h2)) (fun _ q => m_X12_begins q) (gdV tb_1598 tb_1599 tb_1734 tb_12 tb_1600) rfl (by decide +kernel) rfl (by decide) rfl (by decide) (by decide) rfl (Nat.le_of_ble_eq_true rfl) dX12_names_11 (fun h2 hf => ?_)
    refine g_aload_n X dX12_names_14 0 rfl ?_
    refine g_iload_n X dX12_names_15 1 rfl ?_
    refine g_callV (n := 1) (av := [tI a1]) (rest := []) (k := 12) X hf (fun p3 => (some (tI p3.1), p3.2)) (fun _ q => m_X12_thingNames q) (gdV tb_1601 tb_1602 tb_1735 tb_12 tb_1603) rfl (by decide +kernel) rfl (by decide) rfl (by decide) (by decide) rfl (Nat.le_of_ble_eq_true rfl) dX12_names_16 (fun p3 hf => ?_)
    refine g_iconst (v := 3) X dX12_names_19 (by decide) ?_
    refine g_imul X dX12_names_20 ?_
    exact g_ireturn X (zW hf) (by decide) (by decide) dX12_names_21
  · refine g_aload_n X dX12_names_22 0 rfl ?_
    refine g_getI X hf (T := TX12) rfl (by decide) (by decide) in_RX12 tb_1174 rfl dX12_names_23 (fun v4 hf => ?_)
    refine g_iconst (v := 4) X dX12_names_26 (by decide) ?_
    refine g_icmpne (tgt := 44) X hf dX12_names_27 (by decide) (fun hf => ?_) (fun hf => ?_)
    · refine g_aload_n X dX12_names_30 0 rfl ?_
      refine g_bipush (v := 51) X dX12_names_31 (by decide) ?_
      refine g_callV (n := 1) (av := [tI 51]) (rest := []) (k := 12) X hf (fun h5 => (none, h5)) (fun _ q => m_X12_begins q) (gdV tb_1598 tb_1599 tb_1734 tb_12 tb_1600) rfl (by decide +kernel) rfl (by decide) rfl (by decide) (by decide) rfl (Nat.le_of_ble_eq_true rfl) dX12_names_33 (fun h5 hf => ?_)
      refine g_aload_n X dX12_names_36 0 rfl ?_
      refine g_iload_n X dX12_names_37 1 rfl ?_
      refine g_iconst (v := 1) X dX12_names_38 (by decide) ?_
      refine g_isub X dX12_names_39 ?_
      refine g_callV (n := 1) (av := [tI (a1 - 1)]) (rest := []) (k := 12) X hf (fun p6 => (some (tI p6.1), p6.2)) (fun _ q => m_X12_thingNames q) (gdV tb_1601 tb_1602 tb_1735 tb_12 tb_1603) rfl (by decide +kernel) rfl (by decide) rfl (by decide) (by decide) rfl (Nat.le_of_ble_eq_true rfl) dX12_names_40 (fun p6 hf => ?_)
      exact g_ireturn X (zW hf) (by decide) (by decide) dX12_names_43
    · refine g_aload_n X dX12_names_44 0 rfl ?_
      refine g_iload_n X dX12_names_45 1 rfl ?_
      refine g_callV (n := 1) (av := [tI a1]) (rest := []) (k := 12) X hf (fun p7 => (some (tI p7.1), p7.2)) (fun _ q => m_X12_thingNames q) (gdV tb_1601 tb_1602 tb_1735 tb_12 tb_1603) rfl (by decide +kernel) rfl (by decide) rfl (by decide) (by decide) rfl (Nat.le_of_ble_eq_true rfl) dX12_names_46 (fun p7 hf => ?_)
      exact g_ireturn X (zW hf) (by decide) (by decide) dX12_names_49
def f_X12_thingCounts  (a0 : Option Nat) (a1 : Int32) (h : AH) : Option (Int32 × AH) :=
  (ck 12 h a0 (f_X12_begins a0 11 h)).bind fun h1 =>
  (ck 12 h1 a0 (f_X12_names a0 a1 h1)).bind fun p2 =>
  some ((p2.1 * 2), p2.2)
set_option maxRecDepth 20000 in
theorem m_X12_thingCounts  {a0 : Option Nat} {a1 : Int32} {h : AH} {w : (Int32 × AH)} (hf : f_X12_thingCounts a0 a1 h = some w) : CT yX12_thingCounts (wU yX12_thingCounts cX12_thingCounts 2 (some .int)) (rmD 4 0 0) 0 0 [tR a0, tI a1] h (some (tI w.1), w.2) := by
  refine CT.of (cc := cX12_thingCounts) (nL := 2) (ret := (some .int)) (by decide) (by simp [lg_sl, vOf_cat, wOf]) ?_
  intro K X
  refine g_locs (lv' := [(0, tR a0), (1, tI a1)]) (fun q hq => hq) ?_
  unfold f_X12_thingCounts at hf
  refine g_aload_n X dX12_thingCounts_0 0 rfl ?_
  refine g_bipush (v := 11) X dX12_thingCounts_1 (by decide) ?_
  refine g_callV (n := 1) (av := [tI 11]) (rest := []) (k := 12) X hf (fun h1 => (none, h1)) (fun _ q => m_X12_begins q) (gdV tb_1598 tb_1599 tb_1734 tb_12 tb_1600) rfl (by decide +kernel) rfl (by decide) rfl (by decide) (by decide) rfl (Nat.le_of_ble_eq_true rfl) dX12_thingCounts_3 (fun h1 hf => ?_)
  refine g_aload_n X dX12_thingCounts_6 0 rfl ?_
  refine g_iload_n X dX12_thingCounts_7 1 rfl ?_
  refine g_callV (n := 1) (av := [tI a1]) (rest := []) (k := 12) X hf (fun p2 => (some (tI p2.1), p2.2)) (fun _ q => m_X12_names q) (gdV tb_1595 tb_1596 tb_1733 tb_12 tb_1597) rfl (by decide +kernel) rfl (by decide) rfl (by decide) (by decide) rfl (Nat.le_of_ble_eq_true rfl) dX12_thingCounts_8 (fun p2 hf => ?_)
  refine g_iconst (v := 2) X dX12_thingCounts_11 (by decide) ?_
  refine g_imul X dX12_thingCounts_12 ?_
  exact g_ireturn X (zW hf) (by decide) (by decide) dX12_thingCounts_13
def f_X12_sherdCounts  (a0 : Option Nat) (a1 : Int32) (h : AH) : Option (Int32 × AH) :=
  (ck 12 h a0 (f_X12_begins a0 20 h)).bind fun h1 =>
  (ck 12 h1 a0 (f_X12_thingCounts a0 a1 h1)).bind fun p2 =>
  (gI 12 41 p2.2 a0).bind fun v3 =>
  some ((p2.1 ^^^ v3), p2.2)
set_option maxRecDepth 20000 in
theorem m_X12_sherdCounts  {a0 : Option Nat} {a1 : Int32} {h : AH} {w : (Int32 × AH)} (hf : f_X12_sherdCounts a0 a1 h = some w) : CT yX12_sherdCounts (wU yX12_sherdCounts cX12_sherdCounts 2 (some .int)) (rmD 5 0 0) 0 0 [tR a0, tI a1] h (some (tI w.1), w.2) := by
  refine CT.of (cc := cX12_sherdCounts) (nL := 2) (ret := (some .int)) (by decide) (by simp [lg_sl, vOf_cat, wOf]) ?_
  intro K X
  refine g_locs (lv' := [(0, tR a0), (1, tI a1)]) (fun q hq => hq) ?_
  unfold f_X12_sherdCounts at hf
  refine g_aload_n X dX12_sherdCounts_0 0 rfl ?_
  refine g_bipush (v := 20) X dX12_sherdCounts_1 (by decide) ?_
  refine g_callV (n := 1) (av := [tI 20]) (rest := []) (k := 12) X hf (fun h1 => (none, h1)) (fun _ q => m_X12_begins q) (gdV tb_1598 tb_1599 tb_1734 tb_12 tb_1600) rfl (by decide +kernel) rfl (by decide) rfl (by decide) (by decide) rfl (Nat.le_of_ble_eq_true rfl) dX12_sherdCounts_3 (fun h1 hf => ?_)
  refine g_aload_n X dX12_sherdCounts_6 0 rfl ?_
  refine g_iload_n X dX12_sherdCounts_7 1 rfl ?_
  refine g_callV (n := 1) (av := [tI a1]) (rest := []) (k := 12) X hf (fun p2 => (some (tI p2.1), p2.2)) (fun _ q => m_X12_thingCounts q) (gdV tb_1610 tb_1611 tb_1738 tb_12 tb_1612) rfl (by decide +kernel) rfl (by decide) rfl (by decide) (by decide) rfl (Nat.le_of_ble_eq_true rfl) dX12_sherdCounts_8 (fun p2 hf => ?_)
  refine g_aload_n X dX12_sherdCounts_11 0 rfl ?_
  refine g_getI X hf (T := TX12) rfl (by decide) (by decide) in_RX12 tb_1176 rfl dX12_sherdCounts_12 (fun v3 hf => ?_)
  refine g_ixor X dX12_sherdCounts_15 ?_
  exact g_ireturn X (zW hf) (by decide) (by decide) dX12_sherdCounts_16
def f_X12_counts  (a0 : Option Nat) (a1 : Int32) (h : AH) : Option (Int32 × AH) :=
  (gI 12 39 h a0).bind fun v1 =>
  if v1 = 3 then
    (ck 12 h a0 (f_X12_begins a0 40 h)).bind fun h2 =>
    (ck 12 h2 a0 (f_X12_sherdCounts a0 a1 h2)).bind fun p3 =>
    some ((0 - p3.1), p3.2)
  else
    (gI 12 39 h a0).bind fun v4 =>
    (f_X12_in v4 1 2 h).bind fun v5 =>
    if v5 = 0 then
      (ck 12 h a0 (f_X12_thingCounts a0 a1 h)).bind fun p6 =>
      some (p6.1, p6.2)
    else
      (ck 12 h a0 (f_X12_sherdCounts a0 a1 h)).bind fun p7 =>
      some (p7.1, p7.2)
set_option maxRecDepth 20000 in
theorem m_X12_counts  {a0 : Option Nat} {a1 : Int32} {h : AH} {w : (Int32 × AH)} (hf : f_X12_counts a0 a1 h = some w) : CT yX12_counts (wU yX12_counts cX12_counts 2 (some .int)) (rmD 6 0 0) 0 0 [tR a0, tI a1] h (some (tI w.1), w.2) := by
  refine CT.of (cc := cX12_counts) (nL := 2) (ret := (some .int)) (by decide) (by simp [lg_sl, vOf_cat, wOf]) ?_
  intro K X
  refine g_locs (lv' := [(0, tR a0), (1, tI a1)]) (fun q hq => hq) ?_
  unfold f_X12_counts at hf
  refine g_aload_n X dX12_counts_0 0 rfl ?_
  refine g_getI X hf (T := TX12) rfl (by decide) (by decide) in_RX12 tb_1174 rfl dX12_counts_1 (fun v1 hf => ?_)
  refine g_iconst (v := 3) X dX12_counts_4 (by decide) ?_
  refine g_icmpne (tgt := 22) X hf dX12_counts_5 (by decide) (fun hf => ?_) (fun hf => ?_)
  · refine g_aload_n X dX12_counts_8 0 rfl ?_
    refine g_bipush (v := 40) X dX12_counts_9 (by decide) ?_
    refine g_callV (n := 1) (av := [tI 40]) (rest := []) (k := 12) X hf (fun h2 => (none, h2)) (fun _ q => m_X12_begins q) (gdV tb_1598 tb_1599 tb_1734 tb_12 tb_1600) rfl (by decide +kernel) rfl (by decide) rfl (by decide) (by decide) rfl (Nat.le_of_ble_eq_true rfl) dX12_counts_11 (fun h2 hf => ?_)
    refine g_iconst (v := 0) X dX12_counts_14 (by decide) ?_
    refine g_aload_n X dX12_counts_15 0 rfl ?_
    refine g_iload_n X dX12_counts_16 1 rfl ?_
    refine g_callV (n := 1) (av := [tI a1]) (rest := [tI 0]) (k := 12) X hf (fun p3 => (some (tI p3.1), p3.2)) (fun _ q => m_X12_sherdCounts q) (gdV tb_1607 tb_1608 tb_1737 tb_12 tb_1609) rfl (by decide +kernel) rfl (by decide) rfl (by decide) (by decide) rfl (Nat.le_of_ble_eq_true rfl) dX12_counts_17 (fun p3 hf => ?_)
    refine g_isub X dX12_counts_20 ?_
    exact g_ireturn X (zW hf) (by decide) (by decide) dX12_counts_21
  · refine g_aload_n X dX12_counts_22 0 rfl ?_
    refine g_getI X hf (T := TX12) rfl (by decide) (by decide) in_RX12 tb_1174 rfl dX12_counts_23 (fun v4 hf => ?_)
    refine g_iconst (v := 1) X dX12_counts_26 (by decide) ?_
    refine g_iconst (v := 2) X dX12_counts_27 (by decide) ?_
    refine g_callS (n := 3) (av := [tI v4, tI 1, tI 2]) (rest := []) X hf (fun v5 => (some (tI v5), h)) (fun _ q => m_X12_in q) (gdS tb_1226 tb_1227 tb_12 tb_1228) rfl (by decide +kernel) rfl (by decide) (by decide) rfl (Nat.le_of_ble_eq_true rfl) dX12_counts_28 (fun v5 hf => ?_)
    refine g_ifeq (tgt := 42) X hf dX12_counts_31 (by decide) (fun hf => ?_) (fun hf => ?_)
    · refine g_aload_n X dX12_counts_42 0 rfl ?_
      refine g_iload_n X dX12_counts_43 1 rfl ?_
      refine g_callV (n := 1) (av := [tI a1]) (rest := []) (k := 12) X hf (fun p6 => (some (tI p6.1), p6.2)) (fun _ q => m_X12_thingCounts q) (gdV tb_1610 tb_1611 tb_1738 tb_12 tb_1612) rfl (by decide +kernel) rfl (by decide) rfl (by decide) (by decide) rfl (Nat.le_of_ble_eq_true rfl) dX12_counts_44 (fun p6 hf => ?_)
      exact g_ireturn X (zW hf) (by decide) (by decide) dX12_counts_47
    · refine g_aload_n X dX12_counts_34 0 rfl ?_
      refine g_iload_n X dX12_counts_35 1 rfl ?_
      refine g_callV (n := 1) (av := [tI a1]) (rest := []) (k := 12) X hf (fun p7 => (some (tI p7.1), p7.2)) (fun _ q => m_X12_sherdCounts q) (gdV tb_1607 tb_1608 tb_1737 tb_12 tb_1609) rfl (by decide +kernel) rfl (by decide) rfl (by decide) (by decide) rfl (Nat.le_of_ble_eq_true rfl) dX12_counts_36 (fun p7 hf => ?_)
      refine g_goto (tgt := 47) X dX12_counts_39 (by decide) ?_
      exact g_ireturn X (zW hf) (by decide) (by decide) dX12_counts_47
def f_X12_thingBinds  (a0 : Option Nat) (a1 : Int32) (h : AH) : Option (Int32 × AH) :=
  (ck 12 h a0 (f_X12_begins a0 12 h)).bind fun h1 =>
  (ck 12 h1 a0 (f_X12_counts a0 a1 h1)).bind fun p2 =>
  (gI 12 41 p2.2 a0).bind fun v3 =>
  some ((p2.1 - v3), p2.2)
set_option maxRecDepth 20000 in
theorem m_X12_thingBinds  {a0 : Option Nat} {a1 : Int32} {h : AH} {w : (Int32 × AH)} (hf : f_X12_thingBinds a0 a1 h = some w) : CT yX12_thingBinds (wU yX12_thingBinds cX12_thingBinds 2 (some .int)) (rmD 7 0 0) 0 0 [tR a0, tI a1] h (some (tI w.1), w.2) := by
  refine CT.of (cc := cX12_thingBinds) (nL := 2) (ret := (some .int)) (by decide) (by simp [lg_sl, vOf_cat, wOf]) ?_
  intro K X
  refine g_locs (lv' := [(0, tR a0), (1, tI a1)]) (fun q hq => hq) ?_
  unfold f_X12_thingBinds at hf
  refine g_aload_n X dX12_thingBinds_0 0 rfl ?_
  refine g_bipush (v := 12) X dX12_thingBinds_1 (by decide) ?_
  refine g_callV (n := 1) (av := [tI 12]) (rest := []) (k := 12) X hf (fun h1 => (none, h1)) (fun _ q => m_X12_begins q) (gdV tb_1598 tb_1599 tb_1734 tb_12 tb_1600) rfl (by decide +kernel) rfl (by decide) rfl (by decide) (by decide) rfl (Nat.le_of_ble_eq_true rfl) dX12_thingBinds_3 (fun h1 hf => ?_)
  refine g_aload_n X dX12_thingBinds_6 0 rfl ?_
  refine g_iload_n X dX12_thingBinds_7 1 rfl ?_
  refine g_callV (n := 1) (av := [tI a1]) (rest := []) (k := 12) X hf (fun p2 => (some (tI p2.1), p2.2)) (fun _ q => m_X12_counts q) (gdV tb_1604 tb_1605 tb_1736 tb_12 tb_1606) rfl (by decide +kernel) rfl (by decide) rfl (by decide) (by decide) rfl (Nat.le_of_ble_eq_true rfl) dX12_thingBinds_8 (fun p2 hf => ?_)
  refine g_aload_n X dX12_thingBinds_11 0 rfl ?_
  refine g_getI X hf (T := TX12) rfl (by decide) (by decide) in_RX12 tb_1176 rfl dX12_thingBinds_12 (fun v3 hf => ?_)
  refine g_isub X dX12_thingBinds_15 ?_
  exact g_ireturn X (zW hf) (by decide) (by decide) dX12_thingBinds_16
def f_X12_binds  (a0 : Option Nat) (a1 : Int32) (h : AH) : Option (Int32 × AH) :=
  (gI 12 39 h a0).bind fun v1 =>
  if v1 < 3 ∨ 6 < v1 then
    (ck 12 h a0 (f_X12_thingBinds a0 a1 h)).bind fun p2 =>
    some (p2.1, p2.2)
  else if v1 = 3 then
    (ck 12 h a0 (f_X12_begins a0 41 h)).bind fun h3 =>
    (ck 12 h3 a0 (f_X12_thingBinds a0 a1 h3)).bind fun p4 =>
    (ck 12 p4.2 a0 (f_X12_names a0 2 p4.2)).bind fun p5 =>
    some ((p4.1 + p5.1), p5.2)
  else if v1 = 4 then
    (ck 12 h a0 (f_X12_begins a0 50 h)).bind fun h6 =>
    (ck 12 h6 a0 (f_X12_thingBinds a0 a1 h6)).bind fun p7 =>
    some ((p7.1 * 2), p7.2)
  else if v1 = 5 then
    (ck 12 h a0 (f_X12_thingBinds a0 a1 h)).bind fun p8 =>
    some (p8.1, p8.2)
  else if v1 = 6 then
    (ck 12 h a0 (f_X12_begins a0 70 h)).bind fun h9 =>
    (ck 12 h9 a0 (f_X12_thingBinds a0 a1 h9)).bind fun p10 =>
    some ((p10.1 - 1), p10.2)
  else none
set_option maxRecDepth 20000 in
theorem m_X12_binds  {a0 : Option Nat} {a1 : Int32} {h : AH} {w : (Int32 × AH)} (hf : f_X12_binds a0 a1 h = some w) : CT yX12_binds (wU yX12_binds cX12_binds 3 (some .int)) (rmD 8 0 0) 0 0 [tR a0, tI a1] h (some (tI w.1), w.2) := by
  refine CT.of (cc := cX12_binds) (nL := 3) (ret := (some .int)) (by decide) (by simp [lg_sl, vOf_cat, wOf]) ?_
  intro K X
  refine g_locs (lv' := [(0, tR a0), (1, tI a1)]) (fun q hq => hq) ?_
  unfold f_X12_binds at hf
  refine g_iconst (v := 0) X dX12_binds_0 (by decide) ?_
  refine g_istore_n (lv' := [(0, tR a0), (1, tI a1), (2, tI 0)]) X dX12_binds_1 (by decide) (in_pick [1, 2, 0] rfl) ?_
  refine g_aload_n X dX12_binds_2 0 rfl ?_
  refine g_getI X hf (T := TX12) rfl (by decide) (by decide) in_RX12 tb_1174 rfl dX12_binds_3 (fun v1 hf => ?_)
  by_cases hsw : v1 < 3 ∨ 6 < v1
  · rw [if_pos hsw] at hf
    refine g_tabOut (tgt := 84) X dX12_binds_6 (tab_out hsw) (by decide) ?_
    refine g_aload_n X dX12_binds_84 0 rfl ?_
    refine g_iload_n X dX12_binds_85 1 rfl ?_
    refine g_callV (n := 1) (av := [tI a1]) (rest := []) (k := 12) X hf (fun p2 => (some (tI p2.1), p2.2)) (fun _ q => m_X12_thingBinds q) (gdV tb_1616 tb_1617 tb_1740 tb_12 tb_1618) rfl (by decide +kernel) rfl (by decide) rfl (by decide) (by decide) rfl (Nat.le_of_ble_eq_true rfl) dX12_binds_86 (fun p2 hf => ?_)
    exact g_ireturn X (zW hf) (by decide) (by decide) dX12_binds_89
  rw [if_neg hsw] at hf
  by_cases hs0 : v1 = 3
  · rw [if_pos hs0] at hf
    refine g_tabIn (off := 30) (tgt := 36) X 3 hs0 dX12_binds_6 (by decide) (by decide) (by decide +kernel) (by decide) ?_
    refine g_aload_n X dX12_binds_36 0 rfl ?_
    refine g_bipush (v := 41) X dX12_binds_37 (by decide) ?_
    refine g_callV (n := 1) (av := [tI 41]) (rest := []) (k := 12) X hf (fun h3 => (none, h3)) (fun _ q => m_X12_begins q) (gdV tb_1598 tb_1599 tb_1734 tb_12 tb_1600) rfl (by decide +kernel) rfl (by decide) rfl (by decide) (by decide) rfl (Nat.le_of_ble_eq_true rfl) dX12_binds_39 (fun h3 hf => ?_)
    refine g_aload_n X dX12_binds_42 0 rfl ?_
    refine g_iload_n X dX12_binds_43 1 rfl ?_
    refine g_callV (n := 1) (av := [tI a1]) (rest := []) (k := 12) X hf (fun p4 => (some (tI p4.1), p4.2)) (fun _ q => m_X12_thingBinds q) (gdV tb_1616 tb_1617 tb_1740 tb_12 tb_1618) rfl (by decide +kernel) rfl (by decide) rfl (by decide) (by decide) rfl (Nat.le_of_ble_eq_true rfl) dX12_binds_44 (fun p4 hf => ?_)
    refine g_istore_n (lv' := [(0, tR a0), (1, tI a1), (2, tI p4.1)]) X dX12_binds_47 (by decide) (in_pick [1, 2, 0] rfl) ?_
    refine g_iload_n X dX12_binds_48 2 rfl ?_
    refine g_aload_n X dX12_binds_49 0 rfl ?_
    refine g_iconst (v := 2) X dX12_binds_50 (by decide) ?_
    refine g_callV (n := 1) (av := [tI 2]) (rest := [tI p4.1]) (k := 12) X hf (fun p5 => (some (tI p5.1), p5.2)) (fun _ q => m_X12_names q) (gdV tb_1595 tb_1596 tb_1733 tb_12 tb_1597) rfl (by decide +kernel) rfl (by decide) rfl (by decide) (by decide) rfl (Nat.le_of_ble_eq_true rfl) dX12_binds_51 (fun p5 hf => ?_)
    refine g_iadd X dX12_binds_54 ?_
    exact g_ireturn X (zW hf) (by decide) (by decide) dX12_binds_55
  rw [if_neg hs0] at hf
  by_cases hs1 : v1 = 4
  · rw [if_pos hs1] at hf
    refine g_tabIn (off := 50) (tgt := 56) X 4 hs1 dX12_binds_6 (by decide) (by decide) (by decide +kernel) (by decide) ?_
    refine g_aload_n X dX12_binds_56 0 rfl ?_
    refine g_bipush (v := 50) X dX12_binds_57 (by decide) ?_
    refine g_callV (n := 1) (av := [tI 50]) (rest := []) (k := 12) X hf (fun h6 => (none, h6)) (fun _ q => m_X12_begins q) (gdV tb_1598 tb_1599 tb_1734 tb_12 tb_1600) rfl (by decide +kernel) rfl (by decide) rfl (by decide) (by decide) rfl (Nat.le_of_ble_eq_true rfl) dX12_binds_59 (fun h6 hf => ?_)
    refine g_aload_n X dX12_binds_62 0 rfl ?_
    refine g_iload_n X dX12_binds_63 1 rfl ?_
    refine g_callV (n := 1) (av := [tI a1]) (rest := []) (k := 12) X hf (fun p7 => (some (tI p7.1), p7.2)) (fun _ q => m_X12_thingBinds q) (gdV tb_1616 tb_1617 tb_1740 tb_12 tb_1618) rfl (by decide +kernel) rfl (by decide) rfl (by decide) (by decide) rfl (Nat.le_of_ble_eq_true rfl) dX12_binds_64 (fun p7 hf => ?_)
    refine g_iconst (v := 2) X dX12_binds_67 (by decide) ?_
    refine g_imul X dX12_binds_68 ?_
    exact g_ireturn X (zW hf) (by decide) (by decide) dX12_binds_69
  rw [if_neg hs1] at hf
  by_cases hs2 : v1 = 5
  · rw [if_pos hs2] at hf
    refine g_tabIn (off := 78) (tgt := 84) X 5 hs2 dX12_binds_6 (by decide) (by decide) (by decide +kernel) (by decide) ?_
    refine g_aload_n X dX12_binds_84 0 rfl ?_
    refine g_iload_n X dX12_binds_85 1 rfl ?_
    refine g_callV (n := 1) (av := [tI a1]) (rest := []) (k := 12) X hf (fun p8 => (some (tI p8.1), p8.2)) (fun _ q => m_X12_thingBinds q) (gdV tb_1616 tb_1617 tb_1740 tb_12 tb_1618) rfl (by decide +kernel) rfl (by decide) rfl (by decide) (by decide) rfl (Nat.le_of_ble_eq_true rfl) dX12_binds_86 (fun p8 hf => ?_)
    exact g_ireturn X (zW hf) (by decide) (by decide) dX12_binds_89
  rw [if_neg hs2] at hf
  by_cases hs3 : v1 = 6
  · rw [if_pos hs3] at hf
    refine g_tabIn (off := 64) (tgt := 70) X 6 hs3 dX12_binds_6 (by decide) (by decide) (by decide +kernel) (by decide) ?_
    refine g_aload_n X dX12_binds_70 0 rfl ?_
    refine g_bipush (v := 70) X dX12_binds_71 (by decide) ?_
    refine g_callV (n := 1) (av := [tI 70]) (rest := []) (k := 12) X hf (fun h9 => (none, h9)) (fun _ q => m_X12_begins q) (gdV tb_1598 tb_1599 tb_1734 tb_12 tb_1600) rfl (by decide +kernel) rfl (by decide) rfl (by decide) (by decide) rfl (Nat.le_of_ble_eq_true rfl) dX12_binds_73 (fun h9 hf => ?_)
    refine g_aload_n X dX12_binds_76 0 rfl ?_
    refine g_iload_n X dX12_binds_77 1 rfl ?_
    refine g_callV (n := 1) (av := [tI a1]) (rest := []) (k := 12) X hf (fun p10 => (some (tI p10.1), p10.2)) (fun _ q => m_X12_thingBinds q) (gdV tb_1616 tb_1617 tb_1740 tb_12 tb_1618) rfl (by decide +kernel) rfl (by decide) rfl (by decide) (by decide) rfl (Nat.le_of_ble_eq_true rfl) dX12_binds_78 (fun p10 hf => ?_)
    refine g_iconst (v := 1) X dX12_binds_81 (by decide) ?_
    refine g_isub X dX12_binds_82 ?_
    exact g_ireturn X (zW hf) (by decide) (by decide) dX12_binds_83
  rw [if_neg hs3] at hf
  cases hf
def b_X12_thingTells_23   (x0 : Option Nat) (x1 : Int32) (s0 : Option Nat) (s1 : Int32) (h : AH) : Option (Int32 × AH) :=
  (pZ 12 42 h s0 s1).bind fun h1 =>
  (gI 12 42 h1 x0).bind fun v2 =>
  if v2 = 0 then
    (gI 12 41 h1 x0).bind fun v3 =>
    (gI 12 40 h1 x0).bind fun v4 =>
    (dvI x1 (v3 - v4)).bind fun v5 =>
    some (v5, h1)
  else
    some (0, h1)
set_option maxRecDepth 20000 in
theorem w_X12_thingTells_23 {K : KT} {w : (Int32 × AH)}   (X : CX K cX12_thingTells RX12 TB (some .int) "thingTells" (rmD 2 0 0) 2 0 0)  (x0 : Option Nat) (x1 : Int32) (s0 : Option Nat) (s1 : Int32) (h : AH) (hf : b_X12_thingTells_23 x0 x1 s0 s1 h = some w) : GG K (some (tI w.1), w.2) 0 0 23 [(0, tR x0), (1, tI x1)] [tI s1, tR s0] h := by
  unfold b_X12_thingTells_23 at hf
  refine g_putZ X hf (T := TX12) rfl (by decide) (by decide) in_RX12 tyX12 tyX12_ok nmX12 tb_1177 rfl rfl rfl dX12_thingTells_23 (fun h1 hf => ?_)
  refine g_aload_n X dX12_thingTells_26 0 rfl ?_
  refine g_getI X hf (T := TX12) rfl (by decide) (by decide) in_RX12 tb_1177 rfl dX12_thingTells_27 (fun v2 hf => ?_)
  refine g_ifeq (tgt := 37) X hf dX12_thingTells_30 (by decide) (fun hf => ?_) (fun hf => ?_)
  · refine g_iload_n X dX12_thingTells_37 1 rfl ?_
    refine g_aload_n X dX12_thingTells_38 0 rfl ?_
    refine g_getI X hf (T := TX12) rfl (by decide) (by decide) in_RX12 tb_1176 rfl dX12_thingTells_39 (fun v3 hf => ?_)
    refine g_aload_n X dX12_thingTells_42 0 rfl ?_
    refine g_getI X hf (T := TX12) rfl (by decide) (by decide) in_RX12 tb_1175 rfl dX12_thingTells_43 (fun v4 hf => ?_)
    refine g_isub X dX12_thingTells_46 ?_
    refine g_idiv X hf dX12_thingTells_47 (fun v5 hf => ?_)
    exact g_ireturn X (zW hf) (by decide) (by decide) dX12_thingTells_48
  · refine g_iconst (v := 0) X dX12_thingTells_33 (by decide) ?_
    refine g_goto (tgt := 48) X dX12_thingTells_34 (by decide) ?_
    exact g_ireturn X (zW hf) (by decide) (by decide) dX12_thingTells_48
def f_X12_thingTells  (a0 : Option Nat) (a1 : Int32) (h : AH) : Option (Int32 × AH) :=
  (ck 12 h a0 (f_X12_begins a0 13 h)).bind fun h1 =>
  (gI 12 41 h1 a0).bind fun v2 =>
  (gI 12 40 h1 a0).bind fun v3 =>
  if v2 = v3 then
    b_X12_thingTells_23 a0 a1 a0 1 h1
  else
    b_X12_thingTells_23 a0 a1 a0 0 h1
set_option maxRecDepth 20000 in
theorem m_X12_thingTells  {a0 : Option Nat} {a1 : Int32} {h : AH} {w : (Int32 × AH)} (hf : f_X12_thingTells a0 a1 h = some w) : CT yX12_thingTells (wU yX12_thingTells cX12_thingTells 2 (some .int)) (rmD 2 0 0) 0 0 [tR a0, tI a1] h (some (tI w.1), w.2) := by
  refine CT.of (cc := cX12_thingTells) (nL := 2) (ret := (some .int)) (by decide) (by simp [lg_sl, vOf_cat, wOf]) ?_
  intro K X
  refine g_locs (lv' := [(0, tR a0), (1, tI a1)]) (fun q hq => hq) ?_
  unfold f_X12_thingTells at hf
  refine g_aload_n X dX12_thingTells_0 0 rfl ?_
  refine g_bipush (v := 13) X dX12_thingTells_1 (by decide) ?_
  refine g_callV (n := 1) (av := [tI 13]) (rest := []) (k := 12) X hf (fun h1 => (none, h1)) (fun _ q => m_X12_begins q) (gdV tb_1598 tb_1599 tb_1734 tb_12 tb_1600) rfl (by decide +kernel) rfl (by decide) rfl (by decide) (by decide) rfl (Nat.le_of_ble_eq_true rfl) dX12_thingTells_3 (fun h1 hf => ?_)
  refine g_aload_n X dX12_thingTells_6 0 rfl ?_
  refine g_aload_n X dX12_thingTells_7 0 rfl ?_
  refine g_getI X hf (T := TX12) rfl (by decide) (by decide) in_RX12 tb_1176 rfl dX12_thingTells_8 (fun v2 hf => ?_)
  refine g_aload_n X dX12_thingTells_11 0 rfl ?_
  refine g_getI X hf (T := TX12) rfl (by decide) (by decide) in_RX12 tb_1175 rfl dX12_thingTells_12 (fun v3 hf => ?_)
  refine g_icmpne (tgt := 22) X hf dX12_thingTells_15 (by decide) (fun hf => ?_) (fun hf => ?_)
  · refine g_iconst (v := 1) X dX12_thingTells_18 (by decide) ?_
    refine g_goto (tgt := 23) X dX12_thingTells_19 (by decide) ?_
    exact w_X12_thingTells_23 X a0 a1 a0 1 h1 hf
  · refine g_iconst (v := 0) X dX12_thingTells_22 (by decide) ?_
    exact w_X12_thingTells_23 X a0 a1 a0 0 h1 hf
