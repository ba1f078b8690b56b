def f_X12_sentTells  (a0 : Option Nat) (a1 : Int32) (h : AH) : Option (Int32 × AH) :=
  (ck 12 h a0 (f_X12_begins a0 60 h)).bind fun h1 =>
  (ck 12 h1 a0 (f_X12_thingTells a0 (a1 + 7) h1)).bind fun p2 =>
  (gI 12 42 p2.2 a0).bind fun v3 =>
  if v3 = 0 then
    (ck 12 p2.2 a0 (f_X12_names a0 a1 p2.2)).bind fun p4 =>
    some ((p2.1 - p4.1), p4.2)
  else
    some (0, p2.2)
set_option maxRecDepth 20000 in
theorem m_X12_sentTells  {a0 : Option Nat} {a1 : Int32} {h : AH} {w : (Int32 × AH)} (hf : f_X12_sentTells a0 a1 h = some w) : CT yX12_sentTells (wU yX12_sentTells cX12_sentTells 3 (some .int)) (rmD 4 0 0) 0 0 [tR a0, tI a1] h (some (tI w.1), w.2) := by
  refine CT.of (cc := cX12_sentTells) (nL := 3) (ret := (some .int)) (by decide) (by simp [lg_sl, vOf_cat, wOf]) ?_
  intro K X
  refine g_locs (lv' := [(0, tR a0), (1, tI a1)]) (fun q hq => hq) ?_
  unfold f_X12_sentTells at hf
  refine g_aload_n X dX12_sentTells_0 0 rfl ?_
  refine g_bipush (v := 60) X dX12_sentTells_1 (by decide) ?_
  refine g_callV (n := 1) (av := [tI 60]) (rest := []) (k := 12) X hf (fun h1 => (none, h1)) (fun _ q => m_X12_begins q) (gdV tb_1598 tb_1599 tb_1734 tb_12 tb_1600) rfl (by decide +kernel) rfl (by decide) rfl (by decide) (by decide) rfl (Nat.le_of_ble_eq_true rfl) dX12_sentTells_3 (fun h1 hf => ?_)
  refine g_aload_n X dX12_sentTells_6 0 rfl ?_
  refine g_iload_n X dX12_sentTells_7 1 rfl ?_
  refine g_bipush (v := 7) X dX12_sentTells_8 (by decide) ?_
  refine g_iadd X dX12_sentTells_10 ?_
  refine g_callV (n := 1) (av := [tI (a1 + 7)]) (rest := []) (k := 12) X hf (fun p2 => (some (tI p2.1), p2.2)) (fun _ q => m_X12_thingTells q) (gdV tb_1622 tb_1623 tb_1742 tb_12 tb_1624) rfl (by decide +kernel) rfl (by decide) rfl (by decide) (by decide) rfl (Nat.le_of_ble_eq_true rfl) dX12_sentTells_11 (fun p2 hf => ?_)
  refine g_istore_n (lv' := [(0, tR a0), (1, tI a1), (2, tI p2.1)]) X dX12_sentTells_14 (by decide) (in_pick [1, 2, 0] rfl) ?_
  refine g_aload_n X dX12_sentTells_15 0 rfl ?_
  refine g_getI X hf (T := TX12) rfl (by decide) (by decide) in_RX12 tb_1177 rfl dX12_sentTells_16 (fun v3 hf => ?_)
  refine g_ifeq (tgt := 26) X hf dX12_sentTells_19 (by decide) (fun hf => ?_) (fun hf => ?_)
  · refine g_iload_n X dX12_sentTells_26 2 rfl ?_
    refine g_aload_n X dX12_sentTells_27 0 rfl ?_
    refine g_iload_n X dX12_sentTells_28 1 rfl ?_
    refine g_callV (n := 1) (av := [tI a1]) (rest := [tI p2.1]) (k := 12) X hf (fun p4 => (some (tI p4.1), p4.2)) (fun _ q => m_X12_names q) (gdV tb_1595 tb_1596 tb_1733 tb_12 tb_1597) rfl (by decide +kernel) rfl (by decide) rfl (by decide) (by decide) rfl (Nat.le_of_ble_eq_true rfl) dX12_sentTells_29 (fun p4 hf => ?_)
    refine g_isub X dX12_sentTells_32 ?_
    exact g_ireturn X (zW hf) (by decide) (by decide) dX12_sentTells_33
  · refine g_iconst (v := 0) X dX12_sentTells_22 (by decide) ?_
    refine g_goto (tgt := 33) X dX12_sentTells_23 (by decide) ?_
    exact g_ireturn X (zW hf) (by decide) (by decide) dX12_sentTells_33
def f_X12_tells  (a0 : Option Nat) (a1 : Int32) (h : AH) : Option (Int32 × AH) :=
  (gI 12 39 h a0).bind fun v1 =>
  (f_X12_in v1 1 3 h).bind fun v2 =>
  if v2 = 0 then
    (gI 12 39 h a0).bind fun v3 =>
    if v3 = 6 then
      (ck 12 h a0 (f_X12_begins a0 71 h)).bind fun h4 =>
      (ck 12 h4 a0 (f_X12_sentTells a0 a1 h4)).bind fun p5 =>
      some ((0 - p5.1), p5.2)
    else
      (gI 12 39 h a0).bind fun v6 =>
      if v6 = 5 then
        (ck 12 h a0 (f_X12_sentTells a0 a1 h)).bind fun p7 =>
        some (p7.1, p7.2)
      else
        (ck 12 h a0 (f_X12_thingTells a0 a1 h)).bind fun p8 =>
        some (p8.1, p8.2)
  else
    (ck 12 h a0 (f_X12_begins a0 21 h)).bind fun h9 =>
    (ck 12 h9 a0 (f_X12_thingTells a0 a1 h9)).bind fun p10 =>
    some ((p10.1 + 1), p10.2)
set_option maxRecDepth 20000 in
theorem m_X12_tells  {a0 : Option Nat} {a1 : Int32} {h : AH} {w : (Int32 × AH)} (hf : f_X12_tells a0 a1 h = some w) : CT yX12_tells (wU yX12_tells cX12_tells 2 (some .int)) (rmD 5 0 0) 0 0 [tR a0, tI a1] h (some (tI w.1), w.2) := by
  refine CT.of (cc := cX12_tells) (nL := 2) (ret := (some .int)) (by decide) (by simp [lg_sl, vOf_cat, wOf]) ?_
  intro K X
  refine g_locs (lv' := [(0, tR a0), (1, tI a1)]) (fun q hq => hq) ?_
  unfold f_X12_tells at hf
  refine g_aload_n X dX12_tells_0 0 rfl ?_
  refine g_getI X hf (T := TX12) rfl (by decide) (by decide) in_RX12 tb_1174 rfl dX12_tells_1 (fun v1 hf => ?_)
  refine g_iconst (v := 1) X dX12_tells_4 (by decide) ?_
  refine g_iconst (v := 3) X dX12_tells_5 (by decide) ?_
  refine g_callS (n := 3) (av := [tI v1, tI 1, tI 3]) (rest := []) X hf (fun v2 => (some (tI v2), h)) (fun _ q => m_X12_in q) (gdS tb_1226 tb_1227 tb_12 tb_1228) rfl (by decide +kernel) rfl (by decide) (by decide) rfl (Nat.le_of_ble_eq_true rfl) dX12_tells_6 (fun v2 hf => ?_)
  refine g_ifeq (tgt := 26) X hf dX12_tells_9 (by decide) (fun hf => ?_) (fun hf => ?_)
  · refine g_aload_n X dX12_tells_26 0 rfl ?_
    refine g_getI X hf (T := TX12) rfl (by decide) (by decide) in_RX12 tb_1174 rfl dX12_tells_27 (fun v3 hf => ?_)
    refine g_bipush (v := 6) X dX12_tells_30 (by decide) ?_
    refine g_icmpne (tgt := 49) X hf dX12_tells_32 (by decide) (fun hf => ?_) (fun hf => ?_)
    · refine g_aload_n X dX12_tells_35 0 rfl ?_
      refine g_bipush (v := 71) X dX12_tells_36 (by decide) ?_
      refine g_callV (n := 1) (av := [tI 71]) (rest := []) (k := 12) X hf (fun h4 => (none, h4)) (fun _ q => m_X12_begins q) (gdV tb_1598 tb_1599 tb_1734 tb_12 tb_1600) rfl (by decide +kernel) rfl (by decide) rfl (by decide) (by decide) rfl (Nat.le_of_ble_eq_true rfl) dX12_tells_38 (fun h4 hf => ?_)
      refine g_iconst (v := 0) X dX12_tells_41 (by decide) ?_
      refine g_aload_n X dX12_tells_42 0 rfl ?_
      refine g_iload_n X dX12_tells_43 1 rfl ?_
      refine g_callV (n := 1) (av := [tI a1]) (rest := [tI 0]) (k := 12) X hf (fun p5 => (some (tI p5.1), p5.2)) (fun _ q => m_X12_sentTells q) (gdV tb_1625 tb_1626 tb_1743 tb_12 tb_1627) rfl (by decide +kernel) rfl (by decide) rfl (by decide) (by decide) rfl (Nat.le_of_ble_eq_true rfl) dX12_tells_44 (fun p5 hf => ?_)
      refine g_isub X dX12_tells_47 ?_
      exact g_ireturn X (zW hf) (by decide) (by decide) dX12_tells_48
    · refine g_aload_n X dX12_tells_49 0 rfl ?_
      refine g_getI X hf (T := TX12) rfl (by decide) (by decide) in_RX12 tb_1174 rfl dX12_tells_50 (fun v6 hf => ?_)
      refine g_iconst (v := 5) X dX12_tells_53 (by decide) ?_
      refine g_icmpne (tgt := 65) X hf dX12_tells_54 (by decide) (fun hf => ?_) (fun hf => ?_)
      · refine g_aload_n X dX12_tells_57 0 rfl ?_
        refine g_iload_n X dX12_tells_58 1 rfl ?_
        refine g_callV (n := 1) (av := [tI a1]) (rest := []) (k := 12) X hf (fun p7 => (some (tI p7.1), p7.2)) (fun _ q => m_X12_sentTells q) (gdV tb_1625 tb_1626 tb_1743 tb_12 tb_1627) rfl (by decide +kernel) rfl (by decide) rfl (by decide) (by decide) rfl (Nat.le_of_ble_eq_true rfl) dX12_tells_59 (fun p7 hf => ?_)
        refine g_goto (tgt := 70) X dX12_tells_62 (by decide) ?_
        exact g_ireturn X (zW hf) (by decide) (by decide) dX12_tells_70
      · refine g_aload_n X dX12_tells_65 0 rfl ?_
        refine g_iload_n X dX12_tells_66 1 rfl ?_
        refine g_callV (n := 1) (av := [tI a1]) (rest := []) (k := 12) X hf (fun p8 => (some (tI p8.1), p8.2)) (fun _ q => m_X12_thingTells q) (gdV tb_1622 tb_1623 tb_1742 tb_12 tb_1624) rfl (by decide +kernel) rfl (by decide) rfl (by decide) (by decide) rfl (Nat.le_of_ble_eq_true rfl) dX12_tells_67 (fun p8 hf => ?_)
        exact g_ireturn X (zW hf) (by decide) (by decide) dX12_tells_70
  · refine g_aload_n X dX12_tells_12 0 rfl ?_
    refine g_bipush (v := 21) X dX12_tells_13 (by decide) ?_
    refine g_callV (n := 1) (av := [tI 21]) (rest := []) (k := 12) X hf (fun h9 => (none, h9)) (fun _ q => m_X12_begins q) (gdV tb_1598 tb_1599 tb_1734 tb_12 tb_1600) rfl (by decide +kernel) rfl (by decide) rfl (by decide) (by decide) rfl (Nat.le_of_ble_eq_true rfl) dX12_tells_15 (fun h9 hf => ?_)
    refine g_aload_n X dX12_tells_18 0 rfl ?_
    refine g_iload_n X dX12_tells_19 1 rfl ?_
    refine g_callV (n := 1) (av := [tI a1]) (rest := []) (k := 12) X hf (fun p10 => (some (tI p10.1), p10.2)) (fun _ q => m_X12_thingTells q) (gdV tb_1622 tb_1623 tb_1742 tb_12 tb_1624) rfl (by decide +kernel) rfl (by decide) rfl (by decide) (by decide) rfl (Nat.le_of_ble_eq_true rfl) dX12_tells_20 (fun p10 hf => ?_)
    refine g_iconst (v := 1) X dX12_tells_23 (by decide) ?_
    refine g_iadd X dX12_tells_24 ?_
    exact g_ireturn X (zW hf) (by decide) (by decide) dX12_tells_25
def b_X12_act_163   (x0 : Option Nat) (s0 : Int32) (h : AH) : Option (Int32 × AH) :=
  (gI 12 42 h x0).bind fun v1 =>
  if v1 = 0 then
    some (s0, h)
  else
    some ((-15), h)
set_option maxRecDepth 20000 in
theorem w_X12_act_163 {K : KT} {w : (Int32 × AH)}   (X : CX K cX12_act RX12 TB (some .int) "act" (rmD 9 0 0) 5 0 0)  (x0 : Option Nat) (s0 : Int32) (h : AH) (hf : b_X12_act_163 x0 s0 h = some w) : GG K (some (tI w.1), w.2) 0 0 163 [(0, tR x0)] [tI s0] h := by
  unfold b_X12_act_163 at hf
  refine g_istore (lv' := [(0, tR x0), (4, tI s0)]) X dX12_act_163 (by decide) (in_pick [1, 0] rfl) ?_
  refine g_aload_n X dX12_act_165 0 rfl ?_
  refine g_getI X hf (T := TX12) rfl (by decide) (by decide) in_RX12 tb_1177 rfl dX12_act_166 (fun v1 hf => ?_)
  refine g_ifeq (tgt := 177) X hf dX12_act_169 (by decide) (fun hf => ?_) (fun hf => ?_)
  · refine g_iload X dX12_act_177 1 rfl ?_
    exact g_ireturn X (zW hf) (by decide) (by decide) dX12_act_179
  · refine g_bipush (v := (-15)) X dX12_act_172 (by decide) ?_
    refine g_goto (tgt := 179) X dX12_act_174 (by decide) ?_
    exact g_ireturn X (zW hf) (by decide) (by decide) dX12_act_179
def b_X12_act_112   (x0 : Option Nat) (x2 : Int32) (x3 : Int32) (s0 : Option Nat) (s1 : Int32) (h : AH) : Option (Int32 × AH) :=
  (pI 12 41 h s0 s1).bind fun h1 =>
  (pZ 12 42 h1 x0 0).bind fun h2 =>
  if x2 = 0 then
    (ck 12 h2 x0 (f_X12_names x0 x3 h2)).bind fun p3 =>
    b_X12_act_163 x0 p3.1 p3.2
  else
    if x2 = 1 then
      (ck 12 h2 x0 (f_X12_counts x0 x3 h2)).bind fun p4 =>
      b_X12_act_163 x0 p4.1 p4.2
    else
      if x2 = 2 then
        (ck 12 h2 x0 (f_X12_binds x0 x3 h2)).bind fun p5 =>
        b_X12_act_163 x0 p5.1 p5.2
      else
        (ck 12 h2 x0 (f_X12_tells x0 x3 h2)).bind fun p6 =>
        b_X12_act_163 x0 p6.1 p6.2
set_option maxRecDepth 20000 in
theorem w_X12_act_112 {K : KT} {w : (Int32 × AH)}   (X : CX K cX12_act RX12 TB (some .int) "act" (rmD 9 0 0) 5 0 0)  (x0 : Option Nat) (x2 : Int32) (x3 : Int32) (s0 : Option Nat) (s1 : Int32) (h : AH) (hf : b_X12_act_112 x0 x2 x3 s0 s1 h = some w) : GG K (some (tI w.1), w.2) 0 0 112 [(0, tR x0), (2, tI x2), (3, tI x3)] [tI s1, tR s0] h := by
  unfold b_X12_act_112 at hf
  refine g_putI X hf (T := TX12) rfl (by decide) (by decide) in_RX12 tyX12 tyX12_ok nmX12 tb_1176 rfl rfl rfl dX12_act_112 (fun h1 hf => ?_)
  refine g_aload_n X dX12_act_115 0 rfl ?_
  refine g_iconst (v := 0) X dX12_act_116 (by decide) ?_
  refine g_putZ X hf (T := TX12) rfl (by decide) (by decide) in_RX12 tyX12 tyX12_ok nmX12 tb_1177 rfl rfl rfl dX12_act_117 (fun h2 hf => ?_)
  refine g_iload_n X dX12_act_120 1 rfl ?_
  refine g_ifne (tgt := 132) X hf dX12_act_121 (by decide) (fun hf => ?_) (fun hf => ?_)
  · refine g_aload_n X dX12_act_124 0 rfl ?_
    refine g_iload_n X dX12_act_125 2 rfl ?_
    refine g_callV (n := 1) (av := [tI x3]) (rest := []) (k := 12) X hf (fun p3 => (some (tI p3.1), p3.2)) (fun _ q => m_X12_names q) (gdV tb_1595 tb_1596 tb_1733 tb_12 tb_1597) rfl (by decide +kernel) rfl (by decide) rfl (by decide) (by decide) rfl (Nat.le_of_ble_eq_true rfl) dX12_act_126 (fun p3 hf => ?_)
    refine g_goto (tgt := 163) X dX12_act_129 (by decide) ?_
    refine g_locs (lv' := [(0, tR x0)]) (in_pick [0] rfl) ?_
    exact w_X12_act_163 X x0 p3.1 p3.2 hf
  · refine g_iload_n X dX12_act_132 1 rfl ?_
    refine g_iconst (v := 1) X dX12_act_133 (by decide) ?_
    refine g_icmpne (tgt := 145) X hf dX12_act_134 (by decide) (fun hf => ?_) (fun hf => ?_)
    · refine g_aload_n X dX12_act_137 0 rfl ?_
      refine g_iload_n X dX12_act_138 2 rfl ?_
      refine g_callV (n := 1) (av := [tI x3]) (rest := []) (k := 12) X hf (fun p4 => (some (tI p4.1), p4.2)) (fun _ q => m_X12_counts q) (gdV tb_1604 tb_1605 tb_1736 tb_12 tb_1606) rfl (by decide +kernel) rfl (by decide) rfl (by decide) (by decide) rfl (Nat.le_of_ble_eq_true rfl) dX12_act_139 (fun p4 hf => ?_)
      refine g_goto (tgt := 163) X dX12_act_142 (by decide) ?_
      refine g_locs (lv' := [(0, tR x0)]) (in_pick [0] rfl) ?_
      exact w_X12_act_163 X x0 p4.1 p4.2 hf
    · refine g_iload_n X dX12_act_145 1 rfl ?_
      refine g_iconst (v := 2) X dX12_act_146 (by decide) ?_
      refine g_icmpne (tgt := 158) X hf dX12_act_147 (by decide) (fun hf => ?_) (fun hf => ?_)
      · refine g_aload_n X dX12_act_150 0 rfl ?_
        refine g_iload_n X dX12_act_151 2 rfl ?_
        refine g_callV (n := 1) (av := [tI x3]) (rest := []) (k := 12) X hf (fun p5 => (some (tI p5.1), p5.2)) (fun _ q => m_X12_binds q) (gdV tb_1613 tb_1614 tb_1739 tb_12 tb_1615) rfl (by decide +kernel) rfl (by decide) rfl (by decide) (by decide) rfl (Nat.le_of_ble_eq_true rfl) dX12_act_152 (fun p5 hf => ?_)
        refine g_goto (tgt := 163) X dX12_act_155 (by decide) ?_
        refine g_locs (lv' := [(0, tR x0)]) (in_pick [0] rfl) ?_
        exact w_X12_act_163 X x0 p5.1 p5.2 hf
      · refine g_aload_n X dX12_act_158 0 rfl ?_
        refine g_iload_n X dX12_act_159 2 rfl ?_
        refine g_callV (n := 1) (av := [tI x3]) (rest := []) (k := 12) X hf (fun p6 => (some (tI p6.1), p6.2)) (fun _ q => m_X12_tells q) (gdV tb_1619 tb_1620 tb_1741 tb_12 tb_1621) rfl (by decide +kernel) rfl (by decide) rfl (by decide) (by decide) rfl (Nat.le_of_ble_eq_true rfl) dX12_act_160 (fun p6 hf => ?_)
        refine g_locs (lv' := [(0, tR x0)]) (in_pick [0] rfl) ?_
        exact w_X12_act_163 X x0 p6.1 p6.2 hf
def f_X12_act  (a0 : Option Nat) (a1 : Int32) (a2 : Int32) (a3 : Int32) (h : AH) : Option (Int32 × AH) :=
  (pI 12 38 h a0 0).bind fun h1 =>
  (f_X12_isFour a1 h1).bind fun v2 =>
  if v2 = 0 then
    some (0, h1)
  else
    (f_X12_in a2 0 3 h1).bind fun v3 =>
    if v3 = 0 then
      some (0, h1)
    else
      (ck 12 h1 a0 (f_X12_kindOn a0 a1 h1)).bind fun p4 =>
      if p4.1 < 0 then
        some (0, p4.2)
      else
        (ck 12 p4.2 a0 (f_X12_kindOn a0 a1 p4.2)).bind fun p5 =>
        (pI 12 39 p5.2 a0 p5.1).bind fun h6 =>
        (gR 12 36 h6 a0).bind fun v7 =>
        (aI h6 v7 a1).bind fun v8 =>
        (pI 12 40 h6 a0 v8).bind fun h9 =>
        (gI 12 39 h9 a0).bind fun v10 =>
        if v10 < 4 then
          (gR 12 0 h9 a0).bind fun v11 =>
          (gI 12 40 h9 a0).bind fun v12 =>
          (aI h9 v11 (891 + v12)).bind fun v13 =>
          b_X12_act_112 a0 a2 a3 a0 v13 h9
        else
          (gI 12 39 h9 a0).bind fun v14 =>
          if v14 = 4 then
            (gR 12 0 h9 a0).bind fun v15 =>
            (gI 12 40 h9 a0).bind fun v16 =>
            (aI h9 v15 (619 + v16)).bind fun v17 =>
            b_X12_act_112 a0 a2 a3 a0 v17 h9
          else
            (gR 12 0 h9 a0).bind fun v18 =>
            (gI 12 40 h9 a0).bind fun v19 =>
            (aI h9 v18 (171 + v19)).bind fun v20 =>
            b_X12_act_112 a0 a2 a3 a0 v20 h9
set_option maxRecDepth 20000 in
theorem m_X12_act  {a0 : Option Nat} {a1 : Int32} {a2 : Int32} {a3 : Int32} {h : AH} {w : (Int32 × AH)} (hf : f_X12_act a0 a1 a2 a3 h = some w) : CT yX12_act (wU yX12_act cX12_act 5 (some .int)) (rmD 9 0 0) 0 0 [tR a0, tI a1, tI a2, tI a3] h (some (tI w.1), w.2) := by
  refine CT.of (cc := cX12_act) (nL := 5) (ret := (some .int)) (by decide) (by simp [lg_sl, vOf_cat, wOf]) ?_
  intro K X
  refine g_locs (lv' := [(0, tR a0), (1, tI a1), (2, tI a2), (3, tI a3)]) (fun q hq => hq) ?_
  unfold f_X12_act at hf
  refine g_aload_n X dX12_act_0 0 rfl ?_
  refine g_iconst (v := 0) X dX12_act_1 (by decide) ?_
  refine g_putI X hf (T := TX12) rfl (by decide) (by decide) in_RX12 tyX12 tyX12_ok nmX12 tb_1173 rfl rfl rfl dX12_act_2 (fun h1 hf => ?_)
  refine g_iload_n X dX12_act_5 1 rfl ?_
  refine g_callS (n := 1) (av := [tI a1]) (rest := []) X hf (fun v2 => (some (tI v2), h1)) (fun _ q => m_X12_isFour q) (gdS tb_1561 tb_1562 tb_12 tb_1563) rfl (by decide +kernel) rfl (by decide) (by decide) rfl (Nat.le_of_ble_eq_true rfl) dX12_act_6 (fun v2 hf => ?_)
  refine g_ifeq (tgt := 29) X hf dX12_act_9 (by decide) (fun hf => ?_) (fun hf => ?_)
  · refine g_iconst (v := 0) X dX12_act_29 (by decide) ?_
    exact g_ireturn X (zW hf) (by decide) (by decide) dX12_act_30
  · refine g_iload_n X dX12_act_12 2 rfl ?_
    refine g_iconst (v := 0) X dX12_act_13 (by decide) ?_
    refine g_iconst (v := 3) X dX12_act_14 (by decide) ?_
    refine g_callS (n := 3) (av := [tI a2, tI 0, tI 3]) (rest := []) X hf (fun v3 => (some (tI v3), h1)) (fun _ q => m_X12_in q) (gdS tb_1226 tb_1227 tb_12 tb_1228) rfl (by decide +kernel) rfl (by decide) (by decide) rfl (Nat.le_of_ble_eq_true rfl) dX12_act_15 (fun v3 hf => ?_)
    refine g_ifeq (tgt := 29) X hf dX12_act_18 (by decide) (fun hf => ?_) (fun hf => ?_)
    · refine g_iconst (v := 0) X dX12_act_29 (by decide) ?_
      exact g_ireturn X (zW hf) (by decide) (by decide) dX12_act_30
    · refine g_aload_n X dX12_act_21 0 rfl ?_
      refine g_iload_n X dX12_act_22 1 rfl ?_
      refine g_callV (n := 1) (av := [tI a1]) (rest := []) (k := 12) X hf (fun p4 => (some (tI p4.1), p4.2)) (fun _ q => m_X12_kindOn q) (gdV tb_1588 tb_1589 tb_1732 tb_12 tb_1590) rfl (by decide +kernel) rfl (by decide) rfl (by decide) (by decide) rfl (Nat.le_of_ble_eq_true rfl) dX12_act_23 (fun p4 hf => ?_)
      refine g_ifge (tgt := 31) X hf dX12_act_26 (by decide) (fun hf => ?_) (fun hf => ?_)
      · refine g_iconst (v := 0) X dX12_act_29 (by decide) ?_
        exact g_ireturn X (zW hf) (by decide) (by decide) dX12_act_30
      · refine g_aload_n X dX12_act_31 0 rfl ?_
        refine g_aload_n X dX12_act_32 0 rfl ?_
        refine g_iload_n X dX12_act_33 1 rfl ?_
        refine g_callV (n := 1) (av := [tI a1]) (rest := [tR a0]) (k := 12) X hf (fun p5 => (some (tI p5.1), p5.2)) (fun _ q => m_X12_kindOn q) (gdV tb_1588 tb_1589 tb_1732 tb_12 tb_1590) rfl (by decide +kernel) rfl (by decide) rfl (by decide) (by decide) rfl (Nat.le_of_ble_eq_true rfl) dX12_act_34 (fun p5 hf => ?_)
        refine g_putI X hf (T := TX12) rfl (by decide) (by decide) in_RX12 tyX12 tyX12_ok nmX12 tb_1174 rfl rfl rfl dX12_act_37 (fun h6 hf => ?_)
        refine g_aload_n X dX12_act_40 0 rfl ?_
        refine g_aload_n X dX12_act_41 0 rfl ?_
        refine g_getR X hf (T := TX12) rfl (by decide) (by decide) in_RX12 tb_1171 rfl dX12_act_42 (fun v7 hf => ?_)
        refine g_iload_n X dX12_act_45 1 rfl ?_
        refine g_iaload X hf dX12_act_46 (fun v8 hf => ?_)
        refine g_putI X hf (T := TX12) rfl (by decide) (by decide) in_RX12 tyX12 tyX12_ok nmX12 tb_1175 rfl rfl rfl dX12_act_47 (fun h9 hf => ?_)
        refine g_aload_n X dX12_act_50 0 rfl ?_
        refine g_aload_n X dX12_act_51 0 rfl ?_
        refine g_getI X hf (T := TX12) rfl (by decide) (by decide) in_RX12 tb_1174 rfl dX12_act_52 (fun v10 hf => ?_)
        refine g_iconst (v := 4) X dX12_act_55 (by decide) ?_
        refine g_icmpge (tgt := 75) X hf dX12_act_56 (by decide) (fun hf => ?_) (fun hf => ?_)
        · refine g_aload_n X dX12_act_59 0 rfl ?_
          refine g_getR X hf (T := TX12) rfl (by decide) (by decide) in_RX12 tb_1135 rfl dX12_act_60 (fun v11 hf => ?_)
          refine g_sipush (v := 891) X dX12_act_63 (by decide) ?_
          refine g_aload_n X dX12_act_66 0 rfl ?_
          refine g_getI X hf (T := TX12) rfl (by decide) (by decide) in_RX12 tb_1175 rfl dX12_act_67 (fun v12 hf => ?_)
          refine g_iadd X dX12_act_70 ?_
          refine g_iaload X hf dX12_act_71 (fun v13 hf => ?_)
          refine g_goto (tgt := 112) X dX12_act_72 (by decide) ?_
          refine g_locs (lv' := [(0, tR a0), (2, tI a2), (3, tI a3)]) (in_pick [0, 2, 3] rfl) ?_
          exact w_X12_act_112 X a0 a2 a3 a0 v13 h9 hf
        · refine g_aload_n X dX12_act_75 0 rfl ?_
          refine g_getI X hf (T := TX12) rfl (by decide) (by decide) in_RX12 tb_1174 rfl dX12_act_76 (fun v14 hf => ?_)
          refine g_iconst (v := 4) X dX12_act_79 (by decide) ?_
          refine g_icmpne (tgt := 99) X hf dX12_act_80 (by decide) (fun hf => ?_) (fun hf => ?_)
          · refine g_aload_n X dX12_act_83 0 rfl ?_
            refine g_getR X hf (T := TX12) rfl (by decide) (by decide) in_RX12 tb_1135 rfl dX12_act_84 (fun v15 hf => ?_)
            refine g_sipush (v := 619) X dX12_act_87 (by decide) ?_
            refine g_aload_n X dX12_act_90 0 rfl ?_
            refine g_getI X hf (T := TX12) rfl (by decide) (by decide) in_RX12 tb_1175 rfl dX12_act_91 (fun v16 hf => ?_)
            refine g_iadd X dX12_act_94 ?_
            refine g_iaload X hf dX12_act_95 (fun v17 hf => ?_)
            refine g_goto (tgt := 112) X dX12_act_96 (by decide) ?_
            refine g_locs (lv' := [(0, tR a0), (2, tI a2), (3, tI a3)]) (in_pick [0, 2, 3] rfl) ?_
            exact w_X12_act_112 X a0 a2 a3 a0 v17 h9 hf
          · refine g_aload_n X dX12_act_99 0 rfl ?_
            refine g_getR X hf (T := TX12) rfl (by decide) (by decide) in_RX12 tb_1135 rfl dX12_act_100 (fun v18 hf => ?_)
            refine g_sipush (v := 171) X dX12_act_103 (by decide) ?_
            refine g_aload_n X dX12_act_106 0 rfl ?_
            refine g_getI X hf (T := TX12) rfl (by decide) (by decide) in_RX12 tb_1175 rfl dX12_act_107 (fun v19 hf => ?_)
            refine g_iadd X dX12_act_110 ?_
            refine g_iaload X hf dX12_act_111 (fun v20 hf => ?_)
            refine g_locs (lv' := [(0, tR a0), (2, tI a2), (3, tI a3)]) (in_pick [0, 2, 3] rfl) ?_
            exact w_X12_act_112 X a0 a2 a3 a0 v20 h9 hf
def f_X12_trace  (a0 : Option Nat) (a1 : Int32) (h : AH) : Option Int32 :=
  (gI 12 38 h a0).bind fun v1 =>
  (f_X12_in a1 0 (v1 - 1) h).bind fun v2 =>
  if v2 = 0 then
    some (-3)
  else
    (gR 12 37 h a0).bind fun v3 =>
    (aI h v3 a1).bind fun v4 =>
    some v4
set_option maxRecDepth 20000 in
theorem m_X12_trace  {a0 : Option Nat} {a1 : Int32} {h : AH} {w : Int32} (hf : f_X12_trace a0 a1 h = some w) : CT yX12_trace (wU yX12_trace cX12_trace 2 (some .int)) (rmD 2 0 0) 0 0 [tR a0, tI a1] h (some (tI w), h) := by
  refine CT.of (cc := cX12_trace) (nL := 2) (ret := (some .int)) (by decide) (by simp [lg_sl, vOf_cat, wOf]) ?_
  intro K X
  refine g_locs (lv' := [(0, tR a0), (1, tI a1)]) (fun q hq => hq) ?_
  unfold f_X12_trace at hf
  refine g_iload_n X dX12_trace_0 1 rfl ?_
  refine g_iconst (v := 0) X dX12_trace_1 (by decide) ?_
  refine g_aload_n X dX12_trace_2 0 rfl ?_
  refine g_getI X hf (T := TX12) rfl (by decide) (by decide) in_RX12 tb_1173 rfl dX12_trace_3 (fun v1 hf => ?_)
  refine g_iconst (v := 1) X dX12_trace_6 (by decide) ?_
  refine g_isub X dX12_trace_7 ?_
  refine g_callS (n := 3) (av := [tI a1, tI 0, tI (v1 - 1)]) (rest := []) X hf (fun v2 => (some (tI v2), h)) (fun _ q => m_X12_in q) (gdS tb_1226 tb_1227 tb_12 tb_1228) rfl (by decide +kernel) rfl (by decide) (by decide) rfl (Nat.le_of_ble_eq_true rfl) dX12_trace_8 (fun v2 hf => ?_)
  refine g_ifeq (tgt := 23) X hf dX12_trace_11 (by decide) (fun hf => ?_) (fun hf => ?_)
  · refine g_bipush (v := (-3)) X dX12_trace_23 (by decide) ?_
    exact g_ireturn X (zP hf) (by decide) (by decide) dX12_trace_25
  · refine g_aload_n X dX12_trace_14 0 rfl ?_
    refine g_getR X hf (T := TX12) rfl (by decide) (by decide) in_RX12 tb_1172 rfl dX12_trace_15 (fun v3 hf => ?_)
    refine g_iload_n X dX12_trace_18 1 rfl ?_
    refine g_iaload X hf dX12_trace_19 (fun v4 hf => ?_)
    refine g_goto (tgt := 25) X dX12_trace_20 (by decide) ?_
    exact g_ireturn X (zP hf) (by decide) (by decide) dX12_trace_25
def b_X12_many_223  (k170 : Option Nat → Int32 → Int32 → Int32 → Option Int32) (h : AH) (x0 : Option Nat) (x1 : Int32) (x3 : Int32) (s0 : Int32) (s1 : Int32) : Option Int32 :=
  k170 x0 x1 (s0 + s1) (x3 + 1)
set_option maxRecDepth 20000 in
theorem w_X12_many_223 {K : KT} {w : Int32} {h : AH} {k170 : Option Nat → Int32 → Int32 → Int32 → Option Int32}  (X : CX K cX12_many RX12 TB (some .int) "many" (rmD 4 0 0) 4 0 0) (hk170 : ∀ (x0 : Option Nat) (x1 : Int32) (x2 : Int32) (x3 : Int32), k170 x0 x1 x2 x3 = some w → GG K (some (tI w), h) 0 0 170 [(0, tR x0), (1, tI x1), (2, tI x2), (3, tI x3)] [] h) (x0 : Option Nat) (x1 : Int32) (x3 : Int32) (s0 : Int32) (s1 : Int32) (hf : b_X12_many_223 k170 h x0 x1 x3 s0 s1 = some w) : GG K (some (tI w), h) 0 0 223 [(0, tR x0), (1, tI x1), (3, tI x3)] [tI s1, tI s0] h := by
  unfold b_X12_many_223 at hf
  refine g_iadd X dX12_many_223 ?_
  refine g_istore_n (lv' := [(0, tR x0), (1, tI x1), (2, tI (s0 + s1)), (3, tI x3)]) X dX12_many_224 (by decide) (in_pick [1, 2, 0, 3] rfl) ?_
  refine g_iinc (v := (x3 + 1)) (lv' := [(0, tR x0), (1, tI x1), (2, tI (s0 + s1)), (3, tI (x3 + 1))]) X dX12_many_225 3 rfl (by rfl) (by decide) (in_pick [1, 2, 3, 0] rfl) ?_
  refine g_goto (tgt := 170) X dX12_many_228 (by decide) ?_
  exact hk170 x0 x1 (s0 + s1) (x3 + 1) hf
def b_X12_many_170   (h : AH) : Nat → Option Nat → Int32 → Int32 → Int32 → Option Int32
  | 0 => fun _ _ _ _ => none
  | n + 1 => fun x0 x1 x2 x3 =>
    (gR 12 0 h x0).bind fun v1 =>
    (aI h v1 2).bind fun v2 =>
    if x3 < v2 then
      if x1 = 12 then
        (gR 12 0 h x0).bind fun v3 =>
        (aI h v3 0).bind fun v4 =>
        (ck 12 h x0 (f_X12_isSent x0 x3 v4 h)).bind fun v5 =>
        if v5 = 0 then
          b_X12_many_223 (b_X12_many_170 h n) h x0 x1 x3 x2 0
        else
          b_X12_many_223 (b_X12_many_170 h n) h x0 x1 x3 x2 1
      else
        (gR 12 0 h x0).bind fun v6 =>
        (aI h v6 0).bind fun v7 =>
        (ck 12 h x0 (f_X12_doesCome x0 x3 v7 h)).bind fun v8 =>
        if v8 = 0 then
          b_X12_many_223 (b_X12_many_170 h n) h x0 x1 x3 x2 0
        else
          b_X12_many_223 (b_X12_many_170 h n) h x0 x1 x3 x2 1
    else
      some x2
set_option maxRecDepth 20000 in
theorem w_X12_many_170 {K : KT} {w : Int32} {h : AH}   (X : CX K cX12_many RX12 TB (some .int) "many" (rmD 4 0 0) 4 0 0)  : ∀ (n : Nat) (x0 : Option Nat) (x1 : Int32) (x2 : Int32) (x3 : Int32), b_X12_many_170 h n x0 x1 x2 x3 = some w → GG K (some (tI w), h) 0 0 170 [(0, tR x0), (1, tI x1), (2, tI x2), (3, tI x3)] [] h := by
  intro n
  induction n with
  | zero =>
    intro x0 x1 x2 x3 hf
    cases (show none = some w from hf)
  | succ n ih =>
    intro x0 x1 x2 x3 hf
    rw [b_X12_many_170] at hf
    refine g_iload_n X dX12_many_170 3 rfl ?_
    refine g_aload_n X dX12_many_171 0 rfl ?_
    refine g_getR X hf (T := TX12) rfl (by decide) (by decide) in_RX12 tb_1135 rfl dX12_many_172 (fun v1 hf => ?_)
    refine g_iconst (v := 2) X dX12_many_175 (by decide) ?_
    refine g_iaload X hf dX12_many_176 (fun v2 hf => ?_)
    refine g_icmpge (tgt := 231) X hf dX12_many_177 (by decide) (fun hf => ?_) (fun hf => ?_)
    · refine g_iload_n X dX12_many_180 2 rfl ?_
      refine g_iload_n X dX12_many_181 1 rfl ?_
      refine g_bipush (v := 12) X dX12_many_182 (by decide) ?_
      refine g_icmpne (tgt := 204) X hf dX12_many_184 (by decide) (fun hf => ?_) (fun hf => ?_)
      · refine g_aload_n X dX12_many_187 0 rfl ?_
        refine g_iload_n X dX12_many_188 3 rfl ?_
        refine g_aload_n X dX12_many_189 0 rfl ?_
        refine g_getR X hf (T := TX12) rfl (by decide) (by decide) in_RX12 tb_1135 rfl dX12_many_190 (fun v3 hf => ?_)
        refine g_iconst (v := 0) X dX12_many_193 (by decide) ?_
        refine g_iaload X hf dX12_many_194 (fun v4 hf => ?_)
        refine g_callV (n := 2) (av := [tI x3, tI v4]) (rest := [tI x2]) (k := 12) X hf (fun v5 => (some (tI v5), h)) (fun _ q => m_X12_isSent q) (gdV tb_1318 tb_1319 tb_1695 tb_12 tb_1320) rfl (by decide +kernel) rfl (by decide) rfl (by decide) (by decide) rfl (Nat.le_of_ble_eq_true rfl) dX12_many_195 (fun v5 hf => ?_)
        refine g_ifeq (tgt := 222) X hf dX12_many_198 (by decide) (fun hf => ?_) (fun hf => ?_)
        · refine g_iconst (v := 0) X dX12_many_222 (by decide) ?_
          refine g_locs (lv' := [(0, tR x0), (1, tI x1), (3, tI x3)]) (in_pick [0, 1, 3] rfl) ?_
          exact w_X12_many_223 X ih x0 x1 x3 x2 0 hf
        · refine g_goto (tgt := 218) X dX12_many_201 (by decide) ?_
          refine g_iconst (v := 1) X dX12_many_218 (by decide) ?_
          refine g_goto (tgt := 223) X dX12_many_219 (by decide) ?_
          refine g_locs (lv' := [(0, tR x0), (1, tI x1), (3, tI x3)]) (in_pick [0, 1, 3] rfl) ?_
          exact w_X12_many_223 X ih x0 x1 x3 x2 1 hf
      · refine g_aload_n X dX12_many_204 0 rfl ?_
        refine g_iload_n X dX12_many_205 3 rfl ?_
        refine g_aload_n X dX12_many_206 0 rfl ?_
        refine g_getR X hf (T := TX12) rfl (by decide) (by decide) in_RX12 tb_1135 rfl dX12_many_207 (fun v6 hf => ?_)
        refine g_iconst (v := 0) X dX12_many_210 (by decide) ?_
        refine g_iaload X hf dX12_many_211 (fun v7 hf => ?_)
        refine g_callV (n := 2) (av := [tI x3, tI v7]) (rest := [tI x2]) (k := 12) X hf (fun v8 => (some (tI v8), h)) (fun _ q => m_X12_doesCome q) (gdV tb_1315 tb_1316 tb_1694 tb_12 tb_1317) rfl (by decide +kernel) rfl (by decide) rfl (by decide) (by decide) rfl (Nat.le_of_ble_eq_true rfl) dX12_many_212 (fun v8 hf => ?_)
        refine g_ifeq (tgt := 222) X hf dX12_many_215 (by decide) (fun hf => ?_) (fun hf => ?_)
        · refine g_iconst (v := 0) X dX12_many_222 (by decide) ?_
          refine g_locs (lv' := [(0, tR x0), (1, tI x1), (3, tI x3)]) (in_pick [0, 1, 3] rfl) ?_
          exact w_X12_many_223 X ih x0 x1 x3 x2 0 hf
        · refine g_iconst (v := 1) X dX12_many_218 (by decide) ?_
          refine g_goto (tgt := 223) X dX12_many_219 (by decide) ?_
          refine g_locs (lv' := [(0, tR x0), (1, tI x1), (3, tI x3)]) (in_pick [0, 1, 3] rfl) ?_
          exact w_X12_many_223 X ih x0 x1 x3 x2 1 hf
    · refine g_iload_n X dX12_many_231 2 rfl ?_
      exact g_ireturn X (zP hf) (by decide) (by decide) dX12_many_232
def f_X12_many  (a0 : Option Nat) (a1 : Int32) (h : AH) : Option Int32 :=
  if a1 < 0 ∨ 13 < a1 then
    some (-1)
  else if a1 = 0 then
    (gR 12 0 h a0).bind fun v1 =>
    (aI h v1 0).bind fun v2 =>
    some v2
  else if a1 = 1 then
    (gR 12 0 h a0).bind fun v3 =>
    (aI h v3 1).bind fun v4 =>
    some v4
  else if a1 = 2 then
    (gR 12 0 h a0).bind fun v5 =>
    (aI h v5 2).bind fun v6 =>
    some v6
  else if a1 = 3 then
    (gR 12 0 h a0).bind fun v7 =>
    (aI h v7 3).bind fun v8 =>
    some v8
  else if a1 = 4 then
    (gR 12 0 h a0).bind fun v9 =>
    (aI h v9 4).bind fun v10 =>
    some v10
  else if a1 = 5 then
    (gR 12 0 h a0).bind fun v11 =>
    (aI h v11 5).bind fun v12 =>
    some v12
  else if a1 = 6 then
    (gR 12 0 h a0).bind fun v13 =>
    (aI h v13 6).bind fun v14 =>
    some v14
  else if a1 = 7 then
    (gI 12 29 h a0).bind fun v15 =>
    some v15
  else if a1 = 8 then
    (gR 12 0 h a0).bind fun v16 =>
    (aI h v16 8).bind fun v17 =>
    some v17
  else if a1 = 9 then
    (gI 12 4 h a0).bind fun v18 =>
    some v18
  else if a1 = 10 then
    (gI 12 38 h a0).bind fun v19 =>
    some v19
  else if a1 = 11 then
    (gR 12 0 h a0).bind fun v20 =>
    (aI h v20 7).bind fun v21 =>
    if v21 < 0 then
      some 9
    else
      (gR 12 0 h a0).bind fun v22 =>
      (aI h v22 7).bind fun v23 =>
      some v23
  else if a1 = 12 then
    b_X12_many_170 h FU a0 a1 0 0
  else if a1 = 13 then
    b_X12_many_170 h FU a0 a1 0 0
  else none
set_option maxRecDepth 20000 in
theorem m_X12_many  {a0 : Option Nat} {a1 : Int32} {h : AH} {w : Int32} (hf : f_X12_many a0 a1 h = some w) : CT yX12_many (wU yX12_many cX12_many 4 (some .int)) (rmD 4 0 0) 0 0 [tR a0, tI a1] h (some (tI w), h) := by
  refine CT.of (cc := cX12_many) (nL := 4) (ret := (some .int)) (by decide) (by simp [lg_sl, vOf_cat, wOf]) ?_
  intro K X
  refine g_locs (lv' := [(0, tR a0), (1, tI a1)]) (fun q hq => hq) ?_
  unfold f_X12_many at hf
  refine g_iconst (v := 0) X dX12_many_0 (by decide) ?_
  refine g_istore_n (lv' := [(0, tR a0), (1, tI a1), (2, tI 0)]) X dX12_many_1 (by decide) (in_pick [1, 2, 0] rfl) ?_
  refine g_iload_n X dX12_many_2 1 rfl ?_
  by_cases hsw : a1 < 0 ∨ 13 < a1
  · rw [if_pos hsw] at hf
    refine g_tabOut (tgt := 233) X dX12_many_3 (tab_out hsw) (by decide) ?_
    refine g_iconst (v := (-1)) X dX12_many_233 (by decide) ?_
    exact g_ireturn X (zP hf) (by decide) (by decide) dX12_many_234
  rw [if_neg hsw] at hf
  by_cases hs0 : a1 = 0
  · rw [if_pos hs0] at hf
    refine g_tabIn (off := 69) (tgt := 72) X 0 hs0 dX12_many_3 (by decide) (by decide) (by decide +kernel) (by decide) ?_
    refine g_aload_n X dX12_many_72 0 rfl ?_
    refine g_getR X hf (T := TX12) rfl (by decide) (by decide) in_RX12 tb_1135 rfl dX12_many_73 (fun v1 hf => ?_)
    refine g_iconst (v := 0) X dX12_many_76 (by decide) ?_
    refine g_iaload X hf dX12_many_77 (fun v2 hf => ?_)
    exact g_ireturn X (zP hf) (by decide) (by decide) dX12_many_78
  rw [if_neg hs0] at hf
  by_cases hs1 : a1 = 1
  · rw [if_pos hs1] at hf
    refine g_tabIn (off := 76) (tgt := 79) X 1 hs1 dX12_many_3 (by decide) (by decide) (by decide +kernel) (by decide) ?_
    refine g_aload_n X dX12_many_79 0 rfl ?_
    refine g_getR X hf (T := TX12) rfl (by decide) (by decide) in_RX12 tb_1135 rfl dX12_many_80 (fun v3 hf => ?_)
    refine g_iconst (v := 1) X dX12_many_83 (by decide) ?_
    refine g_iaload X hf dX12_many_84 (fun v4 hf => ?_)
    exact g_ireturn X (zP hf) (by decide) (by decide) dX12_many_85
  rw [if_neg hs1] at hf
  by_cases hs2 : a1 = 2
  · rw [if_pos hs2] at hf
    refine g_tabIn (off := 83) (tgt := 86) X 2 hs2 dX12_many_3 (by decide) (by decide) (by decide +kernel) (by decide) ?_
    refine g_aload_n X dX12_many_86 0 rfl ?_
    refine g_getR X hf (T := TX12) rfl (by decide) (by decide) in_RX12 tb_1135 rfl dX12_many_87 (fun v5 hf => ?_)
    refine g_iconst (v := 2) X dX12_many_90 (by decide) ?_
    refine g_iaload X hf dX12_many_91 (fun v6 hf => ?_)
    exact g_ireturn X (zP hf) (by decide) (by decide) dX12_many_92
  rw [if_neg hs2] at hf
  by_cases hs3 : a1 = 3
  · rw [if_pos hs3] at hf
    refine g_tabIn (off := 90) (tgt := 93) X 3 hs3 dX12_many_3 (by decide) (by decide) (by decide +kernel) (by decide) ?_
    refine g_aload_n X dX12_many_93 0 rfl ?_
    refine g_getR X hf (T := TX12) rfl (by decide) (by decide) in_RX12 tb_1135 rfl dX12_many_94 (fun v7 hf => ?_)
    refine g_iconst (v := 3) X dX12_many_97 (by decide) ?_
    refine g_iaload X hf dX12_many_98 (fun v8 hf => ?_)
    exact g_ireturn X (zP hf) (by decide) (by decide) dX12_many_99
  rw [if_neg hs3] at hf
  by_cases hs4 : a1 = 4
  · rw [if_pos hs4] at hf
    refine g_tabIn (off := 97) (tgt := 100) X 4 hs4 dX12_many_3 (by decide) (by decide) (by decide +kernel) (by decide) ?_
    refine g_aload_n X dX12_many_100 0 rfl ?_
    refine g_getR X hf (T := TX12) rfl (by decide) (by decide) in_RX12 tb_1135 rfl dX12_many_101 (fun v9 hf => ?_)
    refine g_iconst (v := 4) X dX12_many_104 (by decide) ?_
    refine g_iaload X hf dX12_many_105 (fun v10 hf => ?_)
    exact g_ireturn X (zP hf) (by decide) (by decide) dX12_many_106
  rw [if_neg hs4] at hf
  by_cases hs5 : a1 = 5
  · rw [if_pos hs5] at hf
    refine g_tabIn (off := 104) (tgt := 107) X 5 hs5 dX12_many_3 (by decide) (by decide) (by decide +kernel) (by decide) ?_
    refine g_aload_n X dX12_many_107 0 rfl ?_
    refine g_getR X hf (T := TX12) rfl (by decide) (by decide) in_RX12 tb_1135 rfl dX12_many_108 (fun v11 hf => ?_)
    refine g_iconst (v := 5) X dX12_many_111 (by decide) ?_
    refine g_iaload X hf dX12_many_112 (fun v12 hf => ?_)
    exact g_ireturn X (zP hf) (by decide) (by decide) dX12_many_113
  rw [if_neg hs5] at hf
  by_cases hs6 : a1 = 6
  · rw [if_pos hs6] at hf
    refine g_tabIn (off := 111) (tgt := 114) X 6 hs6 dX12_many_3 (by decide) (by decide) (by decide +kernel) (by decide) ?_
    refine g_aload_n X dX12_many_114 0 rfl ?_
    refine g_getR X hf (T := TX12) rfl (by decide) (by decide) in_RX12 tb_1135 rfl dX12_many_115 (fun v13 hf => ?_)
    refine g_bipush (v := 6) X dX12_many_118 (by decide) ?_
    refine g_iaload X hf dX12_many_120 (fun v14 hf => ?_)
    exact g_ireturn X (zP hf) (by decide) (by decide) dX12_many_121
  rw [if_neg hs6] at hf
  by_cases hs7 : a1 = 7
  · rw [if_pos hs7] at hf
    refine g_tabIn (off := 119) (tgt := 122) X 7 hs7 dX12_many_3 (by decide) (by decide) (by decide +kernel) (by decide) ?_
    refine g_aload_n X dX12_many_122 0 rfl ?_
    refine g_getI X hf (T := TX12) rfl (by decide) (by decide) in_RX12 tb_1164 rfl dX12_many_123 (fun v15 hf => ?_)
    exact g_ireturn X (zP hf) (by decide) (by decide) dX12_many_126
  rw [if_neg hs7] at hf
  by_cases hs8 : a1 = 8
  · rw [if_pos hs8] at hf
    refine g_tabIn (off := 124) (tgt := 127) X 8 hs8 dX12_many_3 (by decide) (by decide) (by decide +kernel) (by decide) ?_
    refine g_aload_n X dX12_many_127 0 rfl ?_
    refine g_getR X hf (T := TX12) rfl (by decide) (by decide) in_RX12 tb_1135 rfl dX12_many_128 (fun v16 hf => ?_)
    refine g_bipush (v := 8) X dX12_many_131 (by decide) ?_
    refine g_iaload X hf dX12_many_133 (fun v17 hf => ?_)
    exact g_ireturn X (zP hf) (by decide) (by decide) dX12_many_134
  rw [if_neg hs8] at hf
  by_cases hs9 : a1 = 9
  · rw [if_pos hs9] at hf
    refine g_tabIn (off := 132) (tgt := 135) X 9 hs9 dX12_many_3 (by decide) (by decide) (by decide +kernel) (by decide) ?_
    refine g_aload_n X dX12_many_135 0 rfl ?_
    refine g_getI X hf (T := TX12) rfl (by decide) (by decide) in_RX12 tb_1139 rfl dX12_many_136 (fun v18 hf => ?_)
    exact g_ireturn X (zP hf) (by decide) (by decide) dX12_many_139
  rw [if_neg hs9] at hf
  by_cases hs10 : a1 = 10
  · rw [if_pos hs10] at hf
    refine g_tabIn (off := 137) (tgt := 140) X 10 hs10 dX12_many_3 (by decide) (by decide) (by decide +kernel) (by decide) ?_
    refine g_aload_n X dX12_many_140 0 rfl ?_
    refine g_getI X hf (T := TX12) rfl (by decide) (by decide) in_RX12 tb_1173 rfl dX12_many_141 (fun v19 hf => ?_)
    exact g_ireturn X (zP hf) (by decide) (by decide) dX12_many_144
  rw [if_neg hs10] at hf
  by_cases hs11 : a1 = 11
  · rw [if_pos hs11] at hf
    refine g_tabIn (off := 142) (tgt := 145) X 11 hs11 dX12_many_3 (by decide) (by decide) (by decide +kernel) (by decide) ?_
    refine g_aload_n X dX12_many_145 0 rfl ?_
    refine g_getR X hf (T := TX12) rfl (by decide) (by decide) in_RX12 tb_1135 rfl dX12_many_146 (fun v20 hf => ?_)
    refine g_bipush (v := 7) X dX12_many_149 (by decide) ?_
    refine g_iaload X hf dX12_many_151 (fun v21 hf => ?_)
    refine g_ifge (tgt := 160) X hf dX12_many_152 (by decide) (fun hf => ?_) (fun hf => ?_)
    · refine g_bipush (v := 9) X dX12_many_155 (by decide) ?_
      refine g_goto (tgt := 167) X dX12_many_157 (by decide) ?_
      exact g_ireturn X (zP hf) (by decide) (by decide) dX12_many_167
    · refine g_aload_n X dX12_many_160 0 rfl ?_
      refine g_getR X hf (T := TX12) rfl (by decide) (by decide) in_RX12 tb_1135 rfl dX12_many_161 (fun v22 hf => ?_)
      refine g_bipush (v := 7) X dX12_many_164 (by decide) ?_
      refine g_iaload X hf dX12_many_166 (fun v23 hf => ?_)
      exact g_ireturn X (zP hf) (by decide) (by decide) dX12_many_167
  rw [if_neg hs11] at hf
  by_cases hs12 : a1 = 12
  · rw [if_pos hs12] at hf
    refine g_tabIn (off := 165) (tgt := 168) X 12 hs12 dX12_many_3 (by decide) (by decide) (by decide +kernel) (by decide) ?_
    refine g_iconst (v := 0) X dX12_many_168 (by decide) ?_
    refine g_istore_n (lv' := [(0, tR a0), (1, tI a1), (2, tI 0), (3, tI 0)]) X dX12_many_169 (by decide) (in_pick [1, 2, 3, 0] rfl) ?_
    exact w_X12_many_170 X FU a0 a1 0 0 hf
  rw [if_neg hs12] at hf
  by_cases hs13 : a1 = 13
  · rw [if_pos hs13] at hf
    refine g_tabIn (off := 165) (tgt := 168) X 13 hs13 dX12_many_3 (by decide) (by decide) (by decide +kernel) (by decide) ?_
    refine g_iconst (v := 0) X dX12_many_168 (by decide) ?_
    refine g_istore_n (lv' := [(0, tR a0), (1, tI a1), (2, tI 0), (3, tI 0)]) X dX12_many_169 (by decide) (in_pick [1, 2, 3, 0] rfl) ?_
    exact w_X12_many_170 X FU a0 a1 0 0 hf
  rw [if_neg hs13] at hf
  cases hf
def b_X12_keep_2    : Nat → Option Nat → Int32 → AH → Option (Int32 × AH)
  | 0 => fun _ _ _ => none
  | n + 1 => fun x0 x1 h =>
    if x1 < 2224 then
      (gR 12 1 h x0).bind fun v1 =>
      (gR 12 0 h x0).bind fun v2 =>
      (aI h v2 x1).bind fun v3 =>
      (sI h v1 x1 v3).bind fun h4 =>
      b_X12_keep_2 n x0 (x1 + 1) h4
    else
      (pZ 12 2 h x0 1).bind fun h5 =>
      some (1, h5)
set_option maxRecDepth 20000 in
theorem w_X12_keep_2 {K : KT} {w : (Int32 × AH)}   (X : CX K cX12_keep RX12 TB (some .int) "keep" (rmD 1 0 0) 2 0 0)  : ∀ (n : Nat) (x0 : Option Nat) (x1 : Int32) (h : AH), b_X12_keep_2 n x0 x1 h = some w → GG K (some (tI w.1), w.2) 0 0 2 [(0, tR x0), (1, tI x1)] [] h := by
  intro n
  induction n with
  | zero =>
    intro x0 x1 h hf
    cases (show none = some w from hf)
  | succ n ih =>
    intro x0 x1 h hf
    rw [b_X12_keep_2] at hf
    refine g_iload_n X dX12_keep_2 1 rfl ?_
    refine g_sipush (v := 2224) X dX12_keep_3 (by decide) ?_
    refine g_icmpge (tgt := 27) X hf dX12_keep_6 (by decide) (fun hf => ?_) (fun hf => ?_)
    · refine g_aload_n X dX12_keep_9 0 rfl ?_
      refine g_getR X hf (T := TX12) rfl (by decide) (by decide) in_RX12 tb_1136 rfl dX12_keep_10 (fun v1 hf => ?_)
      refine g_iload_n X dX12_keep_13 1 rfl ?_
      refine g_aload_n X dX12_keep_14 0 rfl ?_
      refine g_getR X hf (T := TX12) rfl (by decide) (by decide) in_RX12 tb_1135 rfl dX12_keep_15 (fun v2 hf => ?_)
      refine g_iload_n X dX12_keep_18 1 rfl ?_
      refine g_iaload X hf dX12_keep_19 (fun v3 hf => ?_)
      refine g_iastore X hf dX12_keep_20 (fun h4 hf => ?_)
      refine g_iinc (v := (x1 + 1)) (lv' := [(0, tR x0), (1, tI (x1 + 1))]) X dX12_keep_21 1 rfl (by rfl) (by decide) (in_pick [1, 0] rfl) ?_
      refine g_goto (tgt := 2) X dX12_keep_24 (by decide) ?_
      exact ih x0 (x1 + 1) h4 hf
    · refine g_aload_n X dX12_keep_27 0 rfl ?_
      refine g_iconst (v := 1) X dX12_keep_28 (by decide) ?_
      refine g_putZ X hf (T := TX12) rfl (by decide) (by decide) in_RX12 tyX12 tyX12_ok nmX12 tb_1137 rfl rfl rfl dX12_keep_29 (fun h5 hf => ?_)
      refine g_iconst (v := 1) X dX12_keep_32 (by decide) ?_
      exact g_ireturn X (zW hf) (by decide) (by decide) dX12_keep_33
def f_X12_keep  (a0 : Option Nat) (h : AH) : Option (Int32 × AH) :=
  b_X12_keep_2 FU a0 0 h
set_option maxRecDepth 20000 in
theorem m_X12_keep  {a0 : Option Nat} {h : AH} {w : (Int32 × AH)} (hf : f_X12_keep a0 h = some w) : CT yX12_keep (wU yX12_keep cX12_keep 2 (some .int)) (rmD 1 0 0) 0 0 [tR a0] h (some (tI w.1), w.2) := by
  refine CT.of (cc := cX12_keep) (nL := 2) (ret := (some .int)) (by decide) (by simp [lg_sl, vOf_cat, wOf]) ?_
  intro K X
  refine g_locs (lv' := [(0, tR a0)]) (fun q hq => hq) ?_
  unfold f_X12_keep at hf
  refine g_iconst (v := 0) X dX12_keep_0 (by decide) ?_
  refine g_istore_n (lv' := [(0, tR a0), (1, tI 0)]) X dX12_keep_1 (by decide) (in_pick [1, 0] rfl) ?_
  exact w_X12_keep_2 X FU a0 0 h hf
def b_X12_again_12    : Nat → Option Nat → Int32 → AH → Option (Int32 × AH)
  | 0 => fun _ _ _ => none
  | n + 1 => fun x0 x1 h =>
    if x1 < 2224 then
      (gR 12 0 h x0).bind fun v1 =>
      (gR 12 1 h x0).bind fun v2 =>
      (aI h v2 x1).bind fun v3 =>
      (sI h v1 x1 v3).bind fun h4 =>
      b_X12_again_12 n x0 (x1 + 1) h4
    else
      some (1, h)
set_option maxRecDepth 20000 in
theorem w_X12_again_12 {K : KT} {w : (Int32 × AH)}   (X : CX K cX12_again RX12 TB (some .int) "again" (rmD 1 0 0) 2 0 0)  : ∀ (n : Nat) (x0 : Option Nat) (x1 : Int32) (h : AH), b_X12_again_12 n x0 x1 h = some w → GG K (some (tI w.1), w.2) 0 0 12 [(0, tR x0), (1, tI x1)] [] h := by
  intro n
  induction n with
  | zero =>
    intro x0 x1 h hf
    cases (show none = some w from hf)
  | succ n ih =>
    intro x0 x1 h hf
    rw [b_X12_again_12] at hf
    refine g_iload_n X dX12_again_12 1 rfl ?_
    refine g_sipush (v := 2224) X dX12_again_13 (by decide) ?_
    refine g_icmpge (tgt := 37) X hf dX12_again_16 (by decide) (fun hf => ?_) (fun hf => ?_)
    · refine g_aload_n X dX12_again_19 0 rfl ?_
      refine g_getR X hf (T := TX12) rfl (by decide) (by decide) in_RX12 tb_1135 rfl dX12_again_20 (fun v1 hf => ?_)
      refine g_iload_n X dX12_again_23 1 rfl ?_
      refine g_aload_n X dX12_again_24 0 rfl ?_
      refine g_getR X hf (T := TX12) rfl (by decide) (by decide) in_RX12 tb_1136 rfl dX12_again_25 (fun v2 hf => ?_)
      refine g_iload_n X dX12_again_28 1 rfl ?_
      refine g_iaload X hf dX12_again_29 (fun v3 hf => ?_)
      refine g_iastore X hf dX12_again_30 (fun h4 hf => ?_)
      refine g_iinc (v := (x1 + 1)) (lv' := [(0, tR x0), (1, tI (x1 + 1))]) X dX12_again_31 1 rfl (by rfl) (by decide) (in_pick [1, 0] rfl) ?_
      refine g_goto (tgt := 12) X dX12_again_34 (by decide) ?_
      exact ih x0 (x1 + 1) h4 hf
    · refine g_iconst (v := 1) X dX12_again_37 (by decide) ?_
      exact g_ireturn X (zW hf) (by decide) (by decide) dX12_again_38
def f_X12_again  (a0 : Option Nat) (h : AH) : Option (Int32 × AH) :=
  (gI 12 2 h a0).bind fun v1 =>
  if v1 = 0 then
    some ((-3), h)
  else
    b_X12_again_12 FU a0 0 h
set_option maxRecDepth 20000 in
theorem m_X12_again  {a0 : Option Nat} {h : AH} {w : (Int32 × AH)} (hf : f_X12_again a0 h = some w) : CT yX12_again (wU yX12_again cX12_again 2 (some .int)) (rmD 1 0 0) 0 0 [tR a0] h (some (tI w.1), w.2) := by
  refine CT.of (cc := cX12_again) (nL := 2) (ret := (some .int)) (by decide) (by simp [lg_sl, vOf_cat, wOf]) ?_
  intro K X
  refine g_locs (lv' := [(0, tR a0)]) (fun q hq => hq) ?_
  unfold f_X12_again at hf
  refine g_aload_n X dX12_again_0 0 rfl ?_
  refine g_getI X hf (T := TX12) rfl (by decide) (by decide) in_RX12 tb_1137 rfl dX12_again_1 (fun v1 hf => ?_)
  refine g_ifne (tgt := 10) X hf dX12_again_4 (by decide) (fun hf => ?_) (fun hf => ?_)
  · refine g_bipush (v := (-3)) X dX12_again_7 (by decide) ?_
    exact g_ireturn X (zW hf) (by decide) (by decide) dX12_again_9
  · refine g_iconst (v := 0) X dX12_again_10 (by decide) ?_
    refine g_istore_n (lv' := [(0, tR a0), (1, tI 0)]) X dX12_again_11 (by decide) (in_pick [1, 0] rfl) ?_
    exact w_X12_again_12 X FU a0 0 h hf
