def f_X12_isWord  (a0 : Option Nat) (a1 : Int32) (h : AH) : Option Int32 :=
  (gI 12 17 h a0).bind fun v1 =>
  if v1 < 0 then
    (gI 12 15 h a0).bind fun v2 =>
    if v2 = 2 then
      (gI 12 16 h a0).bind fun v3 =>
      if v3 = a1 then
        some 1
      else
        some 0
    else
      some 0
  else
    some 0
set_option maxRecDepth 20000 in
theorem m_X12_isWord  {a0 : Option Nat} {a1 : Int32} {h : AH} {w : Int32} (hf : f_X12_isWord a0 a1 h = some w) : CT yX12_isWord (wU yX12_isWord cX12_isWord 2 (some .boolean)) (rmD 1 0 0) 0 0 [tR a0, tI a1] h (some (tI w), h) := by
  refine CT.of (cc := cX12_isWord) (nL := 2) (ret := (some .boolean)) (by decide) (by simp [lg_sl, vOf_cat, wOf]) ?_
  intro K X
  refine g_locs (lv' := [(0, tR a0), (1, tI a1)]) (fun q hq => hq) ?_
  unfold f_X12_isWord at hf
  refine g_aload_n X dX12_isWord_0 0 rfl ?_
  refine g_getI X hf (T := TX12) rfl (by decide) (by decide) in_RX12 tb_1152 rfl dX12_isWord_1 (fun v1 hf => ?_)
  refine g_ifge (tgt := 27) X hf dX12_isWord_4 (by decide) (fun hf => ?_) (fun hf => ?_)
  · refine g_aload_n X dX12_isWord_7 0 rfl ?_
    refine g_getI X hf (T := TX12) rfl (by decide) (by decide) in_RX12 tb_1150 rfl dX12_isWord_8 (fun v2 hf => ?_)
    refine g_iconst (v := 2) X dX12_isWord_11 (by decide) ?_
    refine g_icmpne (tgt := 27) X hf dX12_isWord_12 (by decide) (fun hf => ?_) (fun hf => ?_)
    · refine g_aload_n X dX12_isWord_15 0 rfl ?_
      refine g_getI X hf (T := TX12) rfl (by decide) (by decide) in_RX12 tb_1151 rfl dX12_isWord_16 (fun v3 hf => ?_)
      refine g_iload_n X dX12_isWord_19 1 rfl ?_
      refine g_icmpne (tgt := 27) X hf dX12_isWord_20 (by decide) (fun hf => ?_) (fun hf => ?_)
      · refine g_iconst (v := 1) X dX12_isWord_23 (by decide) ?_
        refine g_goto (tgt := 28) X dX12_isWord_24 (by decide) ?_
        exact g_zreturn X (zP hf) (by decide) (by decide) (by decide) dX12_isWord_28
      · refine g_iconst (v := 0) X dX12_isWord_27 (by decide) ?_
        exact g_zreturn X (zP hf) (by decide) (by decide) (by decide) dX12_isWord_28
    · refine g_iconst (v := 0) X dX12_isWord_27 (by decide) ?_
      exact g_zreturn X (zP hf) (by decide) (by decide) (by decide) dX12_isWord_28
  · refine g_iconst (v := 0) X dX12_isWord_27 (by decide) ?_
    exact g_zreturn X (zP hf) (by decide) (by decide) (by decide) dX12_isWord_28
def f_X12_factOf  (a0 : Int32) (a1 : Int32) (h : AH) : Option Int32 :=
  if a0 < 0 ∨ 2 < a0 then
    if a1 = 20 then
      some 0
    else
      if a1 = 4 then
        some 1
      else
        some (-1)
  else if a0 = 0 then
    (f_X12_in a1 8 14 h).bind fun v1 =>
    if v1 = 0 then
      some (-1)
    else
      some (a1 - 8)
  else if a0 = 1 then
    (f_X12_in a1 15 18 h).bind fun v2 =>
    if v2 = 0 then
      some (-1)
    else
      some (a1 - 15)
  else if a0 = 2 then
    if a1 = 19 then
      some 0
    else
      if a1 = 15 then
        some 1
      else
        some (-1)
  else none
set_option maxRecDepth 20000 in
theorem m_X12_factOf  {a0 : Int32} {a1 : Int32} {h : AH} {w : Int32} (hf : f_X12_factOf a0 a1 h = some w) : CT yX12_factOf (wU yX12_factOf cX12_factOf 2 (some .int)) (rmD 2 0 0) 0 0 [tI a0, tI a1] h (some (tI w), h) := by
  refine CT.of (cc := cX12_factOf) (nL := 2) (ret := (some .int)) (by decide) (by simp [lg_sl, vOf_cat, wOf]) ?_
  intro K X
  refine g_locs (lv' := [(0, tI a0), (1, tI a1)]) (fun q hq => hq) ?_
  unfold f_X12_factOf at hf
  refine g_iload_n X dX12_factOf_0 0 rfl ?_
  by_cases hsw : a0 < 0 ∨ 2 < a0
  · rw [if_pos hsw] at hf
    refine g_tabOut (tgt := 90) X dX12_factOf_1 (tab_out hsw) (by decide) ?_
    refine g_iload_n X dX12_factOf_90 1 rfl ?_
    refine g_bipush (v := 20) X dX12_factOf_91 (by decide) ?_
    refine g_icmpne (tgt := 100) X hf dX12_factOf_93 (by decide) (fun hf => ?_) (fun hf => ?_)
    · refine g_iconst (v := 0) X dX12_factOf_96 (by decide) ?_
      refine g_goto (tgt := 110) X dX12_factOf_97 (by decide) ?_
      exact g_ireturn X (zP hf) (by decide) (by decide) dX12_factOf_110
    · refine g_iload_n X dX12_factOf_100 1 rfl ?_
      refine g_iconst (v := 4) X dX12_factOf_101 (by decide) ?_
      refine g_icmpne (tgt := 109) X hf dX12_factOf_102 (by decide) (fun hf => ?_) (fun hf => ?_)
      · refine g_iconst (v := 1) X dX12_factOf_105 (by decide) ?_
        refine g_goto (tgt := 110) X dX12_factOf_106 (by decide) ?_
        exact g_ireturn X (zP hf) (by decide) (by decide) dX12_factOf_110
      · refine g_iconst (v := (-1)) X dX12_factOf_109 (by decide) ?_
        exact g_ireturn X (zP hf) (by decide) (by decide) dX12_factOf_110
  rw [if_neg hsw] at hf
  by_cases hs0 : a0 = 0
  · rw [if_pos hs0] at hf
    refine g_tabIn (off := 27) (tgt := 28) X 0 hs0 dX12_factOf_1 (by decide) (by decide) (by decide +kernel) (by decide) ?_
    refine g_iload_n X dX12_factOf_28 1 rfl ?_
    refine g_bipush (v := 8) X dX12_factOf_29 (by decide) ?_
    refine g_bipush (v := 14) X dX12_factOf_31 (by decide) ?_
    refine g_callS (n := 3) (av := [tI a1, tI 8, tI 14]) (rest := []) X hf (fun v1 => (some (tI v1), h)) (fun _ q => m_X12_in q) (gdS tb_1226 tb_1227 tb_12 tb_1228) rfl (by decide +kernel) rfl (by decide) (by decide) rfl (Nat.le_of_ble_eq_true rfl) dX12_factOf_33 (fun v1 hf => ?_)
    refine g_ifeq (tgt := 46) X hf dX12_factOf_36 (by decide) (fun hf => ?_) (fun hf => ?_)
    · refine g_iconst (v := (-1)) X dX12_factOf_46 (by decide) ?_
      exact g_ireturn X (zP hf) (by decide) (by decide) dX12_factOf_47
    · refine g_iload_n X dX12_factOf_39 1 rfl ?_
      refine g_bipush (v := 8) X dX12_factOf_40 (by decide) ?_
      refine g_isub X dX12_factOf_42 ?_
      refine g_goto (tgt := 47) X dX12_factOf_43 (by decide) ?_
      exact g_ireturn X (zP hf) (by decide) (by decide) dX12_factOf_47
  rw [if_neg hs0] at hf
  by_cases hs1 : a0 = 1
  · rw [if_pos hs1] at hf
    refine g_tabIn (off := 47) (tgt := 48) X 1 hs1 dX12_factOf_1 (by decide) (by decide) (by decide +kernel) (by decide) ?_
    refine g_iload_n X dX12_factOf_48 1 rfl ?_
    refine g_bipush (v := 15) X dX12_factOf_49 (by decide) ?_
    refine g_bipush (v := 18) X dX12_factOf_51 (by decide) ?_
    refine g_callS (n := 3) (av := [tI a1, tI 15, tI 18]) (rest := []) X hf (fun v2 => (some (tI v2), h)) (fun _ q => m_X12_in q) (gdS tb_1226 tb_1227 tb_12 tb_1228) rfl (by decide +kernel) rfl (by decide) (by decide) rfl (Nat.le_of_ble_eq_true rfl) dX12_factOf_53 (fun v2 hf => ?_)
    refine g_ifeq (tgt := 66) X hf dX12_factOf_56 (by decide) (fun hf => ?_) (fun hf => ?_)
    · refine g_iconst (v := (-1)) X dX12_factOf_66 (by decide) ?_
      exact g_ireturn X (zP hf) (by decide) (by decide) dX12_factOf_67
    · refine g_iload_n X dX12_factOf_59 1 rfl ?_
      refine g_bipush (v := 15) X dX12_factOf_60 (by decide) ?_
      refine g_isub X dX12_factOf_62 ?_
      refine g_goto (tgt := 67) X dX12_factOf_63 (by decide) ?_
      exact g_ireturn X (zP hf) (by decide) (by decide) dX12_factOf_67
  rw [if_neg hs1] at hf
  by_cases hs2 : a0 = 2
  · rw [if_pos hs2] at hf
    refine g_tabIn (off := 67) (tgt := 68) X 2 hs2 dX12_factOf_1 (by decide) (by decide) (by decide +kernel) (by decide) ?_
    refine g_iload_n X dX12_factOf_68 1 rfl ?_
    refine g_bipush (v := 19) X dX12_factOf_69 (by decide) ?_
    refine g_icmpne (tgt := 78) X hf dX12_factOf_71 (by decide) (fun hf => ?_) (fun hf => ?_)
    · refine g_iconst (v := 0) X dX12_factOf_74 (by decide) ?_
      refine g_goto (tgt := 89) X dX12_factOf_75 (by decide) ?_
      exact g_ireturn X (zP hf) (by decide) (by decide) dX12_factOf_89
    · refine g_iload_n X dX12_factOf_78 1 rfl ?_
      refine g_bipush (v := 15) X dX12_factOf_79 (by decide) ?_
      refine g_icmpne (tgt := 88) X hf dX12_factOf_81 (by decide) (fun hf => ?_) (fun hf => ?_)
      · refine g_iconst (v := 1) X dX12_factOf_84 (by decide) ?_
        refine g_goto (tgt := 89) X dX12_factOf_85 (by decide) ?_
        exact g_ireturn X (zP hf) (by decide) (by decide) dX12_factOf_89
      · refine g_iconst (v := (-1)) X dX12_factOf_88 (by decide) ?_
        exact g_ireturn X (zP hf) (by decide) (by decide) dX12_factOf_89
  rw [if_neg hs2] at hf
  cases hf
def b_X12_term_76   (x0 : Option Nat) (x2 : Int32) (h : AH) : Option (Int32 × AH) :=
  (ck 12 h x0 (f_X12_wrong x0 h)).bind fun h1 =>
  some (x2, h1)
set_option maxRecDepth 20000 in
theorem w_X12_term_76 {K : KT} {w : (Int32 × AH)}   (X : CX K cX12_term RX12 TB (some .int) "term" (rmD 4 0 0) 3 0 0)  (x0 : Option Nat) (x2 : Int32) (h : AH) (hf : b_X12_term_76 x0 x2 h = some w) : GG K (some (tI w.1), w.2) 0 0 76 [(0, tR x0), (2, tI x2)] [] h := by
  unfold b_X12_term_76 at hf
  refine g_aload_n X dX12_term_76 0 rfl ?_
  refine g_callV (n := 0) (av := []) (rest := []) (k := 12) X hf (fun h1 => (none, h1)) (fun _ q => m_X12_wrong q) (gdV tb_1391 tb_1392 tb_1709 tb_12 tb_1393) rfl (by decide +kernel) rfl (by decide) rfl (by decide) (by decide) rfl (Nat.le_of_ble_eq_true rfl) dX12_term_77 (fun h1 hf => ?_)
  refine g_iload_n X dX12_term_80 1 rfl ?_
  exact g_ireturn X (zW hf) (by decide) (by decide) dX12_term_81
def b_X12_term_29   (x0 : Option Nat) (x1 : Int32) (x2 : Int32) (h : AH) : Option (Int32 × AH) :=
  (gI 12 17 h x0).bind fun v1 =>
  if v1 < 0 then
    (gI 12 15 h x0).bind fun v2 =>
    if v2 = 2 then
      (gI 12 16 h x0).bind fun v3 =>
      (f_X12_factOf x1 v3 h).bind fun v4 =>
      if v4 < 0 then
        b_X12_term_76 x0 x2 h
      else
        (gR 12 8 h x0).bind fun v5 =>
        (gI 12 16 h x0).bind fun v6 =>
        (f_X12_factOf x1 v6 h).bind fun v7 =>
        (aI h v5 v7).bind fun v8 =>
        (ck 12 h x0 (f_X12_next x0 h)).bind fun h9 =>
        some (v8, h9)
    else
      b_X12_term_76 x0 x2 h
  else
    b_X12_term_76 x0 x2 h
set_option maxRecDepth 20000 in
theorem w_X12_term_29 {K : KT} {w : (Int32 × AH)}   (X : CX K cX12_term RX12 TB (some .int) "term" (rmD 4 0 0) 3 0 0)  (x0 : Option Nat) (x1 : Int32) (x2 : Int32) (h : AH) (hf : b_X12_term_29 x0 x1 x2 h = some w) : GG K (some (tI w.1), w.2) 0 0 29 [(0, tR x0), (1, tI x1), (2, tI x2)] [] h := by
  unfold b_X12_term_29 at hf
  refine g_aload_n X dX12_term_29 0 rfl ?_
  refine g_getI X hf (T := TX12) rfl (by decide) (by decide) in_RX12 tb_1152 rfl dX12_term_30 (fun v1 hf => ?_)
  refine g_ifge (tgt := 76) X hf dX12_term_33 (by decide) (fun hf => ?_) (fun hf => ?_)
  · refine g_aload_n X dX12_term_36 0 rfl ?_
    refine g_getI X hf (T := TX12) rfl (by decide) (by decide) in_RX12 tb_1150 rfl dX12_term_37 (fun v2 hf => ?_)
    refine g_iconst (v := 2) X dX12_term_40 (by decide) ?_
    refine g_icmpne (tgt := 76) X hf dX12_term_41 (by decide) (fun hf => ?_) (fun hf => ?_)
    · refine g_iload_n X dX12_term_44 1 rfl ?_
      refine g_aload_n X dX12_term_45 0 rfl ?_
      refine g_getI X hf (T := TX12) rfl (by decide) (by decide) in_RX12 tb_1151 rfl dX12_term_46 (fun v3 hf => ?_)
      refine g_callS (n := 2) (av := [tI x1, tI v3]) (rest := []) X hf (fun v4 => (some (tI v4), h)) (fun _ q => m_X12_factOf q) (gdS tb_1415 tb_1416 tb_12 tb_1417) rfl (by decide +kernel) rfl (by decide) (by decide) rfl (Nat.le_of_ble_eq_true rfl) dX12_term_49 (fun v4 hf => ?_)
      refine g_iflt (tgt := 76) X hf dX12_term_52 (by decide) (fun hf => ?_) (fun hf => ?_)
      · refine g_locs (lv' := [(0, tR x0), (2, tI x2)]) (in_pick [0, 2] rfl) ?_
        exact w_X12_term_76 X x0 x2 h hf
      · refine g_aload_n X dX12_term_55 0 rfl ?_
        refine g_getR X hf (T := TX12) rfl (by decide) (by decide) in_RX12 tb_1143 rfl dX12_term_56 (fun v5 hf => ?_)
        refine g_iload_n X dX12_term_59 1 rfl ?_
        refine g_aload_n X dX12_term_60 0 rfl ?_
        refine g_getI X hf (T := TX12) rfl (by decide) (by decide) in_RX12 tb_1151 rfl dX12_term_61 (fun v6 hf => ?_)
        refine g_callS (n := 2) (av := [tI x1, tI v6]) (rest := [tR v5]) X hf (fun v7 => (some (tI v7), h)) (fun _ q => m_X12_factOf q) (gdS tb_1415 tb_1416 tb_12 tb_1417) rfl (by decide +kernel) rfl (by decide) (by decide) rfl (Nat.le_of_ble_eq_true rfl) dX12_term_64 (fun v7 hf => ?_)
        refine g_iaload X hf dX12_term_67 (fun v8 hf => ?_)
        refine g_istore_n (lv' := [(0, tR x0), (1, tI x1), (2, tI v8)]) X dX12_term_68 (by decide) (in_pick [1, 2, 0] rfl) ?_
        refine g_aload_n X dX12_term_69 0 rfl ?_
        refine g_callV (n := 0) (av := []) (rest := []) (k := 12) X hf (fun h9 => (none, h9)) (fun _ q => m_X12_next q) (gdV tb_1381 tb_1382 tb_1706 tb_12 tb_1383) rfl (by decide +kernel) rfl (by decide) rfl (by decide) (by decide) rfl (Nat.le_of_ble_eq_true rfl) dX12_term_70 (fun h9 hf => ?_)
        refine g_goto (tgt := 80) X dX12_term_73 (by decide) ?_
        refine g_iload_n X dX12_term_80 2 rfl ?_
        exact g_ireturn X (zW hf) (by decide) (by decide) dX12_term_81
    · refine g_locs (lv' := [(0, tR x0), (2, tI x2)]) (in_pick [0, 2] rfl) ?_
      exact w_X12_term_76 X x0 x2 h hf
  · refine g_locs (lv' := [(0, tR x0), (2, tI x2)]) (in_pick [0, 2] rfl) ?_
    exact w_X12_term_76 X x0 x2 h hf
def f_X12_term  (a0 : Option Nat) (a1 : Int32) (h : AH) : Option (Int32 × AH) :=
  (gI 12 17 h a0).bind fun v1 =>
  if v1 < 0 then
    (gI 12 15 h a0).bind fun v2 =>
    if v2 = 3 then
      (gI 12 16 h a0).bind fun v3 =>
      (ck 12 h a0 (f_X12_next a0 h)).bind fun h4 =>
      some (v3, h4)
    else
      b_X12_term_29 a0 a1 0 h
  else
    b_X12_term_29 a0 a1 0 h
set_option maxRecDepth 20000 in
theorem m_X12_term  {a0 : Option Nat} {a1 : Int32} {h : AH} {w : (Int32 × AH)} (hf : f_X12_term a0 a1 h = some w) : CT yX12_term (wU yX12_term cX12_term 3 (some .int)) (rmD 4 0 0) 0 0 [tR a0, tI a1] h (some (tI w.1), w.2) := by
  refine CT.of (cc := cX12_term) (nL := 3) (ret := (some .int)) (by decide) (by simp [lg_sl, vOf_cat, wOf]) ?_
  intro K X
  refine g_locs (lv' := [(0, tR a0), (1, tI a1)]) (fun q hq => hq) ?_
  unfold f_X12_term at hf
  refine g_iconst (v := 0) X dX12_term_0 (by decide) ?_
  refine g_istore_n (lv' := [(0, tR a0), (1, tI a1), (2, tI 0)]) X dX12_term_1 (by decide) (in_pick [1, 2, 0] rfl) ?_
  refine g_aload_n X dX12_term_2 0 rfl ?_
  refine g_getI X hf (T := TX12) rfl (by decide) (by decide) in_RX12 tb_1152 rfl dX12_term_3 (fun v1 hf => ?_)
  refine g_ifge (tgt := 29) X hf dX12_term_6 (by decide) (fun hf => ?_) (fun hf => ?_)
  · refine g_aload_n X dX12_term_9 0 rfl ?_
    refine g_getI X hf (T := TX12) rfl (by decide) (by decide) in_RX12 tb_1150 rfl dX12_term_10 (fun v2 hf => ?_)
    refine g_iconst (v := 3) X dX12_term_13 (by decide) ?_
    refine g_icmpne (tgt := 29) X hf dX12_term_14 (by decide) (fun hf => ?_) (fun hf => ?_)
    · refine g_aload_n X dX12_term_17 0 rfl ?_
      refine g_getI X hf (T := TX12) rfl (by decide) (by decide) in_RX12 tb_1151 rfl dX12_term_18 (fun v3 hf => ?_)
      refine g_istore_n (lv' := [(0, tR a0), (1, tI a1), (2, tI v3)]) X dX12_term_21 (by decide) (in_pick [1, 2, 0] rfl) ?_
      refine g_aload_n X dX12_term_22 0 rfl ?_
      refine g_callV (n := 0) (av := []) (rest := []) (k := 12) X hf (fun h4 => (none, h4)) (fun _ q => m_X12_next q) (gdV tb_1381 tb_1382 tb_1706 tb_12 tb_1383) rfl (by decide +kernel) rfl (by decide) rfl (by decide) (by decide) rfl (Nat.le_of_ble_eq_true rfl) dX12_term_23 (fun h4 hf => ?_)
      refine g_goto (tgt := 80) X dX12_term_26 (by decide) ?_
      refine g_iload_n X dX12_term_80 2 rfl ?_
      exact g_ireturn X (zW hf) (by decide) (by decide) dX12_term_81
    · exact w_X12_term_29 X a0 a1 0 h hf
  · exact w_X12_term_29 X a0 a1 0 h hf
def b_X12_sum_45  (k6 : Option Nat → Int32 → Int32 → AH → Option (Int32 × AH)) (x0 : Option Nat) (x1 : Int32) (x2 : Int32) (s0 : Int32) (h : AH) : Option (Int32 × AH) :=
  (ck 12 h x0 (f_X12_next x0 h)).bind fun h1 =>
  (ck 12 h1 x0 (f_X12_term x0 x1 h1)).bind fun p2 =>
  if s0 = 0 then
    k6 x0 x1 (x2 - p2.1) p2.2
  else
    k6 x0 x1 (x2 + p2.1) p2.2
set_option maxRecDepth 20000 in
theorem w_X12_sum_45 {K : KT} {w : (Int32 × AH)} {k6 : Option Nat → Int32 → Int32 → AH → Option (Int32 × AH)}  (X : CX K cX12_sum RX12 TB (some .int) "sum" (rmD 5 0 0) 5 0 0) (hk6 : ∀ (x0 : Option Nat) (x1 : Int32) (x2 : Int32) (h : AH), k6 x0 x1 x2 h = some w → GG K (some (tI w.1), w.2) 0 0 6 [(0, tR x0), (1, tI x1), (2, tI x2)] [] h) (x0 : Option Nat) (x1 : Int32) (x2 : Int32) (s0 : Int32) (h : AH) (hf : b_X12_sum_45 k6 x0 x1 x2 s0 h = some w) : GG K (some (tI w.1), w.2) 0 0 45 [(0, tR x0), (1, tI x1), (2, tI x2)] [tI s0] h := by
  unfold b_X12_sum_45 at hf
  refine g_istore_n (lv' := [(0, tR x0), (1, tI x1), (2, tI x2), (3, tI s0)]) X dX12_sum_45 (by decide) (in_pick [1, 2, 3, 0] rfl) ?_
  refine g_aload_n X dX12_sum_46 0 rfl ?_
  refine g_callV (n := 0) (av := []) (rest := []) (k := 12) X hf (fun h1 => (none, h1)) (fun _ q => m_X12_next q) (gdV tb_1381 tb_1382 tb_1706 tb_12 tb_1383) rfl (by decide +kernel) rfl (by decide) rfl (by decide) (by decide) rfl (Nat.le_of_ble_eq_true rfl) dX12_sum_47 (fun h1 hf => ?_)
  refine g_aload_n X dX12_sum_50 0 rfl ?_
  refine g_iload_n X dX12_sum_51 1 rfl ?_
  refine g_callV (n := 1) (av := [tI x1]) (rest := []) (k := 12) X hf (fun p2 => (some (tI p2.1), p2.2)) (fun _ q => m_X12_term q) (gdV tb_1412 tb_1413 tb_1716 tb_12 tb_1414) rfl (by decide +kernel) rfl (by decide) rfl (by decide) (by decide) rfl (Nat.le_of_ble_eq_true rfl) dX12_sum_52 (fun p2 hf => ?_)
  refine g_istore (lv' := [(0, tR x0), (1, tI x1), (2, tI x2), (3, tI s0), (4, tI p2.1)]) X dX12_sum_55 (by decide) (in_pick [1, 2, 3, 4, 0] rfl) ?_
  refine g_iload_n X dX12_sum_57 3 rfl ?_
  refine g_ifeq (tgt := 68) X hf dX12_sum_58 (by decide) (fun hf => ?_) (fun hf => ?_)
  · refine g_iload_n X dX12_sum_68 2 rfl ?_
    refine g_iload X dX12_sum_69 4 rfl ?_
    refine g_isub X dX12_sum_71 ?_
    refine g_istore_n (lv' := [(0, tR x0), (1, tI x1), (2, tI (x2 - p2.1)), (3, tI s0), (4, tI p2.1)]) X dX12_sum_72 (by decide) (in_pick [1, 2, 0, 3, 4] rfl) ?_
    refine g_goto (tgt := 6) X dX12_sum_73 (by decide) ?_
    refine g_locs (lv' := [(0, tR x0), (1, tI x1), (2, tI (x2 - p2.1))]) (in_pick [0, 1, 2] rfl) ?_
    exact hk6 x0 x1 (x2 - p2.1) p2.2 hf
  · refine g_iload_n X dX12_sum_61 2 rfl ?_
    refine g_iload X dX12_sum_62 4 rfl ?_
    refine g_iadd X dX12_sum_64 ?_
    refine g_goto (tgt := 72) X dX12_sum_65 (by decide) ?_
    refine g_istore_n (lv' := [(0, tR x0), (1, tI x1), (2, tI (x2 + p2.1)), (3, tI s0), (4, tI p2.1)]) X dX12_sum_72 (by decide) (in_pick [1, 2, 0, 3, 4] rfl) ?_
    refine g_goto (tgt := 6) X dX12_sum_73 (by decide) ?_
    refine g_locs (lv' := [(0, tR x0), (1, tI x1), (2, tI (x2 + p2.1))]) (in_pick [0, 1, 2] rfl) ?_
    exact hk6 x0 x1 (x2 + p2.1) p2.2 hf
def b_X12_sum_31  (k6 : Option Nat → Int32 → Int32 → AH → Option (Int32 × AH)) (x0 : Option Nat) (x1 : Int32) (x2 : Int32) (h : AH) : Option (Int32 × AH) :=
  (gI 12 15 h x0).bind fun v1 =>
  if v1 = 43 then
    b_X12_sum_45 k6 x0 x1 x2 1 h
  else
    b_X12_sum_45 k6 x0 x1 x2 0 h
set_option maxRecDepth 20000 in
theorem w_X12_sum_31 {K : KT} {w : (Int32 × AH)} {k6 : Option Nat → Int32 → Int32 → AH → Option (Int32 × AH)}  (X : CX K cX12_sum RX12 TB (some .int) "sum" (rmD 5 0 0) 5 0 0) (hk6 : ∀ (x0 : Option Nat) (x1 : Int32) (x2 : Int32) (h : AH), k6 x0 x1 x2 h = some w → GG K (some (tI w.1), w.2) 0 0 6 [(0, tR x0), (1, tI x1), (2, tI x2)] [] h) (x0 : Option Nat) (x1 : Int32) (x2 : Int32) (h : AH) (hf : b_X12_sum_31 k6 x0 x1 x2 h = some w) : GG K (some (tI w.1), w.2) 0 0 31 [(0, tR x0), (1, tI x1), (2, tI x2)] [] h := by
  unfold b_X12_sum_31 at hf
  refine g_aload_n X dX12_sum_31 0 rfl ?_
  refine g_getI X hf (T := TX12) rfl (by decide) (by decide) in_RX12 tb_1150 rfl dX12_sum_32 (fun v1 hf => ?_)
  refine g_bipush (v := 43) X dX12_sum_35 (by decide) ?_
  refine g_icmpne (tgt := 44) X hf dX12_sum_37 (by decide) (fun hf => ?_) (fun hf => ?_)
  · refine g_iconst (v := 1) X dX12_sum_40 (by decide) ?_
    refine g_goto (tgt := 45) X dX12_sum_41 (by decide) ?_
    exact w_X12_sum_45 X hk6 x0 x1 x2 1 h hf
  · refine g_iconst (v := 0) X dX12_sum_44 (by decide) ?_
    exact w_X12_sum_45 X hk6 x0 x1 x2 0 h hf
def b_X12_sum_6    : Nat → Option Nat → Int32 → Int32 → AH → Option (Int32 × AH)
  | 0 => fun _ _ _ _ => none
  | n + 1 => fun x0 x1 x2 h =>
    (gI 12 17 h x0).bind fun v1 =>
    if v1 < 0 then
      (gI 12 15 h x0).bind fun v2 =>
      if v2 = 43 then
        b_X12_sum_31 (b_X12_sum_6 n) x0 x1 x2 h
      else
        (gI 12 15 h x0).bind fun v3 =>
        if v3 = 45 then
          b_X12_sum_31 (b_X12_sum_6 n) x0 x1 x2 h
        else
          some (x2, h)
    else
      some (x2, h)
set_option maxRecDepth 20000 in
theorem w_X12_sum_6 {K : KT} {w : (Int32 × AH)}   (X : CX K cX12_sum RX12 TB (some .int) "sum" (rmD 5 0 0) 5 0 0)  : ∀ (n : Nat) (x0 : Option Nat) (x1 : Int32) (x2 : Int32) (h : AH), b_X12_sum_6 n x0 x1 x2 h = some w → GG K (some (tI w.1), w.2) 0 0 6 [(0, tR x0), (1, tI x1), (2, tI x2)] [] h := by
  intro n
  induction n with
  | zero =>
    intro x0 x1 x2 h hf
    cases (show none = some w from hf)
  | succ n ih =>
    intro x0 x1 x2 h hf
    rw [b_X12_sum_6] at hf
    refine g_aload_n X dX12_sum_6 0 rfl ?_
    refine g_getI X hf (T := TX12) rfl (by decide) (by decide) in_RX12 tb_1152 rfl dX12_sum_7 (fun v1 hf => ?_)
    refine g_ifge (tgt := 76) X hf dX12_sum_10 (by decide) (fun hf => ?_) (fun hf => ?_)
    · refine g_aload_n X dX12_sum_13 0 rfl ?_
      refine g_getI X hf (T := TX12) rfl (by decide) (by decide) in_RX12 tb_1150 rfl dX12_sum_14 (fun v2 hf => ?_)
      refine g_bipush (v := 43) X dX12_sum_17 (by decide) ?_
      refine g_icmpeq (tgt := 31) X hf dX12_sum_19 (by decide) (fun hf => ?_) (fun hf => ?_)
      · exact w_X12_sum_31 X ih x0 x1 x2 h hf
      · refine g_aload_n X dX12_sum_22 0 rfl ?_
        refine g_getI X hf (T := TX12) rfl (by decide) (by decide) in_RX12 tb_1150 rfl dX12_sum_23 (fun v3 hf => ?_)
        refine g_bipush (v := 45) X dX12_sum_26 (by decide) ?_
        refine g_icmpne (tgt := 76) X hf dX12_sum_28 (by decide) (fun hf => ?_) (fun hf => ?_)
        · exact w_X12_sum_31 X ih x0 x1 x2 h hf
        · refine g_iload_n X dX12_sum_76 2 rfl ?_
          exact g_ireturn X (zW hf) (by decide) (by decide) dX12_sum_77
    · refine g_iload_n X dX12_sum_76 2 rfl ?_
      exact g_ireturn X (zW hf) (by decide) (by decide) dX12_sum_77
def f_X12_sum  (a0 : Option Nat) (a1 : Int32) (h : AH) : Option (Int32 × AH) :=
  (ck 12 h a0 (f_X12_term a0 a1 h)).bind fun p1 =>
  b_X12_sum_6 FU a0 a1 p1.1 p1.2
set_option maxRecDepth 20000 in
theorem m_X12_sum  {a0 : Option Nat} {a1 : Int32} {h : AH} {w : (Int32 × AH)} (hf : f_X12_sum a0 a1 h = some w) : CT yX12_sum (wU yX12_sum cX12_sum 5 (some .int)) (rmD 5 0 0) 0 0 [tR a0, tI a1] h (some (tI w.1), w.2) := by
  refine CT.of (cc := cX12_sum) (nL := 5) (ret := (some .int)) (by decide) (by simp [lg_sl, vOf_cat, wOf]) ?_
  intro K X
  refine g_locs (lv' := [(0, tR a0), (1, tI a1)]) (fun q hq => hq) ?_
  unfold f_X12_sum at hf
  refine g_aload_n X dX12_sum_0 0 rfl ?_
  refine g_iload_n X dX12_sum_1 1 rfl ?_
  refine g_callV (n := 1) (av := [tI a1]) (rest := []) (k := 12) X hf (fun p1 => (some (tI p1.1), p1.2)) (fun _ q => m_X12_term q) (gdV tb_1412 tb_1413 tb_1716 tb_12 tb_1414) rfl (by decide +kernel) rfl (by decide) rfl (by decide) (by decide) rfl (Nat.le_of_ble_eq_true rfl) dX12_sum_2 (fun p1 hf => ?_)
  refine g_istore_n (lv' := [(0, tR a0), (1, tI a1), (2, tI p1.1)]) X dX12_sum_5 (by decide) (in_pick [1, 2, 0] rfl) ?_
  exact w_X12_sum_6 X FU a0 a1 p1.1 p1.2 hf
def b_X12_single_261 (kr : Option Nat → Int32 → AH → Option (Int32 × AH))  (x2 : Int32) (x3 : Int32) (h : AH) : Option (Int32 × AH) :=
  if x3 = x2 then
    some (0, h)
  else
    some (1, h)
set_option maxRecDepth 20000 in
theorem w_X12_single_261 {K : KT} {w : (Int32 × AH)}  {dd : Nat} {kr : Option Nat → Int32 → AH → Option (Int32 × AH)} (hdd : 5 ≤ dd) (hkr : ∀ {b0 : Option Nat} {b1 : Int32} {h : AH} {v : (Int32 × AH)}, kr b0 b1 h = some v → CT yX12_cond (wU yX12_cond cX12_cond 4 (some .boolean)) (rmD dd 0 0) 0 0 [tR b0, tI b1] h (some (tI v.1), v.2)) (X : CX K cX12_single RX12 TB (some .boolean) "single" (rmD (dd + 1) 0 0) 7 0 0)  (x2 : Int32) (x3 : Int32) (h : AH) (hf : b_X12_single_261 kr x2 x3 h = some w) : GG K (some (tI w.1), w.2) 0 0 261 [(2, tI x2), (3, tI x3)] [] h := by
  unfold b_X12_single_261 at hf
  refine g_iload_n X dX12_single_261 1 rfl ?_
  refine g_iload_n X dX12_single_262 0 rfl ?_
  refine g_icmpeq (tgt := 270) X hf dX12_single_263 (by decide) (fun hf => ?_) (fun hf => ?_)
  · refine g_iconst (v := 0) X dX12_single_270 (by decide) ?_
    exact g_zreturn X (zW hf) (by decide) (by decide) (by decide) dX12_single_271
  · refine g_iconst (v := 1) X dX12_single_266 (by decide) ?_
    refine g_goto (tgt := 271) X dX12_single_267 (by decide) ?_
    exact g_zreturn X (zW hf) (by decide) (by decide) (by decide) dX12_single_271
def b_X12_single_250 (kr : Option Nat → Int32 → AH → Option (Int32 × AH))  (x2 : Int32) (x4 : Int32) (h : AH) : Option (Int32 × AH) :=
  if x4 = 0 then
    b_X12_single_261 kr x2 0 h
  else
    b_X12_single_261 kr x2 1 h
set_option maxRecDepth 20000 in
theorem w_X12_single_250 {K : KT} {w : (Int32 × AH)}  {dd : Nat} {kr : Option Nat → Int32 → AH → Option (Int32 × AH)} (hdd : 5 ≤ dd) (hkr : ∀ {b0 : Option Nat} {b1 : Int32} {h : AH} {v : (Int32 × AH)}, kr b0 b1 h = some v → CT yX12_cond (wU yX12_cond cX12_cond 4 (some .boolean)) (rmD dd 0 0) 0 0 [tR b0, tI b1] h (some (tI v.1), v.2)) (X : CX K cX12_single RX12 TB (some .boolean) "single" (rmD (dd + 1) 0 0) 7 0 0)  (x2 : Int32) (x4 : Int32) (h : AH) (hf : b_X12_single_250 kr x2 x4 h = some w) : GG K (some (tI w.1), w.2) 0 0 250 [(2, tI x2), (4, tI x4)] [] h := by
  unfold b_X12_single_250 at hf
  refine g_iload X dX12_single_250 1 rfl ?_
  refine g_ifeq (tgt := 259) X hf dX12_single_252 (by decide) (fun hf => ?_) (fun hf => ?_)
  · refine g_iconst (v := 0) X dX12_single_259 (by decide) ?_
    refine g_istore_n (lv' := [(2, tI x2), (3, tI 0), (4, tI x4)]) X dX12_single_260 (by decide) (in_pick [1, 0, 2] rfl) ?_
    refine g_locs (lv' := [(2, tI x2), (3, tI 0)]) (in_pick [0, 1] rfl) ?_
    exact w_X12_single_261 hdd hkr X x2 0 h hf
  · refine g_iconst (v := 1) X dX12_single_255 (by decide) ?_
    refine g_goto (tgt := 260) X dX12_single_256 (by decide) ?_
    refine g_istore_n (lv' := [(2, tI x2), (3, tI 1), (4, tI x4)]) X dX12_single_260 (by decide) (in_pick [1, 0, 2] rfl) ?_
    refine g_locs (lv' := [(2, tI x2), (3, tI 1)]) (in_pick [0, 1] rfl) ?_
    exact w_X12_single_261 hdd hkr X x2 1 h hf
def b_X12_single_173 (kr : Option Nat → Int32 → AH → Option (Int32 × AH))  (x0 : Option Nat) (x1 : Int32) (x2 : Int32) (x4 : Int32) (h : AH) : Option (Int32 × AH) :=
  (gI 12 15 h x0).bind fun v1 =>
  (ck 12 h x0 (f_X12_next x0 h)).bind fun h2 =>
  (ck 12 h2 x0 (f_X12_sum x0 x1 h2)).bind fun p3 =>
  if v1 = 60 then
    if x4 < p3.1 then
      b_X12_single_261 kr x2 1 p3.2
    else
      b_X12_single_261 kr x2 0 p3.2
  else
    if v1 = 61 then
      if x4 = p3.1 then
        b_X12_single_261 kr x2 1 p3.2
      else
        b_X12_single_261 kr x2 0 p3.2
    else
      if p3.1 < x4 then
        b_X12_single_261 kr x2 1 p3.2
      else
        b_X12_single_261 kr x2 0 p3.2
set_option maxRecDepth 20000 in
theorem w_X12_single_173 {K : KT} {w : (Int32 × AH)}  {dd : Nat} {kr : Option Nat → Int32 → AH → Option (Int32 × AH)} (hdd : 5 ≤ dd) (hkr : ∀ {b0 : Option Nat} {b1 : Int32} {h : AH} {v : (Int32 × AH)}, kr b0 b1 h = some v → CT yX12_cond (wU yX12_cond cX12_cond 4 (some .boolean)) (rmD dd 0 0) 0 0 [tR b0, tI b1] h (some (tI v.1), v.2)) (X : CX K cX12_single RX12 TB (some .boolean) "single" (rmD (dd + 1) 0 0) 7 0 0)  (x0 : Option Nat) (x1 : Int32) (x2 : Int32) (x4 : Int32) (h : AH) (hf : b_X12_single_173 kr x0 x1 x2 x4 h = some w) : GG K (some (tI w.1), w.2) 0 0 173 [(0, tR x0), (1, tI x1), (2, tI x2), (4, tI x4)] [] h := by
  unfold b_X12_single_173 at hf
  refine g_aload_n X dX12_single_173 0 rfl ?_
  refine g_getI X hf (T := TX12) rfl (by decide) (by decide) in_RX12 tb_1150 rfl dX12_single_174 (fun v1 hf => ?_)
  refine g_istore (lv' := [(0, tR x0), (1, tI x1), (2, tI x2), (4, tI x4), (5, tI v1)]) X dX12_single_177 (by decide) (in_pick [1, 2, 3, 4, 0] rfl) ?_
  refine g_aload_n X dX12_single_179 0 rfl ?_
  refine g_callV (n := 0) (av := []) (rest := []) (k := 12) X hf (fun h2 => (none, h2)) (fun _ q => m_X12_next q) (gdV tb_1381 tb_1382 tb_1706 tb_12 tb_1383) rfl (by decide +kernel) rfl (by decide) rfl (by constructor <;> simp only [rmD] <;> omega) ⟨Nat.zero_le _, Nat.zero_le _⟩ rfl (Nat.le_of_ble_eq_true rfl) dX12_single_180 (fun h2 hf => ?_)
  refine g_aload_n X dX12_single_183 0 rfl ?_
  refine g_iload_n X dX12_single_184 1 rfl ?_
  refine g_callV (n := 1) (av := [tI x1]) (rest := []) (k := 12) X hf (fun p3 => (some (tI p3.1), p3.2)) (fun _ q => m_X12_sum q) (gdV tb_1409 tb_1410 tb_1715 tb_12 tb_1411) rfl (by decide +kernel) rfl (by decide) rfl (by constructor <;> simp only [rmD] <;> omega) ⟨Nat.zero_le _, Nat.zero_le _⟩ rfl (Nat.le_of_ble_eq_true rfl) dX12_single_185 (fun p3 hf => ?_)
  refine g_istore (lv' := [(0, tR x0), (1, tI x1), (2, tI x2), (4, tI x4), (5, tI v1), (6, tI p3.1)]) X dX12_single_188 (by decide) (in_pick [1, 2, 3, 4, 5, 0] rfl) ?_
  refine g_iload X dX12_single_190 4 rfl ?_
  refine g_bipush (v := 60) X dX12_single_192 (by decide) ?_
  refine g_icmpne (tgt := 212) X hf dX12_single_194 (by decide) (fun hf => ?_) (fun hf => ?_)
  · refine g_iload X dX12_single_197 3 rfl ?_
    refine g_iload X dX12_single_199 5 rfl ?_
    refine g_icmpge (tgt := 208) X hf dX12_single_201 (by decide) (fun hf => ?_) (fun hf => ?_)
    · refine g_iconst (v := 1) X dX12_single_204 (by decide) ?_
      refine g_goto (tgt := 246) X dX12_single_205 (by decide) ?_
      refine g_istore_n (lv' := [(0, tR x0), (1, tI x1), (2, tI x2), (3, tI 1), (4, tI x4), (5, tI v1), (6, tI p3.1)]) X dX12_single_246 (by decide) (in_pick [1, 2, 3, 0, 4, 5, 6] rfl) ?_
      refine g_goto (tgt := 261) X dX12_single_247 (by decide) ?_
      refine g_locs (lv' := [(2, tI x2), (3, tI 1)]) (in_pick [2, 3] rfl) ?_
      exact w_X12_single_261 hdd hkr X x2 1 p3.2 hf
    · refine g_iconst (v := 0) X dX12_single_208 (by decide) ?_
      refine g_goto (tgt := 246) X dX12_single_209 (by decide) ?_
      refine g_istore_n (lv' := [(0, tR x0), (1, tI x1), (2, tI x2), (3, tI 0), (4, tI x4), (5, tI v1), (6, tI p3.1)]) X dX12_single_246 (by decide) (in_pick [1, 2, 3, 0, 4, 5, 6] rfl) ?_
      refine g_goto (tgt := 261) X dX12_single_247 (by decide) ?_
      refine g_locs (lv' := [(2, tI x2), (3, tI 0)]) (in_pick [2, 3] rfl) ?_
      exact w_X12_single_261 hdd hkr X x2 0 p3.2 hf
  · refine g_iload X dX12_single_212 4 rfl ?_
    refine g_bipush (v := 61) X dX12_single_214 (by decide) ?_
    refine g_icmpne (tgt := 234) X hf dX12_single_216 (by decide) (fun hf => ?_) (fun hf => ?_)
    · refine g_iload X dX12_single_219 3 rfl ?_
      refine g_iload X dX12_single_221 5 rfl ?_
      refine g_icmpne (tgt := 230) X hf dX12_single_223 (by decide) (fun hf => ?_) (fun hf => ?_)
      · refine g_iconst (v := 1) X dX12_single_226 (by decide) ?_
        refine g_goto (tgt := 246) X dX12_single_227 (by decide) ?_
        refine g_istore_n (lv' := [(0, tR x0), (1, tI x1), (2, tI x2), (3, tI 1), (4, tI x4), (5, tI v1), (6, tI p3.1)]) X dX12_single_246 (by decide) (in_pick [1, 2, 3, 0, 4, 5, 6] rfl) ?_
        refine g_goto (tgt := 261) X dX12_single_247 (by decide) ?_
        refine g_locs (lv' := [(2, tI x2), (3, tI 1)]) (in_pick [2, 3] rfl) ?_
        exact w_X12_single_261 hdd hkr X x2 1 p3.2 hf
      · refine g_iconst (v := 0) X dX12_single_230 (by decide) ?_
        refine g_goto (tgt := 246) X dX12_single_231 (by decide) ?_
        refine g_istore_n (lv' := [(0, tR x0), (1, tI x1), (2, tI x2), (3, tI 0), (4, tI x4), (5, tI v1), (6, tI p3.1)]) X dX12_single_246 (by decide) (in_pick [1, 2, 3, 0, 4, 5, 6] rfl) ?_
        refine g_goto (tgt := 261) X dX12_single_247 (by decide) ?_
        refine g_locs (lv' := [(2, tI x2), (3, tI 0)]) (in_pick [2, 3] rfl) ?_
        exact w_X12_single_261 hdd hkr X x2 0 p3.2 hf
    · refine g_iload X dX12_single_234 3 rfl ?_
      refine g_iload X dX12_single_236 5 rfl ?_
      refine g_icmple (tgt := 245) X hf dX12_single_238 (by decide) (fun hf => ?_) (fun hf => ?_)
      · refine g_iconst (v := 1) X dX12_single_241 (by decide) ?_
        refine g_goto (tgt := 246) X dX12_single_242 (by decide) ?_
        refine g_istore_n (lv' := [(0, tR x0), (1, tI x1), (2, tI x2), (3, tI 1), (4, tI x4), (5, tI v1), (6, tI p3.1)]) X dX12_single_246 (by decide) (in_pick [1, 2, 3, 0, 4, 5, 6] rfl) ?_
        refine g_goto (tgt := 261) X dX12_single_247 (by decide) ?_
        refine g_locs (lv' := [(2, tI x2), (3, tI 1)]) (in_pick [2, 3] rfl) ?_
        exact w_X12_single_261 hdd hkr X x2 1 p3.2 hf
      · refine g_iconst (v := 0) X dX12_single_245 (by decide) ?_
        refine g_istore_n (lv' := [(0, tR x0), (1, tI x1), (2, tI x2), (3, tI 0), (4, tI x4), (5, tI v1), (6, tI p3.1)]) X dX12_single_246 (by decide) (in_pick [1, 2, 3, 0, 4, 5, 6] rfl) ?_
        refine g_goto (tgt := 261) X dX12_single_247 (by decide) ?_
        refine g_locs (lv' := [(2, tI x2), (3, tI 0)]) (in_pick [2, 3] rfl) ?_
        exact w_X12_single_261 hdd hkr X x2 0 p3.2 hf
def b_X12_single_132 (kr : Option Nat → Int32 → AH → Option (Int32 × AH))  (x0 : Option Nat) (x1 : Int32) (x2 : Int32) (h : AH) : Option (Int32 × AH) :=
  (ck 12 h x0 (f_X12_sum x0 x1 h)).bind fun p1 =>
  (gI 12 17 p1.2 x0).bind fun v2 =>
  if v2 < 0 then
    (gI 12 15 p1.2 x0).bind fun v3 =>
    if v3 = 60 then
      b_X12_single_173 kr x0 x1 x2 p1.1 p1.2
    else
      (gI 12 15 p1.2 x0).bind fun v4 =>
      if v4 = 61 then
        b_X12_single_173 kr x0 x1 x2 p1.1 p1.2
      else
        (gI 12 15 p1.2 x0).bind fun v5 =>
        if v5 = 62 then
          b_X12_single_173 kr x0 x1 x2 p1.1 p1.2
        else
          b_X12_single_250 kr x2 p1.1 p1.2
  else
    b_X12_single_250 kr x2 p1.1 p1.2
set_option maxRecDepth 20000 in
theorem w_X12_single_132 {K : KT} {w : (Int32 × AH)}  {dd : Nat} {kr : Option Nat → Int32 → AH → Option (Int32 × AH)} (hdd : 5 ≤ dd) (hkr : ∀ {b0 : Option Nat} {b1 : Int32} {h : AH} {v : (Int32 × AH)}, kr b0 b1 h = some v → CT yX12_cond (wU yX12_cond cX12_cond 4 (some .boolean)) (rmD dd 0 0) 0 0 [tR b0, tI b1] h (some (tI v.1), v.2)) (X : CX K cX12_single RX12 TB (some .boolean) "single" (rmD (dd + 1) 0 0) 7 0 0)  (x0 : Option Nat) (x1 : Int32) (x2 : Int32) (h : AH) (hf : b_X12_single_132 kr x0 x1 x2 h = some w) : GG K (some (tI w.1), w.2) 0 0 132 [(0, tR x0), (1, tI x1), (2, tI x2)] [] h := by
  unfold b_X12_single_132 at hf
  refine g_aload_n X dX12_single_132 0 rfl ?_
  refine g_iload_n X dX12_single_133 1 rfl ?_
  refine g_callV (n := 1) (av := [tI x1]) (rest := []) (k := 12) X hf (fun p1 => (some (tI p1.1), p1.2)) (fun _ q => m_X12_sum q) (gdV tb_1409 tb_1410 tb_1715 tb_12 tb_1411) rfl (by decide +kernel) rfl (by decide) rfl (by constructor <;> simp only [rmD] <;> omega) ⟨Nat.zero_le _, Nat.zero_le _⟩ rfl (Nat.le_of_ble_eq_true rfl) dX12_single_134 (fun p1 hf => ?_)
  refine g_istore (lv' := [(0, tR x0), (1, tI x1), (2, tI x2), (4, tI p1.1)]) X dX12_single_137 (by decide) (in_pick [1, 2, 3, 0] rfl) ?_
  refine g_aload_n X dX12_single_139 0 rfl ?_
  refine g_getI X hf (T := TX12) rfl (by decide) (by decide) in_RX12 tb_1152 rfl dX12_single_140 (fun v2 hf => ?_)
  refine g_ifge (tgt := 250) X hf dX12_single_143 (by decide) (fun hf => ?_) (fun hf => ?_)
  · refine g_aload_n X dX12_single_146 0 rfl ?_
    refine g_getI X hf (T := TX12) rfl (by decide) (by decide) in_RX12 tb_1150 rfl dX12_single_147 (fun v3 hf => ?_)
    refine g_bipush (v := 60) X dX12_single_150 (by decide) ?_
    refine g_icmpeq (tgt := 173) X hf dX12_single_152 (by decide) (fun hf => ?_) (fun hf => ?_)
    · exact w_X12_single_173 hdd hkr X x0 x1 x2 p1.1 p1.2 hf
    · refine g_aload_n X dX12_single_155 0 rfl ?_
      refine g_getI X hf (T := TX12) rfl (by decide) (by decide) in_RX12 tb_1150 rfl dX12_single_156 (fun v4 hf => ?_)
      refine g_bipush (v := 61) X dX12_single_159 (by decide) ?_
      refine g_icmpeq (tgt := 173) X hf dX12_single_161 (by decide) (fun hf => ?_) (fun hf => ?_)
      · exact w_X12_single_173 hdd hkr X x0 x1 x2 p1.1 p1.2 hf
      · refine g_aload_n X dX12_single_164 0 rfl ?_
        refine g_getI X hf (T := TX12) rfl (by decide) (by decide) in_RX12 tb_1150 rfl dX12_single_165 (fun v5 hf => ?_)
        refine g_bipush (v := 62) X dX12_single_168 (by decide) ?_
        refine g_icmpne (tgt := 250) X hf dX12_single_170 (by decide) (fun hf => ?_) (fun hf => ?_)
        · exact w_X12_single_173 hdd hkr X x0 x1 x2 p1.1 p1.2 hf
        · refine g_locs (lv' := [(2, tI x2), (4, tI p1.1)]) (in_pick [2, 3] rfl) ?_
          exact w_X12_single_250 hdd hkr X x2 p1.1 p1.2 hf
  · refine g_locs (lv' := [(2, tI x2), (4, tI p1.1)]) (in_pick [2, 3] rfl) ?_
    exact w_X12_single_250 hdd hkr X x2 p1.1 p1.2 hf
def b_X12_single_111 (kr : Option Nat → Int32 → AH → Option (Int32 × AH))  (x0 : Option Nat) (x2 : Int32) (x3 : Int32) (h : AH) : Option (Int32 × AH) :=
  (gI 12 18 h x0).bind fun v1 =>
  (pI 12 18 h x0 (v1 - 1)).bind fun h2 =>
  if x3 = x2 then
    some (0, h2)
  else
    some (1, h2)
set_option maxRecDepth 20000 in
theorem w_X12_single_111 {K : KT} {w : (Int32 × AH)}  {dd : Nat} {kr : Option Nat → Int32 → AH → Option (Int32 × AH)} (hdd : 5 ≤ dd) (hkr : ∀ {b0 : Option Nat} {b1 : Int32} {h : AH} {v : (Int32 × AH)}, kr b0 b1 h = some v → CT yX12_cond (wU yX12_cond cX12_cond 4 (some .boolean)) (rmD dd 0 0) 0 0 [tR b0, tI b1] h (some (tI v.1), v.2)) (X : CX K cX12_single RX12 TB (some .boolean) "single" (rmD (dd + 1) 0 0) 7 0 0)  (x0 : Option Nat) (x2 : Int32) (x3 : Int32) (h : AH) (hf : b_X12_single_111 kr x0 x2 x3 h = some w) : GG K (some (tI w.1), w.2) 0 0 111 [(0, tR x0), (2, tI x2), (3, tI x3)] [] h := by
  unfold b_X12_single_111 at hf
  refine g_aload_n X dX12_single_111 0 rfl ?_
  refine g_dup X dX12_single_112 rfl ?_
  refine g_getI X hf (T := TX12) rfl (by decide) (by decide) in_RX12 tb_1153 rfl dX12_single_113 (fun v1 hf => ?_)
  refine g_iconst (v := 1) X dX12_single_116 (by decide) ?_
  refine g_isub X dX12_single_117 ?_
  refine g_putI X hf (T := TX12) rfl (by decide) (by decide) in_RX12 tyX12 tyX12_ok nmX12 tb_1153 rfl rfl rfl dX12_single_118 (fun h2 hf => ?_)
  refine g_iload_n X dX12_single_121 2 rfl ?_
  refine g_iload_n X dX12_single_122 1 rfl ?_
  refine g_icmpeq (tgt := 130) X hf dX12_single_123 (by decide) (fun hf => ?_) (fun hf => ?_)
  · refine g_iconst (v := 0) X dX12_single_130 (by decide) ?_
    exact g_zreturn X (zW hf) (by decide) (by decide) (by decide) dX12_single_131
  · refine g_iconst (v := 1) X dX12_single_126 (by decide) ?_
    refine g_goto (tgt := 131) X dX12_single_127 (by decide) ?_
    exact g_zreturn X (zW hf) (by decide) (by decide) (by decide) dX12_single_131
def b_X12_single_100 (kr : Option Nat → Int32 → AH → Option (Int32 × AH))  (x0 : Option Nat) (x2 : Int32) (x3 : Int32) (h : AH) : Option (Int32 × AH) :=
  (gI 12 17 h x0).bind fun v1 =>
  if v1 < 0 then
    (ck 12 h x0 (f_X12_next x0 h)).bind fun h2 =>
    b_X12_single_111 kr x0 x2 x3 h2
  else
    b_X12_single_111 kr x0 x2 x3 h
set_option maxRecDepth 20000 in
theorem w_X12_single_100 {K : KT} {w : (Int32 × AH)}  {dd : Nat} {kr : Option Nat → Int32 → AH → Option (Int32 × AH)} (hdd : 5 ≤ dd) (hkr : ∀ {b0 : Option Nat} {b1 : Int32} {h : AH} {v : (Int32 × AH)}, kr b0 b1 h = some v → CT yX12_cond (wU yX12_cond cX12_cond 4 (some .boolean)) (rmD dd 0 0) 0 0 [tR b0, tI b1] h (some (tI v.1), v.2)) (X : CX K cX12_single RX12 TB (some .boolean) "single" (rmD (dd + 1) 0 0) 7 0 0)  (x0 : Option Nat) (x2 : Int32) (x3 : Int32) (h : AH) (hf : b_X12_single_100 kr x0 x2 x3 h = some w) : GG K (some (tI w.1), w.2) 0 0 100 [(0, tR x0), (2, tI x2), (3, tI x3)] [] h := by
  unfold b_X12_single_100 at hf
  refine g_aload_n X dX12_single_100 0 rfl ?_
  refine g_getI X hf (T := TX12) rfl (by decide) (by decide) in_RX12 tb_1152 rfl dX12_single_101 (fun v1 hf => ?_)
  refine g_ifge (tgt := 111) X hf dX12_single_104 (by decide) (fun hf => ?_) (fun hf => ?_)
  · refine g_aload_n X dX12_single_107 0 rfl ?_
    refine g_callV (n := 0) (av := []) (rest := []) (k := 12) X hf (fun h2 => (none, h2)) (fun _ q => m_X12_next q) (gdV tb_1381 tb_1382 tb_1706 tb_12 tb_1383) rfl (by decide +kernel) rfl (by decide) rfl (by constructor <;> simp only [rmD] <;> omega) ⟨Nat.zero_le _, Nat.zero_le _⟩ rfl (Nat.le_of_ble_eq_true rfl) dX12_single_108 (fun h2 hf => ?_)
    exact w_X12_single_111 hdd hkr X x0 x2 x3 h2 hf
  · exact w_X12_single_111 hdd hkr X x0 x2 x3 h hf
def b_X12_single_20 (kr : Option Nat → Int32 → AH → Option (Int32 × AH)) (k2 : Option Nat → Int32 → Int32 → AH → Option (Int32 × AH)) (x0 : Option Nat) (x1 : Int32) (s0 : Int32) (h : AH) : Option (Int32 × AH) :=
  (ck 12 h x0 (f_X12_next x0 h)).bind fun h1 =>
  k2 x0 x1 s0 h1
set_option maxRecDepth 20000 in
theorem w_X12_single_20 {K : KT} {w : (Int32 × AH)} {k2 : Option Nat → Int32 → Int32 → AH → Option (Int32 × AH)} {dd : Nat} {kr : Option Nat → Int32 → AH → Option (Int32 × AH)} (hdd : 5 ≤ dd) (hkr : ∀ {b0 : Option Nat} {b1 : Int32} {h : AH} {v : (Int32 × AH)}, kr b0 b1 h = some v → CT yX12_cond (wU yX12_cond cX12_cond 4 (some .boolean)) (rmD dd 0 0) 0 0 [tR b0, tI b1] h (some (tI v.1), v.2)) (X : CX K cX12_single RX12 TB (some .boolean) "single" (rmD (dd + 1) 0 0) 7 0 0) (hk2 : ∀ (x0 : Option Nat) (x1 : Int32) (x2 : Int32) (h : AH), k2 x0 x1 x2 h = some w → GG K (some (tI w.1), w.2) 0 0 2 [(0, tR x0), (1, tI x1), (2, tI x2)] [] h) (x0 : Option Nat) (x1 : Int32) (s0 : Int32) (h : AH) (hf : b_X12_single_20 kr k2 x0 x1 s0 h = some w) : GG K (some (tI w.1), w.2) 0 0 20 [(0, tR x0), (1, tI x1)] [tI s0] h := by
  unfold b_X12_single_20 at hf
  refine g_istore_n (lv' := [(0, tR x0), (1, tI x1), (2, tI s0)]) X dX12_single_20 (by decide) (in_pick [1, 2, 0] rfl) ?_
  refine g_aload_n X dX12_single_21 0 rfl ?_
  refine g_callV (n := 0) (av := []) (rest := []) (k := 12) X hf (fun h1 => (none, h1)) (fun _ q => m_X12_next q) (gdV tb_1381 tb_1382 tb_1706 tb_12 tb_1383) rfl (by decide +kernel) rfl (by decide) rfl (by constructor <;> simp only [rmD] <;> omega) ⟨Nat.zero_le _, Nat.zero_le _⟩ rfl (Nat.le_of_ble_eq_true rfl) dX12_single_22 (fun h1 hf => ?_)
  refine g_goto (tgt := 2) X dX12_single_25 (by decide) ?_
  exact hk2 x0 x1 s0 h1 hf
def b_X12_single_2 (kr : Option Nat → Int32 → AH → Option (Int32 × AH))   : Nat → Option Nat → Int32 → Int32 → AH → Option (Int32 × AH)
  | 0 => fun _ _ _ _ => none
  | n + 1 => fun x0 x1 x2 h =>
    (ck 12 h x0 (f_X12_isWord x0 7 h)).bind fun v1 =>
    if v1 = 0 then
      (gI 12 17 h x0).bind fun v2 =>
      if v2 < 0 then
        (gI 12 15 h x0).bind fun v3 =>
        if v3 = 40 then
          (gI 12 18 h x0).bind fun v4 =>
          if v4 = 5 then
            (ck 12 h x0 (f_X12_wrong x0 h)).bind fun h5 =>
            some (0, h5)
          else
            (gI 12 18 h x0).bind fun v6 =>
            (pI 12 18 h x0 (v6 + 1)).bind fun h7 =>
            (ck 12 h7 x0 (f_X12_next x0 h7)).bind fun h8 =>
            (ck 12 h8 x0 (kr x0 x1 h8)).bind fun p9 =>
            (gI 12 17 p9.2 x0).bind fun v10 =>
            if v10 < 0 then
              (gI 12 15 p9.2 x0).bind fun v11 =>
              if v11 = 41 then
                b_X12_single_100 kr x0 x2 p9.1 p9.2
              else
                (ck 12 p9.2 x0 (f_X12_wrong x0 p9.2)).bind fun h12 =>
                b_X12_single_100 kr x0 x2 p9.1 h12
            else
              b_X12_single_100 kr x0 x2 p9.1 p9.2
        else
          b_X12_single_132 kr x0 x1 x2 h
      else
        b_X12_single_132 kr x0 x1 x2 h
    else
      if x2 = 0 then
        b_X12_single_20 kr (b_X12_single_2 kr n) x0 x1 1 h
      else
        b_X12_single_20 kr (b_X12_single_2 kr n) x0 x1 0 h
set_option maxRecDepth 20000 in
theorem w_X12_single_2 {K : KT} {w : (Int32 × AH)}  {dd : Nat} {kr : Option Nat → Int32 → AH → Option (Int32 × AH)} (hdd : 5 ≤ dd) (hkr : ∀ {b0 : Option Nat} {b1 : Int32} {h : AH} {v : (Int32 × AH)}, kr b0 b1 h = some v → CT yX12_cond (wU yX12_cond cX12_cond 4 (some .boolean)) (rmD dd 0 0) 0 0 [tR b0, tI b1] h (some (tI v.1), v.2)) (X : CX K cX12_single RX12 TB (some .boolean) "single" (rmD (dd + 1) 0 0) 7 0 0)  : ∀ (n : Nat) (x0 : Option Nat) (x1 : Int32) (x2 : Int32) (h : AH), b_X12_single_2 kr n x0 x1 x2 h = some w → GG K (some (tI w.1), w.2) 0 0 2 [(0, tR x0), (1, tI x1), (2, tI x2)] [] h := by
  intro n
  induction n with
  | zero =>
    intro x0 x1 x2 h hf
    cases (show none = some w from hf)
  | succ n ih =>
    intro x0 x1 x2 h hf
    rw [b_X12_single_2] at hf
    refine g_aload_n X dX12_single_2 0 rfl ?_
    refine g_bipush (v := 7) X dX12_single_3 (by decide) ?_
    refine g_callV (n := 1) (av := [tI 7]) (rest := []) (k := 12) X hf (fun v1 => (some (tI v1), h)) (fun _ q => m_X12_isWord q) (gdV tb_1406 tb_1407 tb_1714 tb_12 tb_1408) rfl (by decide +kernel) rfl (by decide) rfl (by constructor <;> simp only [rmD] <;> omega) ⟨Nat.zero_le _, Nat.zero_le _⟩ rfl (Nat.le_of_ble_eq_true rfl) dX12_single_5 (fun v1 hf => ?_)
    refine g_ifeq (tgt := 28) X hf dX12_single_8 (by decide) (fun hf => ?_) (fun hf => ?_)
    · refine g_iconst (v := 0) X dX12_single_28 (by decide) ?_
      refine g_istore_n (lv' := [(0, tR x0), (1, tI x1), (2, tI x2), (3, tI 0)]) X dX12_single_29 (by decide) (in_pick [1, 2, 3, 0] rfl) ?_
      refine g_aload_n X dX12_single_30 0 rfl ?_
      refine g_getI X hf (T := TX12) rfl (by decide) (by decide) in_RX12 tb_1152 rfl dX12_single_31 (fun v2 hf => ?_)
      refine g_ifge (tgt := 132) X hf dX12_single_34 (by decide) (fun hf => ?_) (fun hf => ?_)
      · refine g_aload_n X dX12_single_37 0 rfl ?_
        refine g_getI X hf (T := TX12) rfl (by decide) (by decide) in_RX12 tb_1150 rfl dX12_single_38 (fun v3 hf => ?_)
        refine g_bipush (v := 40) X dX12_single_41 (by decide) ?_
        refine g_icmpne (tgt := 132) X hf dX12_single_43 (by decide) (fun hf => ?_) (fun hf => ?_)
        · refine g_aload_n X dX12_single_46 0 rfl ?_
          refine g_getI X hf (T := TX12) rfl (by decide) (by decide) in_RX12 tb_1153 rfl dX12_single_47 (fun v4 hf => ?_)
          refine g_iconst (v := 5) X dX12_single_50 (by decide) ?_
          refine g_icmpne (tgt := 60) X hf dX12_single_51 (by decide) (fun hf => ?_) (fun hf => ?_)
          · refine g_aload_n X dX12_single_54 0 rfl ?_
            refine g_callV (n := 0) (av := []) (rest := []) (k := 12) X hf (fun h5 => (none, h5)) (fun _ q => m_X12_wrong q) (gdV tb_1391 tb_1392 tb_1709 tb_12 tb_1393) rfl (by decide +kernel) rfl (by decide) rfl (by constructor <;> simp only [rmD] <;> omega) ⟨Nat.zero_le _, Nat.zero_le _⟩ rfl (Nat.le_of_ble_eq_true rfl) dX12_single_55 (fun h5 hf => ?_)
            refine g_iconst (v := 0) X dX12_single_58 (by decide) ?_
            exact g_zreturn X (zW hf) (by decide) (by decide) (by decide) dX12_single_59
          · refine g_aload_n X dX12_single_60 0 rfl ?_
            refine g_dup X dX12_single_61 rfl ?_
            refine g_getI X hf (T := TX12) rfl (by decide) (by decide) in_RX12 tb_1153 rfl dX12_single_62 (fun v6 hf => ?_)
            refine g_iconst (v := 1) X dX12_single_65 (by decide) ?_
            refine g_iadd X dX12_single_66 ?_
            refine g_putI X hf (T := TX12) rfl (by decide) (by decide) in_RX12 tyX12 tyX12_ok nmX12 tb_1153 rfl rfl rfl dX12_single_67 (fun h7 hf => ?_)
            refine g_aload_n X dX12_single_70 0 rfl ?_
            refine g_callV (n := 0) (av := []) (rest := []) (k := 12) X hf (fun h8 => (none, h8)) (fun _ q => m_X12_next q) (gdV tb_1381 tb_1382 tb_1706 tb_12 tb_1383) rfl (by decide +kernel) rfl (by decide) rfl (by constructor <;> simp only [rmD] <;> omega) ⟨Nat.zero_le _, Nat.zero_le _⟩ rfl (Nat.le_of_ble_eq_true rfl) dX12_single_71 (fun h8 hf => ?_)
            refine g_aload_n X dX12_single_74 0 rfl ?_
            refine g_iload_n X dX12_single_75 1 rfl ?_
            refine g_callV (n := 1) (av := [tI x1]) (rest := []) (k := 12) X hf (fun p9 => (some (tI p9.1), p9.2)) (fun _ q => hkr q) (gdV tb_1397 tb_1398 tb_1711 tb_12 tb_1399) rfl (by decide +kernel) rfl (by decide) rfl (by constructor <;> simp only [rmD] <;> omega) ⟨Nat.zero_le _, Nat.zero_le _⟩ rfl (Nat.le_of_ble_eq_true rfl) dX12_single_76 (fun p9 hf => ?_)
            refine g_istore_n (lv' := [(0, tR x0), (1, tI x1), (2, tI x2), (3, tI p9.1)]) X dX12_single_79 (by decide) (in_pick [1, 2, 3, 0] rfl) ?_
            refine g_aload_n X dX12_single_80 0 rfl ?_
            refine g_getI X hf (T := TX12) rfl (by decide) (by decide) in_RX12 tb_1152 rfl dX12_single_81 (fun v10 hf => ?_)
            refine g_ifge (tgt := 100) X hf dX12_single_84 (by decide) (fun hf => ?_) (fun hf => ?_)
            · refine g_aload_n X dX12_single_87 0 rfl ?_
              refine g_getI X hf (T := TX12) rfl (by decide) (by decide) in_RX12 tb_1150 rfl dX12_single_88 (fun v11 hf => ?_)
              refine g_bipush (v := 41) X dX12_single_91 (by decide) ?_
              refine g_icmpeq (tgt := 100) X hf dX12_single_93 (by decide) (fun hf => ?_) (fun hf => ?_)
              · refine g_locs (lv' := [(0, tR x0), (2, tI x2), (3, tI p9.1)]) (in_pick [0, 2, 3] rfl) ?_
                exact w_X12_single_100 hdd hkr X x0 x2 p9.1 p9.2 hf
              · refine g_aload_n X dX12_single_96 0 rfl ?_
                refine g_callV (n := 0) (av := []) (rest := []) (k := 12) X hf (fun h12 => (none, h12)) (fun _ q => m_X12_wrong q) (gdV tb_1391 tb_1392 tb_1709 tb_12 tb_1393) rfl (by decide +kernel) rfl (by decide) rfl (by constructor <;> simp only [rmD] <;> omega) ⟨Nat.zero_le _, Nat.zero_le _⟩ rfl (Nat.le_of_ble_eq_true rfl) dX12_single_97 (fun h12 hf => ?_)
                refine g_locs (lv' := [(0, tR x0), (2, tI x2), (3, tI p9.1)]) (in_pick [0, 2, 3] rfl) ?_
                exact w_X12_single_100 hdd hkr X x0 x2 p9.1 h12 hf
            · refine g_locs (lv' := [(0, tR x0), (2, tI x2), (3, tI p9.1)]) (in_pick [0, 2, 3] rfl) ?_
              exact w_X12_single_100 hdd hkr X x0 x2 p9.1 p9.2 hf
        · refine g_locs (lv' := [(0, tR x0), (1, tI x1), (2, tI x2)]) (in_pick [0, 1, 2] rfl) ?_
          exact w_X12_single_132 hdd hkr X x0 x1 x2 h hf
      · refine g_locs (lv' := [(0, tR x0), (1, tI x1), (2, tI x2)]) (in_pick [0, 1, 2] rfl) ?_
        exact w_X12_single_132 hdd hkr X x0 x1 x2 h hf
    · refine g_iload_n X dX12_single_11 2 rfl ?_
      refine g_ifne (tgt := 19) X hf dX12_single_12 (by decide) (fun hf => ?_) (fun hf => ?_)
      · refine g_iconst (v := 1) X dX12_single_15 (by decide) ?_
        refine g_goto (tgt := 20) X dX12_single_16 (by decide) ?_
        refine g_locs (lv' := [(0, tR x0), (1, tI x1)]) (in_pick [0, 1] rfl) ?_
        exact w_X12_single_20 hdd hkr X ih x0 x1 1 h hf
      · refine g_iconst (v := 0) X dX12_single_19 (by decide) ?_
        refine g_locs (lv' := [(0, tR x0), (1, tI x1)]) (in_pick [0, 1] rfl) ?_
        exact w_X12_single_20 hdd hkr X ih x0 x1 0 h hf
def f_X12_single (kr : Option Nat → Int32 → AH → Option (Int32 × AH)) (a0 : Option Nat) (a1 : Int32) (h : AH) : Option (Int32 × AH) :=
  b_X12_single_2 kr FU a0 a1 0 h
set_option maxRecDepth 20000 in
theorem m_X12_single {dd : Nat} {kr : Option Nat → Int32 → AH → Option (Int32 × AH)} (hdd : 5 ≤ dd) (hkr : ∀ {b0 : Option Nat} {b1 : Int32} {h : AH} {v : (Int32 × AH)}, kr b0 b1 h = some v → CT yX12_cond (wU yX12_cond cX12_cond 4 (some .boolean)) (rmD dd 0 0) 0 0 [tR b0, tI b1] h (some (tI v.1), v.2)) {a0 : Option Nat} {a1 : Int32} {h : AH} {w : (Int32 × AH)} (hf : f_X12_single kr a0 a1 h = some w) : CT yX12_single (wU yX12_single cX12_single 7 (some .boolean)) (rmD (dd + 1) 0 0) 0 0 [tR a0, tI a1] h (some (tI w.1), w.2) := by
  refine CT.of (cc := cX12_single) (nL := 7) (ret := (some .boolean)) (by decide) (by simp [lg_sl, vOf_cat, wOf]) ?_
  intro K X
  refine g_locs (lv' := [(0, tR a0), (1, tI a1)]) (fun q hq => hq) ?_
  unfold f_X12_single at hf
  refine g_iconst (v := 0) X dX12_single_0 (by decide) ?_
  refine g_istore_n (lv' := [(0, tR a0), (1, tI a1), (2, tI 0)]) X dX12_single_1 (by decide) (in_pick [1, 2, 0] rfl) ?_
  exact w_X12_single_2 hdd hkr X FU a0 a1 0 h hf
def b_X12_every_6 (kr : Option Nat → Int32 → AH → Option (Int32 × AH))   : Nat → Option Nat → Int32 → Int32 → AH → Option (Int32 × AH)
  | 0 => fun _ _ _ _ => none
  | n + 1 => fun x0 x1 x2 h =>
    (ck 12 h x0 (f_X12_isWord x0 6 h)).bind fun v1 =>
    if v1 = 0 then
      (rZ x2).bind fun vz => some (vz, h)
    else
      (ck 12 h x0 (f_X12_next x0 h)).bind fun h2 =>
      (ck 12 h2 x0 (f_X12_single kr x0 x1 h2)).bind fun p3 =>
      b_X12_every_6 kr n x0 x1 (x2 &&& p3.1) p3.2
set_option maxRecDepth 20000 in
theorem w_X12_every_6 {K : KT} {w : (Int32 × AH)}  {dd : Nat} {kr : Option Nat → Int32 → AH → Option (Int32 × AH)} (hdd : 5 ≤ dd) (hkr : ∀ {b0 : Option Nat} {b1 : Int32} {h : AH} {v : (Int32 × AH)}, kr b0 b1 h = some v → CT yX12_cond (wU yX12_cond cX12_cond 4 (some .boolean)) (rmD dd 0 0) 0 0 [tR b0, tI b1] h (some (tI v.1), v.2)) (X : CX K cX12_every RX12 TB (some .boolean) "every" (rmD (dd + 2) 0 0) 4 0 0)  : ∀ (n : Nat) (x0 : Option Nat) (x1 : Int32) (x2 : Int32) (h : AH), b_X12_every_6 kr n x0 x1 x2 h = some w → GG K (some (tI w.1), w.2) 0 0 6 [(0, tR x0), (1, tI x1), (2, tI x2)] [] h := by
  intro n
  induction n with
  | zero =>
    intro x0 x1 x2 h hf
    cases (show none = some w from hf)
  | succ n ih =>
    intro x0 x1 x2 h hf
    rw [b_X12_every_6] at hf
    refine g_aload_n X dX12_every_6 0 rfl ?_
    refine g_bipush (v := 6) X dX12_every_7 (by decide) ?_
    refine g_callV (n := 1) (av := [tI 6]) (rest := []) (k := 12) X hf (fun v1 => (some (tI v1), h)) (fun _ q => m_X12_isWord q) (gdV tb_1406 tb_1407 tb_1714 tb_12 tb_1408) rfl (by decide +kernel) rfl (by decide) rfl (by constructor <;> simp only [rmD] <;> omega) ⟨Nat.zero_le _, Nat.zero_le _⟩ rfl (Nat.le_of_ble_eq_true rfl) dX12_every_9 (fun v1 hf => ?_)
    refine g_ifeq (tgt := 32) X hf dX12_every_12 (by decide) (fun hf => ?_) (fun hf => ?_)
    · refine g_iload_n X dX12_every_32 2 rfl ?_
      obtain ⟨vz, hz1, hz2⟩ := Option.bind_eq_some_iff.mp hf
      cases hz2
      exact g_zreturn2 X hz1 (by decide) (by decide) dX12_every_33
    · refine g_aload_n X dX12_every_15 0 rfl ?_
      refine g_callV (n := 0) (av := []) (rest := []) (k := 12) X hf (fun h2 => (none, h2)) (fun _ q => m_X12_next q) (gdV tb_1381 tb_1382 tb_1706 tb_12 tb_1383) rfl (by decide +kernel) rfl (by decide) rfl (by constructor <;> simp only [rmD] <;> omega) ⟨Nat.zero_le _, Nat.zero_le _⟩ rfl (Nat.le_of_ble_eq_true rfl) dX12_every_16 (fun h2 hf => ?_)
      refine g_aload_n X dX12_every_19 0 rfl ?_
      refine g_iload_n X dX12_every_20 1 rfl ?_
      refine g_callV (n := 1) (av := [tI x1]) (rest := []) (k := 12) X hf (fun p3 => (some (tI p3.1), p3.2)) (fun _ q => m_X12_single hdd hkr q) (gdV tb_1403 tb_1404 tb_1713 tb_12 tb_1405) rfl (by decide +kernel) rfl (by decide) rfl (by constructor <;> simp only [rmD] <;> omega) ⟨Nat.zero_le _, Nat.zero_le _⟩ rfl (Nat.le_of_ble_eq_true rfl) dX12_every_21 (fun p3 hf => ?_)
      refine g_istore_n (lv' := [(0, tR x0), (1, tI x1), (2, tI x2), (3, tI p3.1)]) X dX12_every_24 (by decide) (in_pick [1, 2, 3, 0] rfl) ?_
      refine g_iload_n X dX12_every_25 2 rfl ?_
      refine g_iload_n X dX12_every_26 3 rfl ?_
      refine g_iand X dX12_every_27 ?_
      refine g_istore_n (lv' := [(0, tR x0), (1, tI x1), (2, tI (x2 &&& p3.1)), (3, tI p3.1)]) X dX12_every_28 (by decide) (in_pick [1, 2, 0, 3] rfl) ?_
      refine g_goto (tgt := 6) X dX12_every_29 (by decide) ?_
      refine g_locs (lv' := [(0, tR x0), (1, tI x1), (2, tI (x2 &&& p3.1))]) (in_pick [0, 1, 2] rfl) ?_
      exact ih x0 x1 (x2 &&& p3.1) p3.2 hf
def f_X12_every (kr : Option Nat → Int32 → AH → Option (Int32 × AH)) (a0 : Option Nat) (a1 : Int32) (h : AH) : Option (Int32 × AH) :=
  (ck 12 h a0 (f_X12_single kr a0 a1 h)).bind fun p1 =>
  b_X12_every_6 kr FU a0 a1 p1.1 p1.2
set_option maxRecDepth 20000 in
theorem m_X12_every {dd : Nat} {kr : Option Nat → Int32 → AH → Option (Int32 × AH)} (hdd : 5 ≤ dd) (hkr : ∀ {b0 : Option Nat} {b1 : Int32} {h : AH} {v : (Int32 × AH)}, kr b0 b1 h = some v → CT yX12_cond (wU yX12_cond cX12_cond 4 (some .boolean)) (rmD dd 0 0) 0 0 [tR b0, tI b1] h (some (tI v.1), v.2)) {a0 : Option Nat} {a1 : Int32} {h : AH} {w : (Int32 × AH)} (hf : f_X12_every kr a0 a1 h = some w) : CT yX12_every (wU yX12_every cX12_every 4 (some .boolean)) (rmD (dd + 2) 0 0) 0 0 [tR a0, tI a1] h (some (tI w.1), w.2) := by
  refine CT.of (cc := cX12_every) (nL := 4) (ret := (some .boolean)) (by decide) (by simp [lg_sl, vOf_cat, wOf]) ?_
  intro K X
  refine g_locs (lv' := [(0, tR a0), (1, tI a1)]) (fun q hq => hq) ?_
  unfold f_X12_every at hf
  refine g_aload_n X dX12_every_0 0 rfl ?_
  refine g_iload_n X dX12_every_1 1 rfl ?_
  refine g_callV (n := 1) (av := [tI a1]) (rest := []) (k := 12) X hf (fun p1 => (some (tI p1.1), p1.2)) (fun _ q => m_X12_single hdd hkr q) (gdV tb_1403 tb_1404 tb_1713 tb_12 tb_1405) rfl (by decide +kernel) rfl (by decide) rfl (by constructor <;> simp only [rmD] <;> omega) ⟨Nat.zero_le _, Nat.zero_le _⟩ rfl (Nat.le_of_ble_eq_true rfl) dX12_every_2 (fun p1 hf => ?_)
  refine g_istore_n (lv' := [(0, tR a0), (1, tI a1), (2, tI p1.1)]) X dX12_every_5 (by decide) (in_pick [1, 2, 0] rfl) ?_
  exact w_X12_every_6 hdd hkr X FU a0 a1 p1.1 p1.2 hf
def b_X12_cond_6 (kr : Option Nat → Int32 → AH → Option (Int32 × AH))   : Nat → Option Nat → Int32 → Int32 → AH → Option (Int32 × AH)
  | 0 => fun _ _ _ _ => none
  | n + 1 => fun x0 x1 x2 h =>
    (ck 12 h x0 (f_X12_isWord x0 5 h)).bind fun v1 =>
    if v1 = 0 then
      (rZ x2).bind fun vz => some (vz, h)
    else
      (ck 12 h x0 (f_X12_next x0 h)).bind fun h2 =>
      (ck 12 h2 x0 (f_X12_every kr x0 x1 h2)).bind fun p3 =>
      b_X12_cond_6 kr n x0 x1 (x2 ||| p3.1) p3.2
set_option maxRecDepth 20000 in
theorem w_X12_cond_6 {K : KT} {w : (Int32 × AH)}  {dd : Nat} {kr : Option Nat → Int32 → AH → Option (Int32 × AH)} (hdd : 5 ≤ dd) (hkr : ∀ {b0 : Option Nat} {b1 : Int32} {h : AH} {v : (Int32 × AH)}, kr b0 b1 h = some v → CT yX12_cond (wU yX12_cond cX12_cond 4 (some .boolean)) (rmD dd 0 0) 0 0 [tR b0, tI b1] h (some (tI v.1), v.2)) (X : CX K cX12_cond RX12 TB (some .boolean) "cond" (rmD (dd + 3) 0 0) 4 0 0)  : ∀ (n : Nat) (x0 : Option Nat) (x1 : Int32) (x2 : Int32) (h : AH), b_X12_cond_6 kr n x0 x1 x2 h = some w → GG K (some (tI w.1), w.2) 0 0 6 [(0, tR x0), (1, tI x1), (2, tI x2)] [] h := by
  intro n
  induction n with
  | zero =>
    intro x0 x1 x2 h hf
    cases (show none = some w from hf)
  | succ n ih =>
    intro x0 x1 x2 h hf
    rw [b_X12_cond_6] at hf
    refine g_aload_n X dX12_cond_6 0 rfl ?_
    refine g_iconst (v := 5) X dX12_cond_7 (by decide) ?_
    refine g_callV (n := 1) (av := [tI 5]) (rest := []) (k := 12) X hf (fun v1 => (some (tI v1), h)) (fun _ q => m_X12_isWord q) (gdV tb_1406 tb_1407 tb_1714 tb_12 tb_1408) rfl (by decide +kernel) rfl (by decide) rfl (by constructor <;> simp only [rmD] <;> omega) ⟨Nat.zero_le _, Nat.zero_le _⟩ rfl (Nat.le_of_ble_eq_true rfl) dX12_cond_8 (fun v1 hf => ?_)
    refine g_ifeq (tgt := 31) X hf dX12_cond_11 (by decide) (fun hf => ?_) (fun hf => ?_)
    · refine g_iload_n X dX12_cond_31 2 rfl ?_
      obtain ⟨vz, hz1, hz2⟩ := Option.bind_eq_some_iff.mp hf
      cases hz2
      exact g_zreturn2 X hz1 (by decide) (by decide) dX12_cond_32
    · refine g_aload_n X dX12_cond_14 0 rfl ?_
      refine g_callV (n := 0) (av := []) (rest := []) (k := 12) X hf (fun h2 => (none, h2)) (fun _ q => m_X12_next q) (gdV tb_1381 tb_1382 tb_1706 tb_12 tb_1383) rfl (by decide +kernel) rfl (by decide) rfl (by constructor <;> simp only [rmD] <;> omega) ⟨Nat.zero_le _, Nat.zero_le _⟩ rfl (Nat.le_of_ble_eq_true rfl) dX12_cond_15 (fun h2 hf => ?_)
      refine g_aload_n X dX12_cond_18 0 rfl ?_
      refine g_iload_n X dX12_cond_19 1 rfl ?_
      refine g_callV (n := 1) (av := [tI x1]) (rest := []) (k := 12) X hf (fun p3 => (some (tI p3.1), p3.2)) (fun _ q => m_X12_every hdd hkr q) (gdV tb_1400 tb_1401 tb_1712 tb_12 tb_1402) rfl (by decide +kernel) rfl (by decide) rfl (by constructor <;> simp only [rmD] <;> omega) ⟨Nat.zero_le _, Nat.zero_le _⟩ rfl (Nat.le_of_ble_eq_true rfl) dX12_cond_20 (fun p3 hf => ?_)
      refine g_istore_n (lv' := [(0, tR x0), (1, tI x1), (2, tI x2), (3, tI p3.1)]) X dX12_cond_23 (by decide) (in_pick [1, 2, 3, 0] rfl) ?_
      refine g_iload_n X dX12_cond_24 2 rfl ?_
      refine g_iload_n X dX12_cond_25 3 rfl ?_
      refine g_ior X dX12_cond_26 ?_
      refine g_istore_n (lv' := [(0, tR x0), (1, tI x1), (2, tI (x2 ||| p3.1)), (3, tI p3.1)]) X dX12_cond_27 (by decide) (in_pick [1, 2, 0, 3] rfl) ?_
      refine g_goto (tgt := 6) X dX12_cond_28 (by decide) ?_
      refine g_locs (lv' := [(0, tR x0), (1, tI x1), (2, tI (x2 ||| p3.1))]) (in_pick [0, 1, 2] rfl) ?_
      exact ih x0 x1 (x2 ||| p3.1) p3.2 hf
def g_X12_cond (kr : Option Nat → Int32 → AH → Option (Int32 × AH)) (a0 : Option Nat) (a1 : Int32) (h : AH) : Option (Int32 × AH) :=
  (ck 12 h a0 (f_X12_every kr a0 a1 h)).bind fun p1 =>
  b_X12_cond_6 kr FU a0 a1 p1.1 p1.2
set_option maxRecDepth 20000 in
theorem mg_X12_cond {dd : Nat} {kr : Option Nat → Int32 → AH → Option (Int32 × AH)} (hdd : 5 ≤ dd) (hkr : ∀ {b0 : Option Nat} {b1 : Int32} {h : AH} {v : (Int32 × AH)}, kr b0 b1 h = some v → CT yX12_cond (wU yX12_cond cX12_cond 4 (some .boolean)) (rmD dd 0 0) 0 0 [tR b0, tI b1] h (some (tI v.1), v.2)) {a0 : Option Nat} {a1 : Int32} {h : AH} {w : (Int32 × AH)} (hf : g_X12_cond kr a0 a1 h = some w) : CT yX12_cond (wU yX12_cond cX12_cond 4 (some .boolean)) (rmD (dd + 3) 0 0) 0 0 [tR a0, tI a1] h (some (tI w.1), w.2) := by
  refine CT.of (cc := cX12_cond) (nL := 4) (ret := (some .boolean)) (by decide) (by simp [lg_sl, vOf_cat, wOf]) ?_
  intro K X
  refine g_locs (lv' := [(0, tR a0), (1, tI a1)]) (fun q hq => hq) ?_
  unfold g_X12_cond at hf
  refine g_aload_n X dX12_cond_0 0 rfl ?_
  refine g_iload_n X dX12_cond_1 1 rfl ?_
  refine g_callV (n := 1) (av := [tI a1]) (rest := []) (k := 12) X hf (fun p1 => (some (tI p1.1), p1.2)) (fun _ q => m_X12_every hdd hkr q) (gdV tb_1400 tb_1401 tb_1712 tb_12 tb_1402) rfl (by decide +kernel) rfl (by decide) rfl (by constructor <;> simp only [rmD] <;> omega) ⟨Nat.zero_le _, Nat.zero_le _⟩ rfl (Nat.le_of_ble_eq_true rfl) dX12_cond_2 (fun p1 hf => ?_)
  refine g_istore_n (lv' := [(0, tR a0), (1, tI a1), (2, tI p1.1)]) X dX12_cond_5 (by decide) (in_pick [1, 2, 0] rfl) ?_
  exact w_X12_cond_6 hdd hkr X FU a0 a1 p1.1 p1.2 hf
def f_X12_cond : Nat → Option Nat → Int32 → AH → Option (Int32 × AH)
  | 0 => fun _ _ _ => none
  | n + 1 => fun a0 a1 h => g_X12_cond (f_X12_cond n) a0 a1 h
theorem m_X12_cond : ∀ (n : Nat) {a0 : Option Nat} {a1 : Int32} {h : AH} {w : (Int32 × AH)}, f_X12_cond n a0 a1 h = some w → CT yX12_cond (wU yX12_cond cX12_cond 4 (some .boolean)) (rmD (5 + 3 * n) 0 0) 0 0 [tR a0, tI a1] h (some (tI w.1), w.2) := by
  intro n
  induction n with
  | zero =>
    intro a0 a1 h w hf
    cases (show none = some w from hf)
  | succ n ih =>
    intro a0 a1 h w hf
    have hf : g_X12_cond (f_X12_cond n) a0 a1 h = some w := hf
    rw [show 5 + 3 * (n + 1) = 5 + 3 * n + 3 by omega]
    exact mg_X12_cond (dd := 5 + 3 * n) (by omega) (fun q => ih q) hf
def b_X12_line_85   (x0 : Option Nat) (h : AH) : Option AH :=
  (gI 12 17 h x0).bind fun v1 =>
  if v1 < 0 then
    (ck 12 h x0 (f_X12_next x0 h)).bind fun h2 =>
    some h2
  else
    some h
set_option maxRecDepth 20000 in
theorem w_X12_line_85 {K : KT} {w : AH}   (X : CX K cX12_line RX12 TB none "line" (rmD 36 0 0) 2 0 0)  (x0 : Option Nat) (h : AH) (hf : b_X12_line_85 x0 h = some w) : GG K (none, w) 0 0 85 [(0, tR x0)] [] h := by
  unfold b_X12_line_85 at hf
  refine g_aload_n X dX12_line_85 0 rfl ?_
  refine g_getI X hf (T := TX12) rfl (by decide) (by decide) in_RX12 tb_1152 rfl dX12_line_86 (fun v1 hf => ?_)
  refine g_ifge (tgt := 96) X hf dX12_line_89 (by decide) (fun hf => ?_) (fun hf => ?_)
  · refine g_aload_n X dX12_line_92 0 rfl ?_
    refine g_callV (n := 0) (av := []) (rest := []) (k := 12) X hf (fun h2 => (none, h2)) (fun _ q => m_X12_next q) (gdV tb_1381 tb_1382 tb_1706 tb_12 tb_1383) rfl (by decide +kernel) rfl (by decide) rfl (by decide) (by decide) rfl (Nat.le_of_ble_eq_true rfl) dX12_line_93 (fun h2 hf => ?_)
    exact g_vreturn X (zV hf) (by decide) (by decide) dX12_line_96
  · exact g_vreturn X (zV hf) (by decide) (by decide) dX12_line_96
def b_X12_line_65   (x0 : Option Nat) (h : AH) : Option AH :=
  (gI 12 17 h x0).bind fun v1 =>
  if v1 < 0 then
    (gI 12 15 h x0).bind fun v2 =>
    if v2 = 59 then
      b_X12_line_85 x0 h
    else
      (ck 12 h x0 (f_X12_wrong x0 h)).bind fun h3 =>
      b_X12_line_85 x0 h3
  else
    b_X12_line_85 x0 h
set_option maxRecDepth 20000 in
theorem w_X12_line_65 {K : KT} {w : AH}   (X : CX K cX12_line RX12 TB none "line" (rmD 36 0 0) 2 0 0)  (x0 : Option Nat) (h : AH) (hf : b_X12_line_65 x0 h = some w) : GG K (none, w) 0 0 65 [(0, tR x0)] [] h := by
  unfold b_X12_line_65 at hf
  refine g_aload_n X dX12_line_65 0 rfl ?_
  refine g_getI X hf (T := TX12) rfl (by decide) (by decide) in_RX12 tb_1152 rfl dX12_line_66 (fun v1 hf => ?_)
  refine g_ifge (tgt := 85) X hf dX12_line_69 (by decide) (fun hf => ?_) (fun hf => ?_)
  · refine g_aload_n X dX12_line_72 0 rfl ?_
    refine g_getI X hf (T := TX12) rfl (by decide) (by decide) in_RX12 tb_1150 rfl dX12_line_73 (fun v2 hf => ?_)
    refine g_bipush (v := 59) X dX12_line_76 (by decide) ?_
    refine g_icmpeq (tgt := 85) X hf dX12_line_78 (by decide) (fun hf => ?_) (fun hf => ?_)
    · exact w_X12_line_85 X x0 h hf
    · refine g_aload_n X dX12_line_81 0 rfl ?_
      refine g_callV (n := 0) (av := []) (rest := []) (k := 12) X hf (fun h3 => (none, h3)) (fun _ q => m_X12_wrong q) (gdV tb_1391 tb_1392 tb_1709 tb_12 tb_1393) rfl (by decide +kernel) rfl (by decide) rfl (by decide) (by decide) rfl (Nat.le_of_ble_eq_true rfl) dX12_line_82 (fun h3 hf => ?_)
      exact w_X12_line_85 X x0 h3 hf
  · exact w_X12_line_85 X x0 h hf
def b_X12_line_44   (x0 : Option Nat) (h : AH) : Option AH :=
  (ck 12 h x0 (f_X12_wrong x0 h)).bind fun h1 =>
  b_X12_line_65 x0 h1
set_option maxRecDepth 20000 in
theorem w_X12_line_44 {K : KT} {w : AH}   (X : CX K cX12_line RX12 TB none "line" (rmD 36 0 0) 2 0 0)  (x0 : Option Nat) (h : AH) (hf : b_X12_line_44 x0 h = some w) : GG K (none, w) 0 0 44 [(0, tR x0)] [] h := by
  unfold b_X12_line_44 at hf
  refine g_aload_n X dX12_line_44 0 rfl ?_
  refine g_callV (n := 0) (av := []) (rest := []) (k := 12) X hf (fun h1 => (none, h1)) (fun _ q => m_X12_wrong q) (gdV tb_1391 tb_1392 tb_1709 tb_12 tb_1393) rfl (by decide +kernel) rfl (by decide) rfl (by decide) (by decide) rfl (Nat.le_of_ble_eq_true rfl) dX12_line_45 (fun h1 hf => ?_)
  refine g_goto (tgt := 65) X dX12_line_48 (by decide) ?_
  exact w_X12_line_65 X x0 h1 hf
def b_X12_line_23   (x0 : Option Nat) (s0 : Option Nat) (s1 : Int32) (s2 : Int32) (h : AH) : Option AH :=
  (sI h s0 s1 s2).bind fun h1 =>
  b_X12_line_65 x0 h1
set_option maxRecDepth 20000 in
theorem w_X12_line_23 {K : KT} {w : AH}   (X : CX K cX12_line RX12 TB none "line" (rmD 36 0 0) 2 0 0)  (x0 : Option Nat) (s0 : Option Nat) (s1 : Int32) (s2 : Int32) (h : AH) (hf : b_X12_line_23 x0 s0 s1 s2 h = some w) : GG K (none, w) 0 0 23 [(0, tR x0)] [tI s2, tI s1, tR s0] h := by
  unfold b_X12_line_23 at hf
  refine g_iastore X hf dX12_line_23 (fun h1 hf => ?_)
  refine g_goto (tgt := 65) X dX12_line_24 (by decide) ?_
  exact w_X12_line_65 X x0 h1 hf
def f_X12_line  (a0 : Option Nat) (a1 : Int32) (h : AH) : Option AH :=
  if a1 < 4 then
    (gR 12 10 h a0).bind fun v1 =>
    (ck 12 h a0 (f_X12_cond 10 a0 a1 h)).bind fun p2 =>
    if p2.1 = 0 then
      b_X12_line_23 a0 v1 a1 0 p2.2
    else
      b_X12_line_23 a0 v1 a1 1 p2.2
  else
    (gI 12 15 h a0).bind fun v3 =>
    if v3 = 3 then
      (gI 12 16 h a0).bind fun v4 =>
      if 50 < v4 then
        b_X12_line_44 a0 h
      else
        (gR 12 10 h a0).bind fun v5 =>
        (gI 12 16 h a0).bind fun v6 =>
        (sI h v5 a1 v6).bind fun h7 =>
        (ck 12 h7 a0 (f_X12_next a0 h7)).bind fun h8 =>
        b_X12_line_65 a0 h8
    else
      b_X12_line_44 a0 h
set_option maxRecDepth 20000 in
theorem m_X12_line  {a0 : Option Nat} {a1 : Int32} {h : AH} {w : AH} (hf : f_X12_line a0 a1 h = some w) : CT yX12_line (wU yX12_line cX12_line 2 none) (rmD 36 0 0) 0 0 [tR a0, tI a1] h (none, w) := by
  refine CT.of (cc := cX12_line) (nL := 2) (ret := none) (by decide) (by simp [lg_sl, vOf_cat, wOf]) ?_
  intro K X
  refine g_locs (lv' := [(0, tR a0), (1, tI a1)]) (fun q hq => hq) ?_
  unfold f_X12_line at hf
  refine g_iload_n X dX12_line_0 1 rfl ?_
  refine g_iconst (v := 4) X dX12_line_1 (by decide) ?_
  refine g_icmpge (tgt := 27) X hf dX12_line_2 (by decide) (fun hf => ?_) (fun hf => ?_)
  · refine g_aload_n X dX12_line_5 0 rfl ?_
    refine g_getR X hf (T := TX12) rfl (by decide) (by decide) in_RX12 tb_1145 rfl dX12_line_6 (fun v1 hf => ?_)
    refine g_iload_n X dX12_line_9 1 rfl ?_
    refine g_aload_n X dX12_line_10 0 rfl ?_
    refine g_iload_n X dX12_line_11 1 rfl ?_
    refine g_callV (n := 1) (av := [tI a1]) (rest := [tI a1, tR v1]) (k := 12) X hf (fun p2 => (some (tI p2.1), p2.2)) (fun _ q => m_X12_cond 10 q) (gdV tb_1397 tb_1398 tb_1711 tb_12 tb_1399) rfl (by decide +kernel) rfl (by decide) rfl (by decide) (by decide) rfl (Nat.le_of_ble_eq_true rfl) dX12_line_12 (fun p2 hf => ?_)
    refine g_ifeq (tgt := 22) X hf dX12_line_15 (by decide) (fun hf => ?_) (fun hf => ?_)
    · refine g_iconst (v := 0) X dX12_line_22 (by decide) ?_
      refine g_locs (lv' := [(0, tR a0)]) (in_pick [0] rfl) ?_
      exact w_X12_line_23 X a0 v1 a1 0 p2.2 hf
    · refine g_iconst (v := 1) X dX12_line_18 (by decide) ?_
      refine g_goto (tgt := 23) X dX12_line_19 (by decide) ?_
      refine g_locs (lv' := [(0, tR a0)]) (in_pick [0] rfl) ?_
      exact w_X12_line_23 X a0 v1 a1 1 p2.2 hf
  · refine g_aload_n X dX12_line_27 0 rfl ?_
    refine g_getI X hf (T := TX12) rfl (by decide) (by decide) in_RX12 tb_1150 rfl dX12_line_28 (fun v3 hf => ?_)
    refine g_iconst (v := 3) X dX12_line_31 (by decide) ?_
    refine g_icmpne (tgt := 44) X hf dX12_line_32 (by decide) (fun hf => ?_) (fun hf => ?_)
    · refine g_aload_n X dX12_line_35 0 rfl ?_
      refine g_getI X hf (T := TX12) rfl (by decide) (by decide) in_RX12 tb_1151 rfl dX12_line_36 (fun v4 hf => ?_)
      refine g_bipush (v := 50) X dX12_line_39 (by decide) ?_
      refine g_icmple (tgt := 51) X hf dX12_line_41 (by decide) (fun hf => ?_) (fun hf => ?_)
      · refine g_locs (lv' := [(0, tR a0)]) (in_pick [0] rfl) ?_
        exact w_X12_line_44 X a0 h hf
      · refine g_aload_n X dX12_line_51 0 rfl ?_
        refine g_getR X hf (T := TX12) rfl (by decide) (by decide) in_RX12 tb_1145 rfl dX12_line_52 (fun v5 hf => ?_)
        refine g_iload_n X dX12_line_55 1 rfl ?_
        refine g_aload_n X dX12_line_56 0 rfl ?_
        refine g_getI X hf (T := TX12) rfl (by decide) (by decide) in_RX12 tb_1151 rfl dX12_line_57 (fun v6 hf => ?_)
        refine g_iastore X hf dX12_line_60 (fun h7 hf => ?_)
        refine g_aload_n X dX12_line_61 0 rfl ?_
        refine g_callV (n := 0) (av := []) (rest := []) (k := 12) X hf (fun h8 => (none, h8)) (fun _ q => m_X12_next q) (gdV tb_1381 tb_1382 tb_1706 tb_12 tb_1383) rfl (by decide +kernel) rfl (by decide) rfl (by decide) (by decide) rfl (Nat.le_of_ble_eq_true rfl) dX12_line_62 (fun h8 hf => ?_)
        refine g_locs (lv' := [(0, tR a0)]) (in_pick [0] rfl) ?_
        exact w_X12_line_65 X a0 h8 hf
    · refine g_locs (lv' := [(0, tR a0)]) (in_pick [0] rfl) ?_
      exact w_X12_line_44 X a0 h hf
def b_X12_reads_96  (k54 : Option Nat → Int32 → AH → Option (Int32 × AH)) (x0 : Option Nat) (x3 : Int32) (h : AH) : Option (Int32 × AH) :=
  (ck 12 h x0 (f_X12_wrong x0 h)).bind fun h1 =>
  k54 x0 x3 h1
set_option maxRecDepth 20000 in
theorem w_X12_reads_96 {K : KT} {w : (Int32 × AH)} {k54 : Option Nat → Int32 → AH → Option (Int32 × AH)}  (X : CX K cX12_reads RX12 TB (some .int) "reads" (rmD 37 0 0) 5 0 0) (hk54 : ∀ (x0 : Option Nat) (x3 : Int32) (h : AH), k54 x0 x3 h = some w → GG K (some (tI w.1), w.2) 0 0 54 [(0, tR x0), (3, tI x3)] [] h) (x0 : Option Nat) (x3 : Int32) (h : AH) (hf : b_X12_reads_96 k54 x0 x3 h = some w) : GG K (some (tI w.1), w.2) 0 0 96 [(0, tR x0), (3, tI x3)] [] h := by
  unfold b_X12_reads_96 at hf
  refine g_aload_n X dX12_reads_96 0 rfl ?_
  refine g_callV (n := 0) (av := []) (rest := []) (k := 12) X hf (fun h1 => (none, h1)) (fun _ q => m_X12_wrong q) (gdV tb_1391 tb_1392 tb_1709 tb_12 tb_1393) rfl (by decide +kernel) rfl (by decide) rfl (by decide) (by decide) rfl (Nat.le_of_ble_eq_true rfl) dX12_reads_97 (fun h1 hf => ?_)
  refine g_goto (tgt := 54) X dX12_reads_100 (by decide) ?_
  exact hk54 x0 x3 h1 hf
def b_X12_reads_54    : Nat → Option Nat → Int32 → AH → Option (Int32 × AH)
  | 0 => fun _ _ _ => none
  | n + 1 => fun x0 x3 h =>
    (gI 12 17 h x0).bind fun v1 =>
    if v1 < 0 then
      (gI 12 15 h x0).bind fun v2 =>
      if v2 = 0 then
        some (x3, h)
      else
        (gI 12 15 h x0).bind fun v3 =>
        if v3 = 2 then
          (gI 12 16 h x0).bind fun v4 =>
          if 4 < v4 then
            b_X12_reads_96 (b_X12_reads_54 n) x0 x3 h
          else
            (gR 12 9 h x0).bind fun v5 =>
            (gI 12 16 h x0).bind fun v6 =>
            (aZ h v5 v6).bind fun v7 =>
            if v7 = 0 then
              (gI 12 16 h x0).bind fun v8 =>
              (ck 12 h x0 (f_X12_next x0 h)).bind fun h9 =>
              (ck 12 h9 x0 (f_X12_line x0 v8 h9)).bind fun h10 =>
              (gR 12 9 h10 x0).bind fun v11 =>
              (sZ h10 v11 v8 1).bind fun h12 =>
              b_X12_reads_54 n x0 (x3 + 1) h12
            else
              b_X12_reads_96 (b_X12_reads_54 n) x0 x3 h
        else
          b_X12_reads_96 (b_X12_reads_54 n) x0 x3 h
    else
      some (x3, h)
set_option maxRecDepth 20000 in
theorem w_X12_reads_54 {K : KT} {w : (Int32 × AH)}   (X : CX K cX12_reads RX12 TB (some .int) "reads" (rmD 37 0 0) 5 0 0)  : ∀ (n : Nat) (x0 : Option Nat) (x3 : Int32) (h : AH), b_X12_reads_54 n x0 x3 h = some w → GG K (some (tI w.1), w.2) 0 0 54 [(0, tR x0), (3, tI x3)] [] h := by
  intro n
  induction n with
  | zero =>
    intro x0 x3 h hf
    cases (show none = some w from hf)
  | succ n ih =>
    intro x0 x3 h hf
    rw [b_X12_reads_54] at hf
    refine g_aload_n X dX12_reads_54 0 rfl ?_
    refine g_getI X hf (T := TX12) rfl (by decide) (by decide) in_RX12 tb_1152 rfl dX12_reads_55 (fun v1 hf => ?_)
    refine g_ifge (tgt := 133) X hf dX12_reads_58 (by decide) (fun hf => ?_) (fun hf => ?_)
    · refine g_aload_n X dX12_reads_61 0 rfl ?_
      refine g_getI X hf (T := TX12) rfl (by decide) (by decide) in_RX12 tb_1150 rfl dX12_reads_62 (fun v2 hf => ?_)
      refine g_ifeq (tgt := 133) X hf dX12_reads_65 (by decide) (fun hf => ?_) (fun hf => ?_)
      · refine g_iload_n X dX12_reads_133 1 rfl ?_
        exact g_ireturn X (zW hf) (by decide) (by decide) dX12_reads_134
      · refine g_aload_n X dX12_reads_68 0 rfl ?_
        refine g_getI X hf (T := TX12) rfl (by decide) (by decide) in_RX12 tb_1150 rfl dX12_reads_69 (fun v3 hf => ?_)
        refine g_iconst (v := 2) X dX12_reads_72 (by decide) ?_
        refine g_icmpne (tgt := 96) X hf dX12_reads_73 (by decide) (fun hf => ?_) (fun hf => ?_)
        · refine g_aload_n X dX12_reads_76 0 rfl ?_
          refine g_getI X hf (T := TX12) rfl (by decide) (by decide) in_RX12 tb_1151 rfl dX12_reads_77 (fun v4 hf => ?_)
          refine g_iconst (v := 4) X dX12_reads_80 (by decide) ?_
          refine g_icmpgt (tgt := 96) X hf dX12_reads_81 (by decide) (fun hf => ?_) (fun hf => ?_)
          · exact w_X12_reads_96 X ih x0 x3 h hf
          · refine g_aload_n X dX12_reads_84 0 rfl ?_
            refine g_getR X hf (T := TX12) rfl (by decide) (by decide) in_RX12 tb_1144 rfl dX12_reads_85 (fun v5 hf => ?_)
            refine g_aload_n X dX12_reads_88 0 rfl ?_
            refine g_getI X hf (T := TX12) rfl (by decide) (by decide) in_RX12 tb_1151 rfl dX12_reads_89 (fun v6 hf => ?_)
            refine g_baload X hf dX12_reads_92 (fun v7 hf => ?_)
            refine g_ifeq (tgt := 103) X hf dX12_reads_93 (by decide) (fun hf => ?_) (fun hf => ?_)
            · refine g_aload_n X dX12_reads_103 0 rfl ?_
              refine g_getI X hf (T := TX12) rfl (by decide) (by decide) in_RX12 tb_1151 rfl dX12_reads_104 (fun v8 hf => ?_)
              refine g_istore (lv' := [(0, tR x0), (3, tI x3), (4, tI v8)]) X dX12_reads_107 (by decide) (in_pick [1, 2, 0] rfl) ?_
              refine g_aload_n X dX12_reads_109 0 rfl ?_
              refine g_callV (n := 0) (av := []) (rest := []) (k := 12) X hf (fun h9 => (none, h9)) (fun _ q => m_X12_next q) (gdV tb_1381 tb_1382 tb_1706 tb_12 tb_1383) rfl (by decide +kernel) rfl (by decide) rfl (by decide) (by decide) rfl (Nat.le_of_ble_eq_true rfl) dX12_reads_110 (fun h9 hf => ?_)
              refine g_aload_n X dX12_reads_113 0 rfl ?_
              refine g_iload X dX12_reads_114 2 rfl ?_
              refine g_callV (n := 1) (av := [tI v8]) (rest := []) (k := 12) X hf (fun h10 => (none, h10)) (fun _ q => m_X12_line q) (gdV tb_1394 tb_1395 tb_1710 tb_12 tb_1396) rfl (by decide +kernel) rfl (by decide) rfl (by decide) (by decide) rfl (Nat.le_of_ble_eq_true rfl) dX12_reads_116 (fun h10 hf => ?_)
              refine g_aload_n X dX12_reads_119 0 rfl ?_
              refine g_getR X hf (T := TX12) rfl (by decide) (by decide) in_RX12 tb_1144 rfl dX12_reads_120 (fun v11 hf => ?_)
              refine g_iload X dX12_reads_123 2 rfl ?_
              refine g_iconst (v := 1) X dX12_reads_125 (by decide) ?_
              refine g_bastore X hf dX12_reads_126 (fun h12 hf => ?_)
              refine g_iinc (v := (x3 + 1)) (lv' := [(0, tR x0), (3, tI (x3 + 1)), (4, tI v8)]) X dX12_reads_127 1 rfl (by rfl) (by decide) (in_pick [1, 0, 2] rfl) ?_
              refine g_goto (tgt := 54) X dX12_reads_130 (by decide) ?_
              refine g_locs (lv' := [(0, tR x0), (3, tI (x3 + 1))]) (in_pick [0, 1] rfl) ?_
              exact ih x0 (x3 + 1) h12 hf
            · exact w_X12_reads_96 X ih x0 x3 h hf
        · exact w_X12_reads_96 X ih x0 x3 h hf
    · refine g_iload_n X dX12_reads_133 1 rfl ?_
      exact g_ireturn X (zW hf) (by decide) (by decide) dX12_reads_134
def b_X12_reads_30    : Nat → Option Nat → Int32 → Int32 → AH → Option (Int32 × AH)
  | 0 => fun _ _ _ _ => none
  | n + 1 => fun x0 x3 x4 h =>
    if x4 < 5 then
      (gR 12 9 h x0).bind fun v1 =>
      (sZ h v1 x4 0).bind fun h2 =>
      b_X12_reads_30 n x0 x3 (x4 + 1) h2
    else
      (ck 12 h x0 (f_X12_next x0 h)).bind fun h3 =>
      b_X12_reads_54 FU x0 x3 h3
set_option maxRecDepth 20000 in
theorem w_X12_reads_30 {K : KT} {w : (Int32 × AH)}   (X : CX K cX12_reads RX12 TB (some .int) "reads" (rmD 37 0 0) 5 0 0)  : ∀ (n : Nat) (x0 : Option Nat) (x3 : Int32) (x4 : Int32) (h : AH), b_X12_reads_30 n x0 x3 x4 h = some w → GG K (some (tI w.1), w.2) 0 0 30 [(0, tR x0), (3, tI x3), (4, tI x4)] [] h := by
  intro n
  induction n with
  | zero =>
    intro x0 x3 x4 h hf
    cases (show none = some w from hf)
  | succ n ih =>
    intro x0 x3 x4 h hf
    rw [b_X12_reads_30] at hf
    refine g_iload X dX12_reads_30 2 rfl ?_
    refine g_iconst (v := 5) X dX12_reads_32 (by decide) ?_
    refine g_icmpge (tgt := 50) X hf dX12_reads_33 (by decide) (fun hf => ?_) (fun hf => ?_)
    · refine g_aload_n X dX12_reads_36 0 rfl ?_
      refine g_getR X hf (T := TX12) rfl (by decide) (by decide) in_RX12 tb_1144 rfl dX12_reads_37 (fun v1 hf => ?_)
      refine g_iload X dX12_reads_40 2 rfl ?_
      refine g_iconst (v := 0) X dX12_reads_42 (by decide) ?_
      refine g_bastore X hf dX12_reads_43 (fun h2 hf => ?_)
      refine g_iinc (v := (x4 + 1)) (lv' := [(0, tR x0), (3, tI x3), (4, tI (x4 + 1))]) X dX12_reads_44 2 rfl (by rfl) (by decide) (in_pick [1, 2, 0] rfl) ?_
      refine g_goto (tgt := 30) X dX12_reads_47 (by decide) ?_
      exact ih x0 x3 (x4 + 1) h2 hf
    · refine g_aload_n X dX12_reads_50 0 rfl ?_
      refine g_callV (n := 0) (av := []) (rest := []) (k := 12) X hf (fun h3 => (none, h3)) (fun _ q => m_X12_next q) (gdV tb_1381 tb_1382 tb_1706 tb_12 tb_1383) rfl (by decide +kernel) rfl (by decide) rfl (by decide) (by decide) rfl (Nat.le_of_ble_eq_true rfl) dX12_reads_51 (fun h3 hf => ?_)
      refine g_locs (lv' := [(0, tR x0), (3, tI x3)]) (in_pick [0, 1] rfl) ?_
      exact w_X12_reads_54 X FU x0 x3 h3 hf
def f_X12_reads  (a0 : Option Nat) (a1 : Int32) (a2 : Int32) (h : AH) : Option (Int32 × AH) :=
  (pI 12 11 h a0 a1).bind fun h1 =>
  (pI 12 12 h1 a0 a2).bind fun h2 =>
  (pI 12 13 h2 a0 0).bind fun h3 =>
  (pI 12 17 h3 a0 (-1)).bind fun h4 =>
  (pI 12 18 h4 a0 0).bind fun h5 =>
  b_X12_reads_30 FU a0 0 0 h5
set_option maxRecDepth 20000 in
theorem m_X12_reads  {a0 : Option Nat} {a1 : Int32} {a2 : Int32} {h : AH} {w : (Int32 × AH)} (hf : f_X12_reads a0 a1 a2 h = some w) : CT yX12_reads (wU yX12_reads cX12_reads 5 (some .int)) (rmD 37 0 0) 0 0 [tR a0, tI a1, tI a2] h (some (tI w.1), w.2) := by
  refine CT.of (cc := cX12_reads) (nL := 5) (ret := (some .int)) (by decide) (by simp [lg_sl, vOf_cat, wOf]) ?_
  intro K X
  refine g_locs (lv' := [(0, tR a0), (1, tI a1), (2, tI a2)]) (fun q hq => hq) ?_
  unfold f_X12_reads at hf
  refine g_aload_n X dX12_reads_0 0 rfl ?_
  refine g_iload_n X dX12_reads_1 1 rfl ?_
  refine g_putI X hf (T := TX12) rfl (by decide) (by decide) in_RX12 tyX12 tyX12_ok nmX12 tb_1146 rfl rfl rfl dX12_reads_2 (fun h1 hf => ?_)
  refine g_aload_n X dX12_reads_5 0 rfl ?_
  refine g_iload_n X dX12_reads_6 2 rfl ?_
  refine g_putI X hf (T := TX12) rfl (by decide) (by decide) in_RX12 tyX12 tyX12_ok nmX12 tb_1147 rfl rfl rfl dX12_reads_7 (fun h2 hf => ?_)
  refine g_aload_n X dX12_reads_10 0 rfl ?_
  refine g_iconst (v := 0) X dX12_reads_11 (by decide) ?_
  refine g_putI X hf (T := TX12) rfl (by decide) (by decide) in_RX12 tyX12 tyX12_ok nmX12 tb_1148 rfl rfl rfl dX12_reads_12 (fun h3 hf => ?_)
  refine g_aload_n X dX12_reads_15 0 rfl ?_
  refine g_iconst (v := (-1)) X dX12_reads_16 (by decide) ?_
  refine g_putI X hf (T := TX12) rfl (by decide) (by decide) in_RX12 tyX12 tyX12_ok nmX12 tb_1152 rfl rfl rfl dX12_reads_17 (fun h4 hf => ?_)
  refine g_aload_n X dX12_reads_20 0 rfl ?_
  refine g_iconst (v := 0) X dX12_reads_21 (by decide) ?_
  refine g_putI X hf (T := TX12) rfl (by decide) (by decide) in_RX12 tyX12 tyX12_ok nmX12 tb_1153 rfl rfl rfl dX12_reads_22 (fun h5 hf => ?_)
  refine g_iconst (v := 0) X dX12_reads_25 (by decide) ?_
  refine g_istore_n (lv' := [(0, tR a0), (1, tI a1), (2, tI a2), (3, tI 0)]) X dX12_reads_26 (by decide) (in_pick [1, 2, 3, 0] rfl) ?_
  refine g_iconst (v := 0) X dX12_reads_27 (by decide) ?_
  refine g_istore (lv' := [(0, tR a0), (1, tI a1), (2, tI a2), (3, tI 0), (4, tI 0)]) X dX12_reads_28 (by decide) (in_pick [1, 2, 3, 4, 0] rfl) ?_
  refine g_locs (lv' := [(0, tR a0), (3, tI 0), (4, tI 0)]) (in_pick [0, 3, 4] rfl) ?_
  exact w_X12_reads_30 X FU a0 0 0 h5 hf
def b_X12_ruled_60   (x0 : Option Nat) (x1 : Int32) (x2 : Int32) (s0 : Option Nat) (s1 : Int32) (s2 : Int32) (h : AH) : Option (Int32 × AH) :=
  (ck 12 h s0 (f_X12_reads s0 s1 s2 h)).bind fun p1 =>
  (gR 12 9 p1.2 x0).bind fun v2 =>
  (aZ p1.2 v2 x1).bind fun v3 =>
  if v3 = 0 then
    some (x2, p1.2)
  else
    (gR 12 10 p1.2 x0).bind fun v4 =>
    (aI p1.2 v4 x1).bind fun v5 =>
    some (v5, p1.2)
set_option maxRecDepth 20000 in
theorem w_X12_ruled_60 {K : KT} {w : (Int32 × AH)}   (X : CX K cX12_ruled RX12 TB (some .int) "ruled" (rmD 38 0 0) 4 0 0)  (x0 : Option Nat) (x1 : Int32) (x2 : Int32) (s0 : Option Nat) (s1 : Int32) (s2 : Int32) (h : AH) (hf : b_X12_ruled_60 x0 x1 x2 s0 s1 s2 h = some w) : GG K (some (tI w.1), w.2) 0 0 60 [(0, tR x0), (1, tI x1), (2, tI x2)] [tI s2, tI s1, tR s0] h := by
  unfold b_X12_ruled_60 at hf
  refine g_callV (n := 2) (av := [tI s1, tI s2]) (rest := []) (k := 12) X hf (fun p1 => (some (tI p1.1), p1.2)) (fun _ q => m_X12_reads q) (gdV tb_1378 tb_1379 tb_1705 tb_12 tb_1380) rfl (by decide +kernel) rfl (by decide) rfl (by decide) (by decide) rfl (Nat.le_of_ble_eq_true rfl) dX12_ruled_60 (fun p1 hf => ?_)
  refine g_istore_n (lv' := [(0, tR x0), (1, tI x1), (2, tI x2), (3, tI p1.1)]) X dX12_ruled_63 (by decide) (in_pick [1, 2, 3, 0] rfl) ?_
  refine g_aload_n X dX12_ruled_64 0 rfl ?_
  refine g_getR X hf (T := TX12) rfl (by decide) (by decide) in_RX12 tb_1144 rfl dX12_ruled_65 (fun v2 hf => ?_)
  refine g_iload_n X dX12_ruled_68 1 rfl ?_
  refine g_baload X hf dX12_ruled_69 (fun v3 hf => ?_)
  refine g_ifeq (tgt := 82) X hf dX12_ruled_70 (by decide) (fun hf => ?_) (fun hf => ?_)
  · refine g_iload_n X dX12_ruled_82 2 rfl ?_
    exact g_ireturn X (zW hf) (by decide) (by decide) dX12_ruled_83
  · refine g_aload_n X dX12_ruled_73 0 rfl ?_
    refine g_getR X hf (T := TX12) rfl (by decide) (by decide) in_RX12 tb_1145 rfl dX12_ruled_74 (fun v4 hf => ?_)
    refine g_iload_n X dX12_ruled_77 1 rfl ?_
    refine g_iaload X hf dX12_ruled_78 (fun v5 hf => ?_)
    refine g_goto (tgt := 83) X dX12_ruled_79 (by decide) ?_
    exact g_ireturn X (zW hf) (by decide) (by decide) dX12_ruled_83
def b_X12_ruled_28   (x0 : Option Nat) (x1 : Int32) (x2 : Int32) (s0 : Option Nat) (s1 : Int32) (s2 : Int32) (s3 : Int32) (h : AH) : Option (Int32 × AH) :=
  (gR 12 0 h x0).bind fun v1 =>
  (aI h v1 7).bind fun v2 =>
  if v2 < 0 then
    b_X12_ruled_60 x0 x1 x2 s0 (s1 + (s2 * s3)) 0 h
  else
    (gR 12 0 h x0).bind fun v3 =>
    (gR 12 0 h x0).bind fun v4 =>
    (aI h v4 7).bind fun v5 =>
    (aI h v3 (1020 + v5)).bind fun v6 =>
    b_X12_ruled_60 x0 x1 x2 s0 (s1 + (s2 * s3)) v6 h
set_option maxRecDepth 20000 in
theorem w_X12_ruled_28 {K : KT} {w : (Int32 × AH)}   (X : CX K cX12_ruled RX12 TB (some .int) "ruled" (rmD 38 0 0) 4 0 0)  (x0 : Option Nat) (x1 : Int32) (x2 : Int32) (s0 : Option Nat) (s1 : Int32) (s2 : Int32) (s3 : Int32) (h : AH) (hf : b_X12_ruled_28 x0 x1 x2 s0 s1 s2 s3 h = some w) : GG K (some (tI w.1), w.2) 0 0 28 [(0, tR x0), (1, tI x1), (2, tI x2)] [tI s3, tI s2, tI s1, tR s0] h := by
  unfold b_X12_ruled_28 at hf
  refine g_imul X dX12_ruled_28 ?_
  refine g_iadd X dX12_ruled_29 ?_
  refine g_aload_n X dX12_ruled_30 0 rfl ?_
  refine g_getR X hf (T := TX12) rfl (by decide) (by decide) in_RX12 tb_1135 rfl dX12_ruled_31 (fun v1 hf => ?_)
  refine g_bipush (v := 7) X dX12_ruled_34 (by decide) ?_
  refine g_iaload X hf dX12_ruled_36 (fun v2 hf => ?_)
  refine g_ifge (tgt := 44) X hf dX12_ruled_37 (by decide) (fun hf => ?_) (fun hf => ?_)
  · refine g_iconst (v := 0) X dX12_ruled_40 (by decide) ?_
    refine g_goto (tgt := 60) X dX12_ruled_41 (by decide) ?_
    exact w_X12_ruled_60 X x0 x1 x2 s0 (s1 + (s2 * s3)) 0 h hf
  · refine g_aload_n X dX12_ruled_44 0 rfl ?_
    refine g_getR X hf (T := TX12) rfl (by decide) (by decide) in_RX12 tb_1135 rfl dX12_ruled_45 (fun v3 hf => ?_)
    refine g_sipush (v := 1020) X dX12_ruled_48 (by decide) ?_
    refine g_aload_n X dX12_ruled_51 0 rfl ?_
    refine g_getR X hf (T := TX12) rfl (by decide) (by decide) in_RX12 tb_1135 rfl dX12_ruled_52 (fun v4 hf => ?_)
    refine g_bipush (v := 7) X dX12_ruled_55 (by decide) ?_
    refine g_iaload X hf dX12_ruled_57 (fun v5 hf => ?_)
    refine g_iadd X dX12_ruled_58 ?_
    refine g_iaload X hf dX12_ruled_59 (fun v6 hf => ?_)
    exact w_X12_ruled_60 X x0 x1 x2 s0 (s1 + (s2 * s3)) v6 h hf
def f_X12_ruled  (a0 : Option Nat) (a1 : Int32) (a2 : Int32) (h : AH) : Option (Int32 × AH) :=
  (gR 12 0 h a0).bind fun v1 =>
  (aI h v1 7).bind fun v2 =>
  if v2 < 0 then
    b_X12_ruled_28 a0 a1 a2 a0 1024 300 0 h
  else
    (gR 12 0 h a0).bind fun v3 =>
    (aI h v3 7).bind fun v4 =>
    b_X12_ruled_28 a0 a1 a2 a0 1024 300 v4 h
set_option maxRecDepth 20000 in
theorem m_X12_ruled  {a0 : Option Nat} {a1 : Int32} {a2 : Int32} {h : AH} {w : (Int32 × AH)} (hf : f_X12_ruled a0 a1 a2 h = some w) : CT yX12_ruled (wU yX12_ruled cX12_ruled 4 (some .int)) (rmD 38 0 0) 0 0 [tR a0, tI a1, tI a2] h (some (tI w.1), w.2) := by
  refine CT.of (cc := cX12_ruled) (nL := 4) (ret := (some .int)) (by decide) (by simp [lg_sl, vOf_cat, wOf]) ?_
  intro K X
  refine g_locs (lv' := [(0, tR a0), (1, tI a1), (2, tI a2)]) (fun q hq => hq) ?_
  unfold f_X12_ruled at hf
  refine g_aload_n X dX12_ruled_0 0 rfl ?_
  refine g_sipush (v := 1024) X dX12_ruled_1 (by decide) ?_
  refine g_sipush (v := 300) X dX12_ruled_4 (by decide) ?_
  refine g_aload_n X dX12_ruled_7 0 rfl ?_
  refine g_getR X hf (T := TX12) rfl (by decide) (by decide) in_RX12 tb_1135 rfl dX12_ruled_8 (fun v1 hf => ?_)
  refine g_bipush (v := 7) X dX12_ruled_11 (by decide) ?_
  refine g_iaload X hf dX12_ruled_13 (fun v2 hf => ?_)
  refine g_ifge (tgt := 21) X hf dX12_ruled_14 (by decide) (fun hf => ?_) (fun hf => ?_)
  · refine g_iconst (v := 0) X dX12_ruled_17 (by decide) ?_
    refine g_goto (tgt := 28) X dX12_ruled_18 (by decide) ?_
    exact w_X12_ruled_28 X a0 a1 a2 a0 1024 300 0 h hf
  · refine g_aload_n X dX12_ruled_21 0 rfl ?_
    refine g_getR X hf (T := TX12) rfl (by decide) (by decide) in_RX12 tb_1135 rfl dX12_ruled_22 (fun v3 hf => ?_)
    refine g_bipush (v := 7) X dX12_ruled_25 (by decide) ?_
    refine g_iaload X hf dX12_ruled_27 (fun v4 hf => ?_)
    exact w_X12_ruled_28 X a0 a1 a2 a0 1024 300 v4 h hf
def b_X12_isGood_132   (x0 : Option Nat) (x1 : Int32) (s0 : Option Nat) (s1 : Int32) (s2 : Int32) (h : AH) : Option (Int32 × AH) :=
  (sI h s0 s1 s2).bind fun h1 =>
  (gR 12 8 h1 x0).bind fun v2 =>
  (gR 12 0 h1 x0).bind fun v3 =>
  (aI h1 v3 (851 + x1)).bind fun v4 =>
  (sI h1 v2 6 v4).bind fun h5 =>
  (gR 12 8 h5 x0).bind fun v6 =>
  (aI h5 v6 0).bind fun v7 =>
  (ck 12 h5 x0 (f_X12_ruled x0 0 v7 h5)).bind fun p8 =>
  if p8.1 = 0 then
    some (0, p8.2)
  else
    some (1, p8.2)
set_option maxRecDepth 20000 in
theorem w_X12_isGood_132 {K : KT} {w : (Int32 × AH)}   (X : CX K cX12_isGood RX12 TB (some .boolean) "isGood" (rmD 39 0 0) 3 0 0)  (x0 : Option Nat) (x1 : Int32) (s0 : Option Nat) (s1 : Int32) (s2 : Int32) (h : AH) (hf : b_X12_isGood_132 x0 x1 s0 s1 s2 h = some w) : GG K (some (tI w.1), w.2) 0 0 132 [(0, tR x0), (1, tI x1)] [tI s2, tI s1, tR s0] h := by
  unfold b_X12_isGood_132 at hf
  refine g_iastore X hf dX12_isGood_132 (fun h1 hf => ?_)
  refine g_aload_n X dX12_isGood_133 0 rfl ?_
  refine g_getR X hf (T := TX12) rfl (by decide) (by decide) in_RX12 tb_1143 rfl dX12_isGood_134 (fun v2 hf => ?_)
  refine g_bipush (v := 6) X dX12_isGood_137 (by decide) ?_
  refine g_aload_n X dX12_isGood_139 0 rfl ?_
  refine g_getR X hf (T := TX12) rfl (by decide) (by decide) in_RX12 tb_1135 rfl dX12_isGood_140 (fun v3 hf => ?_)
  refine g_sipush (v := 851) X dX12_isGood_143 (by decide) ?_
  refine g_iload_n X dX12_isGood_146 1 rfl ?_
  refine g_iadd X dX12_isGood_147 ?_
  refine g_iaload X hf dX12_isGood_148 (fun v4 hf => ?_)
  refine g_iastore X hf dX12_isGood_149 (fun h5 hf => ?_)
  refine g_aload_n X dX12_isGood_150 0 rfl ?_
  refine g_iconst (v := 0) X dX12_isGood_151 (by decide) ?_
  refine g_aload_n X dX12_isGood_152 0 rfl ?_
  refine g_getR X hf (T := TX12) rfl (by decide) (by decide) in_RX12 tb_1143 rfl dX12_isGood_153 (fun v6 hf => ?_)
  refine g_iconst (v := 0) X dX12_isGood_156 (by decide) ?_
  refine g_iaload X hf dX12_isGood_157 (fun v7 hf => ?_)
  refine g_callV (n := 2) (av := [tI 0, tI v7]) (rest := []) (k := 12) X hf (fun p8 => (some (tI p8.1), p8.2)) (fun _ q => m_X12_ruled q) (gdV tb_1375 tb_1376 tb_1704 tb_12 tb_1377) rfl (by decide +kernel) rfl (by decide) rfl (by decide) (by decide) rfl (Nat.le_of_ble_eq_true rfl) dX12_isGood_158 (fun p8 hf => ?_)
  refine g_ifeq (tgt := 168) X hf dX12_isGood_161 (by decide) (fun hf => ?_) (fun hf => ?_)
  · refine g_iconst (v := 0) X dX12_isGood_168 (by decide) ?_
    exact g_zreturn X (zW hf) (by decide) (by decide) (by decide) dX12_isGood_169
  · refine g_iconst (v := 1) X dX12_isGood_164 (by decide) ?_
    refine g_goto (tgt := 169) X dX12_isGood_165 (by decide) ?_
    exact g_zreturn X (zW hf) (by decide) (by decide) (by decide) dX12_isGood_169
def b_X12_isGood_108   (x0 : Option Nat) (x1 : Int32) (s0 : Option Nat) (s1 : Int32) (s2 : Int32) (h : AH) : Option (Int32 × AH) :=
  (sI h s0 s1 s2).bind fun h1 =>
  (gR 12 8 h1 x0).bind fun v2 =>
  (gR 12 0 h1 x0).bind fun v3 =>
  (aI h1 v3 (811 + x1)).bind fun v4 =>
  if 0 < v4 then
    b_X12_isGood_132 x0 x1 v2 5 1 h1
  else
    b_X12_isGood_132 x0 x1 v2 5 0 h1
set_option maxRecDepth 20000 in
theorem w_X12_isGood_108 {K : KT} {w : (Int32 × AH)}   (X : CX K cX12_isGood RX12 TB (some .boolean) "isGood" (rmD 39 0 0) 3 0 0)  (x0 : Option Nat) (x1 : Int32) (s0 : Option Nat) (s1 : Int32) (s2 : Int32) (h : AH) (hf : b_X12_isGood_108 x0 x1 s0 s1 s2 h = some w) : GG K (some (tI w.1), w.2) 0 0 108 [(0, tR x0), (1, tI x1)] [tI s2, tI s1, tR s0] h := by
  unfold b_X12_isGood_108 at hf
  refine g_iastore X hf dX12_isGood_108 (fun h1 hf => ?_)
  refine g_aload_n X dX12_isGood_109 0 rfl ?_
  refine g_getR X hf (T := TX12) rfl (by decide) (by decide) in_RX12 tb_1143 rfl dX12_isGood_110 (fun v2 hf => ?_)
  refine g_iconst (v := 5) X dX12_isGood_113 (by decide) ?_
  refine g_aload_n X dX12_isGood_114 0 rfl ?_
  refine g_getR X hf (T := TX12) rfl (by decide) (by decide) in_RX12 tb_1135 rfl dX12_isGood_115 (fun v3 hf => ?_)
  refine g_sipush (v := 811) X dX12_isGood_118 (by decide) ?_
  refine g_iload_n X dX12_isGood_121 1 rfl ?_
  refine g_iadd X dX12_isGood_122 ?_
  refine g_iaload X hf dX12_isGood_123 (fun v4 hf => ?_)
  refine g_ifle (tgt := 131) X hf dX12_isGood_124 (by decide) (fun hf => ?_) (fun hf => ?_)
  · refine g_iconst (v := 1) X dX12_isGood_127 (by decide) ?_
    refine g_goto (tgt := 132) X dX12_isGood_128 (by decide) ?_
    exact w_X12_isGood_132 X x0 x1 v2 5 1 h1 hf
  · refine g_iconst (v := 0) X dX12_isGood_131 (by decide) ?_
    exact w_X12_isGood_132 X x0 x1 v2 5 0 h1 hf
def b_X12_isGood_84   (x0 : Option Nat) (x1 : Int32) (s0 : Option Nat) (s1 : Int32) (s2 : Int32) (h : AH) : Option (Int32 × AH) :=
  (sI h s0 s1 s2).bind fun h1 =>
  (gR 12 8 h1 x0).bind fun v2 =>
  (gR 12 0 h1 x0).bind fun v3 =>
  (aI h1 v3 (771 + x1)).bind fun v4 =>
  if v4 < 0 then
    b_X12_isGood_108 x0 x1 v2 4 0 h1
  else
    b_X12_isGood_108 x0 x1 v2 4 1 h1
set_option maxRecDepth 20000 in
theorem w_X12_isGood_84 {K : KT} {w : (Int32 × AH)}   (X : CX K cX12_isGood RX12 TB (some .boolean) "isGood" (rmD 39 0 0) 3 0 0)  (x0 : Option Nat) (x1 : Int32) (s0 : Option Nat) (s1 : Int32) (s2 : Int32) (h : AH) (hf : b_X12_isGood_84 x0 x1 s0 s1 s2 h = some w) : GG K (some (tI w.1), w.2) 0 0 84 [(0, tR x0), (1, tI x1)] [tI s2, tI s1, tR s0] h := by
  unfold b_X12_isGood_84 at hf
  refine g_iastore X hf dX12_isGood_84 (fun h1 hf => ?_)
  refine g_aload_n X dX12_isGood_85 0 rfl ?_
  refine g_getR X hf (T := TX12) rfl (by decide) (by decide) in_RX12 tb_1143 rfl dX12_isGood_86 (fun v2 hf => ?_)
  refine g_iconst (v := 4) X dX12_isGood_89 (by decide) ?_
  refine g_aload_n X dX12_isGood_90 0 rfl ?_
  refine g_getR X hf (T := TX12) rfl (by decide) (by decide) in_RX12 tb_1135 rfl dX12_isGood_91 (fun v3 hf => ?_)
  refine g_sipush (v := 771) X dX12_isGood_94 (by decide) ?_
  refine g_iload_n X dX12_isGood_97 1 rfl ?_
  refine g_iadd X dX12_isGood_98 ?_
  refine g_iaload X hf dX12_isGood_99 (fun v4 hf => ?_)
  refine g_iflt (tgt := 107) X hf dX12_isGood_100 (by decide) (fun hf => ?_) (fun hf => ?_)
  · refine g_iconst (v := 0) X dX12_isGood_107 (by decide) ?_
    exact w_X12_isGood_108 X x0 x1 v2 4 0 h1 hf
  · refine g_iconst (v := 1) X dX12_isGood_103 (by decide) ?_
    refine g_goto (tgt := 108) X dX12_isGood_104 (by decide) ?_
    exact w_X12_isGood_108 X x0 x1 v2 4 1 h1 hf
def b_X12_isGood_60   (x0 : Option Nat) (x1 : Int32) (s0 : Option Nat) (s1 : Int32) (s2 : Int32) (h : AH) : Option (Int32 × AH) :=
  (sI h s0 s1 s2).bind fun h1 =>
  (gR 12 8 h1 x0).bind fun v2 =>
  (gR 12 0 h1 x0).bind fun v3 =>
  (aI h1 v3 (731 + x1)).bind fun v4 =>
  if v4 < 0 then
    b_X12_isGood_84 x0 x1 v2 3 0 h1
  else
    b_X12_isGood_84 x0 x1 v2 3 1 h1
set_option maxRecDepth 20000 in
theorem w_X12_isGood_60 {K : KT} {w : (Int32 × AH)}   (X : CX K cX12_isGood RX12 TB (some .boolean) "isGood" (rmD 39 0 0) 3 0 0)  (x0 : Option Nat) (x1 : Int32) (s0 : Option Nat) (s1 : Int32) (s2 : Int32) (h : AH) (hf : b_X12_isGood_60 x0 x1 s0 s1 s2 h = some w) : GG K (some (tI w.1), w.2) 0 0 60 [(0, tR x0), (1, tI x1)] [tI s2, tI s1, tR s0] h := by
  unfold b_X12_isGood_60 at hf
  refine g_iastore X hf dX12_isGood_60 (fun h1 hf => ?_)
  refine g_aload_n X dX12_isGood_61 0 rfl ?_
  refine g_getR X hf (T := TX12) rfl (by decide) (by decide) in_RX12 tb_1143 rfl dX12_isGood_62 (fun v2 hf => ?_)
  refine g_iconst (v := 3) X dX12_isGood_65 (by decide) ?_
  refine g_aload_n X dX12_isGood_66 0 rfl ?_
  refine g_getR X hf (T := TX12) rfl (by decide) (by decide) in_RX12 tb_1135 rfl dX12_isGood_67 (fun v3 hf => ?_)
  refine g_sipush (v := 731) X dX12_isGood_70 (by decide) ?_
  refine g_iload_n X dX12_isGood_73 1 rfl ?_
  refine g_iadd X dX12_isGood_74 ?_
  refine g_iaload X hf dX12_isGood_75 (fun v4 hf => ?_)
  refine g_iflt (tgt := 83) X hf dX12_isGood_76 (by decide) (fun hf => ?_) (fun hf => ?_)
  · refine g_iconst (v := 0) X dX12_isGood_83 (by decide) ?_
    exact w_X12_isGood_84 X x0 x1 v2 3 0 h1 hf
  · refine g_iconst (v := 1) X dX12_isGood_79 (by decide) ?_
    refine g_goto (tgt := 84) X dX12_isGood_80 (by decide) ?_
    exact w_X12_isGood_84 X x0 x1 v2 3 1 h1 hf
def b_X12_isGood_36   (x0 : Option Nat) (x1 : Int32) (s0 : Option Nat) (s1 : Int32) (s2 : Int32) (h : AH) : Option (Int32 × AH) :=
  (sI h s0 s1 s2).bind fun h1 =>
  (gR 12 8 h1 x0).bind fun v2 =>
  (gR 12 0 h1 x0).bind fun v3 =>
  (aI h1 v3 (691 + x1)).bind fun v4 =>
  if 0 < v4 then
    b_X12_isGood_60 x0 x1 v2 2 1 h1
  else
    b_X12_isGood_60 x0 x1 v2 2 0 h1
set_option maxRecDepth 20000 in
theorem w_X12_isGood_36 {K : KT} {w : (Int32 × AH)}   (X : CX K cX12_isGood RX12 TB (some .boolean) "isGood" (rmD 39 0 0) 3 0 0)  (x0 : Option Nat) (x1 : Int32) (s0 : Option Nat) (s1 : Int32) (s2 : Int32) (h : AH) (hf : b_X12_isGood_36 x0 x1 s0 s1 s2 h = some w) : GG K (some (tI w.1), w.2) 0 0 36 [(0, tR x0), (1, tI x1)] [tI s2, tI s1, tR s0] h := by
  unfold b_X12_isGood_36 at hf
  refine g_iastore X hf dX12_isGood_36 (fun h1 hf => ?_)
  refine g_aload_n X dX12_isGood_37 0 rfl ?_
  refine g_getR X hf (T := TX12) rfl (by decide) (by decide) in_RX12 tb_1143 rfl dX12_isGood_38 (fun v2 hf => ?_)
  refine g_iconst (v := 2) X dX12_isGood_41 (by decide) ?_
  refine g_aload_n X dX12_isGood_42 0 rfl ?_
  refine g_getR X hf (T := TX12) rfl (by decide) (by decide) in_RX12 tb_1135 rfl dX12_isGood_43 (fun v3 hf => ?_)
  refine g_sipush (v := 691) X dX12_isGood_46 (by decide) ?_
  refine g_iload_n X dX12_isGood_49 1 rfl ?_
  refine g_iadd X dX12_isGood_50 ?_
  refine g_iaload X hf dX12_isGood_51 (fun v4 hf => ?_)
  refine g_ifle (tgt := 59) X hf dX12_isGood_52 (by decide) (fun hf => ?_) (fun hf => ?_)
  · refine g_iconst (v := 1) X dX12_isGood_55 (by decide) ?_
    refine g_goto (tgt := 60) X dX12_isGood_56 (by decide) ?_
    exact w_X12_isGood_60 X x0 x1 v2 2 1 h1 hf
  · refine g_iconst (v := 0) X dX12_isGood_59 (by decide) ?_
    exact w_X12_isGood_60 X x0 x1 v2 2 0 h1 hf
def b_X12_isGood_20   (x0 : Option Nat) (x1 : Int32) (x2 : Int32) (s0 : Option Nat) (s1 : Int32) (s2 : Int32) (h : AH) : Option (Int32 × AH) :=
  (sI h s0 s1 s2).bind fun h1 =>
  (gR 12 8 h1 x0).bind fun v2 =>
  if x2 = 1 then
    b_X12_isGood_36 x0 x1 v2 1 1 h1
  else
    b_X12_isGood_36 x0 x1 v2 1 0 h1
set_option maxRecDepth 20000 in
theorem w_X12_isGood_20 {K : KT} {w : (Int32 × AH)}   (X : CX K cX12_isGood RX12 TB (some .boolean) "isGood" (rmD 39 0 0) 3 0 0)  (x0 : Option Nat) (x1 : Int32) (x2 : Int32) (s0 : Option Nat) (s1 : Int32) (s2 : Int32) (h : AH) (hf : b_X12_isGood_20 x0 x1 x2 s0 s1 s2 h = some w) : GG K (some (tI w.1), w.2) 0 0 20 [(0, tR x0), (1, tI x1), (2, tI x2)] [tI s2, tI s1, tR s0] h := by
  unfold b_X12_isGood_20 at hf
  refine g_iastore X hf dX12_isGood_20 (fun h1 hf => ?_)
  refine g_aload_n X dX12_isGood_21 0 rfl ?_
  refine g_getR X hf (T := TX12) rfl (by decide) (by decide) in_RX12 tb_1143 rfl dX12_isGood_22 (fun v2 hf => ?_)
  refine g_iconst (v := 1) X dX12_isGood_25 (by decide) ?_
  refine g_iload_n X dX12_isGood_26 2 rfl ?_
  refine g_iconst (v := 1) X dX12_isGood_27 (by decide) ?_
  refine g_icmpne (tgt := 35) X hf dX12_isGood_28 (by decide) (fun hf => ?_) (fun hf => ?_)
  · refine g_iconst (v := 1) X dX12_isGood_31 (by decide) ?_
    refine g_goto (tgt := 36) X dX12_isGood_32 (by decide) ?_
    refine g_locs (lv' := [(0, tR x0), (1, tI x1)]) (in_pick [0, 1] rfl) ?_
    exact w_X12_isGood_36 X x0 x1 v2 1 1 h1 hf
  · refine g_iconst (v := 0) X dX12_isGood_35 (by decide) ?_
    refine g_locs (lv' := [(0, tR x0), (1, tI x1)]) (in_pick [0, 1] rfl) ?_
    exact w_X12_isGood_36 X x0 x1 v2 1 0 h1 hf
def f_X12_isGood  (a0 : Option Nat) (a1 : Int32) (h : AH) : Option (Int32 × AH) :=
  (ck 12 h a0 (f_X12_meaning a0 a1 h)).bind fun p1 =>
  (gR 12 8 p1.2 a0).bind fun v2 =>
  if 0 < p1.1 then
    b_X12_isGood_20 a0 a1 p1.1 v2 0 1 p1.2
  else
    b_X12_isGood_20 a0 a1 p1.1 v2 0 0 p1.2
set_option maxRecDepth 20000 in
theorem m_X12_isGood  {a0 : Option Nat} {a1 : Int32} {h : AH} {w : (Int32 × AH)} (hf : f_X12_isGood a0 a1 h = some w) : CT yX12_isGood (wU yX12_isGood cX12_isGood 3 (some .boolean)) (rmD 39 0 0) 0 0 [tR a0, tI a1] h (some (tI w.1), w.2) := by
  refine CT.of (cc := cX12_isGood) (nL := 3) (ret := (some .boolean)) (by decide) (by simp [lg_sl, vOf_cat, wOf]) ?_
  intro K X
  refine g_locs (lv' := [(0, tR a0), (1, tI a1)]) (fun q hq => hq) ?_
  unfold f_X12_isGood at hf
  refine g_aload_n X dX12_isGood_0 0 rfl ?_
  refine g_iload_n X dX12_isGood_1 1 rfl ?_
  refine g_callV (n := 1) (av := [tI a1]) (rest := []) (k := 12) X hf (fun p1 => (some (tI p1.1), p1.2)) (fun _ q => m_X12_meaning q) (gdV tb_1360 tb_1361 tb_1700 tb_12 tb_1362) rfl (by decide +kernel) rfl (by decide) rfl (by decide) (by decide) rfl (Nat.le_of_ble_eq_true rfl) dX12_isGood_2 (fun p1 hf => ?_)
  refine g_istore_n (lv' := [(0, tR a0), (1, tI a1), (2, tI p1.1)]) X dX12_isGood_5 (by decide) (in_pick [1, 2, 0] rfl) ?_
  refine g_aload_n X dX12_isGood_6 0 rfl ?_
  refine g_getR X hf (T := TX12) rfl (by decide) (by decide) in_RX12 tb_1143 rfl dX12_isGood_7 (fun v2 hf => ?_)
  refine g_iconst (v := 0) X dX12_isGood_10 (by decide) ?_
  refine g_iload_n X dX12_isGood_11 2 rfl ?_
  refine g_ifle (tgt := 19) X hf dX12_isGood_12 (by decide) (fun hf => ?_) (fun hf => ?_)
  · refine g_iconst (v := 1) X dX12_isGood_15 (by decide) ?_
    refine g_goto (tgt := 20) X dX12_isGood_16 (by decide) ?_
    exact w_X12_isGood_20 X a0 a1 p1.1 v2 0 1 p1.2 hf
  · refine g_iconst (v := 0) X dX12_isGood_19 (by decide) ?_
    exact w_X12_isGood_20 X a0 a1 p1.1 v2 0 0 p1.2 hf
def f_X12_sherdOf  (a0 : Option Nat) (a1 : Int32) (a2 : Int32) (h : AH) : Option (Int32 × AH) :=
  (ck 12 h a0 (f_X12_isSherd a0 a1 h)).bind fun v1 =>
  if v1 = 0 then
    some ((-1), h)
  else
    (f_X12_in a2 0 11 h).bind fun v2 =>
    if v2 = 0 then
      some ((-1), h)
    else
      if a2 < 0 ∨ 10 < a2 then
        (ck 12 h a0 (f_X12_isGood a0 a1 h)).bind fun p3 =>
        if p3.1 = 0 then
          some (0, p3.2)
        else
          some (1, p3.2)
      else if a2 = 0 then
        (gR 12 0 h a0).bind fun v4 =>
        (aI h v4 (651 + a1)).bind fun v5 =>
        some (v5, h)
      else if a2 = 1 then
        (gR 12 0 h a0).bind fun v6 =>
        (aI h v6 (691 + a1)).bind fun v7 =>
        some (v7, h)
      else if a2 = 2 then
        (gR 12 0 h a0).bind fun v8 =>
        (aI h v8 (731 + a1)).bind fun v9 =>
        if v9 < 0 then
          some ((-3), h)
        else
          (gR 12 0 h a0).bind fun v10 =>
          (aI h v10 (731 + a1)).bind fun v11 =>
          some (v11, h)
      else if a2 = 3 then
        (gR 12 0 h a0).bind fun v12 =>
        (aI h v12 (771 + a1)).bind fun v13 =>
        if v13 < 0 then
          some ((-3), h)
        else
          (gR 12 0 h a0).bind fun v14 =>
          (aI h v14 (771 + a1)).bind fun v15 =>
          some (v15, h)
      else if a2 = 4 then
        (gR 12 0 h a0).bind fun v16 =>
        (aI h v16 (811 + a1)).bind fun v17 =>
        some (v17, h)
      else if a2 = 5 then
        (gR 12 0 h a0).bind fun v18 =>
        (aI h v18 (851 + a1)).bind fun v19 =>
        some (v19, h)
      else if a2 = 6 then
        (gR 12 0 h a0).bind fun v20 =>
        (aI h v20 (891 + a1)).bind fun v21 =>
        some (v21, h)
      else if a2 = 7 then
        (gR 12 0 h a0).bind fun v22 =>
        (aI h v22 (931 + a1)).bind fun v23 =>
        some (v23, h)
      else if a2 = 8 then
        (gR 12 0 h a0).bind fun v24 =>
        (aI h v24 (971 + a1)).bind fun v25 =>
        if v25 < 0 then
          some ((-3), h)
        else
          (gR 12 0 h a0).bind fun v26 =>
          (aI h v26 (971 + a1)).bind fun v27 =>
          some (v27, h)
      else if a2 = 9 then
        (ck 12 h a0 (f_X12_meaning a0 a1 h)).bind fun p28 =>
        some (p28.1, p28.2)
      else if a2 = 10 then
        (ck 12 h a0 (f_X12_meant a0 a1 h)).bind fun p29 =>
        some (p29.1, p29.2)
      else none
set_option maxRecDepth 20000 in
theorem m_X12_sherdOf  {a0 : Option Nat} {a1 : Int32} {a2 : Int32} {h : AH} {w : (Int32 × AH)} (hf : f_X12_sherdOf a0 a1 a2 h = some w) : CT yX12_sherdOf (wU yX12_sherdOf cX12_sherdOf 3 (some .int)) (rmD 40 0 0) 0 0 [tR a0, tI a1, tI a2] h (some (tI w.1), w.2) := by
  refine CT.of (cc := cX12_sherdOf) (nL := 3) (ret := (some .int)) (by decide) (by simp [lg_sl, vOf_cat, wOf]) ?_
  intro K X
  refine g_locs (lv' := [(0, tR a0), (1, tI a1), (2, tI a2)]) (fun q hq => hq) ?_
  unfold f_X12_sherdOf at hf
  refine g_aload_n X dX12_sherdOf_0 0 rfl ?_
  refine g_iload_n X dX12_sherdOf_1 1 rfl ?_
  refine g_callV (n := 1) (av := [tI a1]) (rest := []) (k := 12) X hf (fun v1 => (some (tI v1), h)) (fun _ q => m_X12_isSherd q) (gdV tb_1343 tb_1344 tb_1698 tb_12 tb_1345) rfl (by decide +kernel) rfl (by decide) rfl (by decide) (by decide) rfl (Nat.le_of_ble_eq_true rfl) dX12_sherdOf_2 (fun v1 hf => ?_)
  refine g_ifeq (tgt := 18) X hf dX12_sherdOf_5 (by decide) (fun hf => ?_) (fun hf => ?_)
  · refine g_iconst (v := (-1)) X dX12_sherdOf_18 (by decide) ?_
    exact g_ireturn X (zW hf) (by decide) (by decide) dX12_sherdOf_19
  · refine g_iload_n X dX12_sherdOf_8 2 rfl ?_
    refine g_iconst (v := 0) X dX12_sherdOf_9 (by decide) ?_
    refine g_bipush (v := 11) X dX12_sherdOf_10 (by decide) ?_
    refine g_callS (n := 3) (av := [tI a2, tI 0, tI 11]) (rest := []) X hf (fun v2 => (some (tI v2), h)) (fun _ q => m_X12_in q) (gdS tb_1226 tb_1227 tb_12 tb_1228) rfl (by decide +kernel) rfl (by decide) (by decide) rfl (Nat.le_of_ble_eq_true rfl) dX12_sherdOf_12 (fun v2 hf => ?_)
    refine g_ifne (tgt := 20) X hf dX12_sherdOf_15 (by decide) (fun hf => ?_) (fun hf => ?_)
    · refine g_iconst (v := (-1)) X dX12_sherdOf_18 (by decide) ?_
      exact g_ireturn X (zW hf) (by decide) (by decide) dX12_sherdOf_19
    · refine g_iload_n X dX12_sherdOf_20 2 rfl ?_
      by_cases hsw : a2 < 0 ∨ 10 < a2
      · rw [if_pos hsw] at hf
        refine g_tabOut (tgt := 245) X dX12_sherdOf_21 (tab_out hsw) (by decide) ?_
        refine g_aload_n X dX12_sherdOf_245 0 rfl ?_
        refine g_iload_n X dX12_sherdOf_246 1 rfl ?_
        refine g_callV (n := 1) (av := [tI a1]) (rest := []) (k := 12) X hf (fun p3 => (some (tI p3.1), p3.2)) (fun _ q => m_X12_isGood q) (gdV tb_1372 tb_1373 tb_1703 tb_12 tb_1374) rfl (by decide +kernel) rfl (by decide) rfl (by decide) (by decide) rfl (Nat.le_of_ble_eq_true rfl) dX12_sherdOf_247 (fun p3 hf => ?_)
        refine g_ifeq (tgt := 257) X hf dX12_sherdOf_250 (by decide) (fun hf => ?_) (fun hf => ?_)
        · refine g_iconst (v := 0) X dX12_sherdOf_257 (by decide) ?_
          exact g_ireturn X (zW hf) (by decide) (by decide) dX12_sherdOf_258
        · refine g_iconst (v := 1) X dX12_sherdOf_253 (by decide) ?_
          refine g_goto (tgt := 258) X dX12_sherdOf_254 (by decide) ?_
          exact g_ireturn X (zW hf) (by decide) (by decide) dX12_sherdOf_258
      rw [if_neg hsw] at hf
      by_cases hs0 : a2 = 0
      · rw [if_pos hs0] at hf
        refine g_tabIn (off := 59) (tgt := 80) X 0 hs0 dX12_sherdOf_21 (by decide) (by decide) (by decide +kernel) (by decide) ?_
        refine g_aload_n X dX12_sherdOf_80 0 rfl ?_
        refine g_getR X hf (T := TX12) rfl (by decide) (by decide) in_RX12 tb_1135 rfl dX12_sherdOf_81 (fun v4 hf => ?_)
        refine g_sipush (v := 651) X dX12_sherdOf_84 (by decide) ?_
        refine g_iload_n X dX12_sherdOf_87 1 rfl ?_
        refine g_iadd X dX12_sherdOf_88 ?_
        refine g_iaload X hf dX12_sherdOf_89 (fun v5 hf => ?_)
        exact g_ireturn X (zW hf) (by decide) (by decide) dX12_sherdOf_90
      rw [if_neg hs0] at hf
      by_cases hs1 : a2 = 1
      · rw [if_pos hs1] at hf
        refine g_tabIn (off := 70) (tgt := 91) X 1 hs1 dX12_sherdOf_21 (by decide) (by decide) (by decide +kernel) (by decide) ?_
        refine g_aload_n X dX12_sherdOf_91 0 rfl ?_
        refine g_getR X hf (T := TX12) rfl (by decide) (by decide) in_RX12 tb_1135 rfl dX12_sherdOf_92 (fun v6 hf => ?_)
        refine g_sipush (v := 691) X dX12_sherdOf_95 (by decide) ?_
        refine g_iload_n X dX12_sherdOf_98 1 rfl ?_
        refine g_iadd X dX12_sherdOf_99 ?_
        refine g_iaload X hf dX12_sherdOf_100 (fun v7 hf => ?_)
        exact g_ireturn X (zW hf) (by decide) (by decide) dX12_sherdOf_101
      rw [if_neg hs1] at hf
      by_cases hs2 : a2 = 2
      · rw [if_pos hs2] at hf
        refine g_tabIn (off := 81) (tgt := 102) X 2 hs2 dX12_sherdOf_21 (by decide) (by decide) (by decide +kernel) (by decide) ?_
        refine g_aload_n X dX12_sherdOf_102 0 rfl ?_
        refine g_getR X hf (T := TX12) rfl (by decide) (by decide) in_RX12 tb_1135 rfl dX12_sherdOf_103 (fun v8 hf => ?_)
        refine g_sipush (v := 731) X dX12_sherdOf_106 (by decide) ?_
        refine g_iload_n X dX12_sherdOf_109 1 rfl ?_
        refine g_iadd X dX12_sherdOf_110 ?_
        refine g_iaload X hf dX12_sherdOf_111 (fun v9 hf => ?_)
        refine g_ifge (tgt := 120) X hf dX12_sherdOf_112 (by decide) (fun hf => ?_) (fun hf => ?_)
        · refine g_bipush (v := (-3)) X dX12_sherdOf_115 (by decide) ?_
          refine g_goto (tgt := 130) X dX12_sherdOf_117 (by decide) ?_
          exact g_ireturn X (zW hf) (by decide) (by decide) dX12_sherdOf_130
        · refine g_aload_n X dX12_sherdOf_120 0 rfl ?_
          refine g_getR X hf (T := TX12) rfl (by decide) (by decide) in_RX12 tb_1135 rfl dX12_sherdOf_121 (fun v10 hf => ?_)
          refine g_sipush (v := 731) X dX12_sherdOf_124 (by decide) ?_
          refine g_iload_n X dX12_sherdOf_127 1 rfl ?_
          refine g_iadd X dX12_sherdOf_128 ?_
          refine g_iaload X hf dX12_sherdOf_129 (fun v11 hf => ?_)
          exact g_ireturn X (zW hf) (by decide) (by decide) dX12_sherdOf_130
      rw [if_neg hs2] at hf
      by_cases hs3 : a2 = 3
      · rw [if_pos hs3] at hf
        refine g_tabIn (off := 110) (tgt := 131) X 3 hs3 dX12_sherdOf_21 (by decide) (by decide) (by decide +kernel) (by decide) ?_
        refine g_aload_n X dX12_sherdOf_131 0 rfl ?_
        refine g_getR X hf (T := TX12) rfl (by decide) (by decide) in_RX12 tb_1135 rfl dX12_sherdOf_132 (fun v12 hf => ?_)
        refine g_sipush (v := 771) X dX12_sherdOf_135 (by decide) ?_
        refine g_iload_n X dX12_sherdOf_138 1 rfl ?_
        refine g_iadd X dX12_sherdOf_139 ?_
        refine g_iaload X hf dX12_sherdOf_140 (fun v13 hf => ?_)
        refine g_ifge (tgt := 149) X hf dX12_sherdOf_141 (by decide) (fun hf => ?_) (fun hf => ?_)
        · refine g_bipush (v := (-3)) X dX12_sherdOf_144 (by decide) ?_
          refine g_goto (tgt := 159) X dX12_sherdOf_146 (by decide) ?_
          exact g_ireturn X (zW hf) (by decide) (by decide) dX12_sherdOf_159
        · refine g_aload_n X dX12_sherdOf_149 0 rfl ?_
          refine g_getR X hf (T := TX12) rfl (by decide) (by decide) in_RX12 tb_1135 rfl dX12_sherdOf_150 (fun v14 hf => ?_)
          refine g_sipush (v := 771) X dX12_sherdOf_153 (by decide) ?_
          refine g_iload_n X dX12_sherdOf_156 1 rfl ?_
          refine g_iadd X dX12_sherdOf_157 ?_
          refine g_iaload X hf dX12_sherdOf_158 (fun v15 hf => ?_)
          exact g_ireturn X (zW hf) (by decide) (by decide) dX12_sherdOf_159
      rw [if_neg hs3] at hf
      by_cases hs4 : a2 = 4
      · rw [if_pos hs4] at hf
        refine g_tabIn (off := 139) (tgt := 160) X 4 hs4 dX12_sherdOf_21 (by decide) (by decide) (by decide +kernel) (by decide) ?_
        refine g_aload_n X dX12_sherdOf_160 0 rfl ?_
        refine g_getR X hf (T := TX12) rfl (by decide) (by decide) in_RX12 tb_1135 rfl dX12_sherdOf_161 (fun v16 hf => ?_)
        refine g_sipush (v := 811) X dX12_sherdOf_164 (by decide) ?_
        refine g_iload_n X dX12_sherdOf_167 1 rfl ?_
        refine g_iadd X dX12_sherdOf_168 ?_
        refine g_iaload X hf dX12_sherdOf_169 (fun v17 hf => ?_)
        exact g_ireturn X (zW hf) (by decide) (by decide) dX12_sherdOf_170
      rw [if_neg hs4] at hf
      by_cases hs5 : a2 = 5
      · rw [if_pos hs5] at hf
        refine g_tabIn (off := 150) (tgt := 171) X 5 hs5 dX12_sherdOf_21 (by decide) (by decide) (by decide +kernel) (by decide) ?_
        refine g_aload_n X dX12_sherdOf_171 0 rfl ?_
        refine g_getR X hf (T := TX12) rfl (by decide) (by decide) in_RX12 tb_1135 rfl dX12_sherdOf_172 (fun v18 hf => ?_)
        refine g_sipush (v := 851) X dX12_sherdOf_175 (by decide) ?_
        refine g_iload_n X dX12_sherdOf_178 1 rfl ?_
        refine g_iadd X dX12_sherdOf_179 ?_
        refine g_iaload X hf dX12_sherdOf_180 (fun v19 hf => ?_)
        exact g_ireturn X (zW hf) (by decide) (by decide) dX12_sherdOf_181
      rw [if_neg hs5] at hf
      by_cases hs6 : a2 = 6
      · rw [if_pos hs6] at hf
        refine g_tabIn (off := 161) (tgt := 182) X 6 hs6 dX12_sherdOf_21 (by decide) (by decide) (by decide +kernel) (by decide) ?_
        refine g_aload_n X dX12_sherdOf_182 0 rfl ?_
        refine g_getR X hf (T := TX12) rfl (by decide) (by decide) in_RX12 tb_1135 rfl dX12_sherdOf_183 (fun v20 hf => ?_)
        refine g_sipush (v := 891) X dX12_sherdOf_186 (by decide) ?_
        refine g_iload_n X dX12_sherdOf_189 1 rfl ?_
        refine g_iadd X dX12_sherdOf_190 ?_
        refine g_iaload X hf dX12_sherdOf_191 (fun v21 hf => ?_)
        exact g_ireturn X (zW hf) (by decide) (by decide) dX12_sherdOf_192
      rw [if_neg hs6] at hf
      by_cases hs7 : a2 = 7
      · rw [if_pos hs7] at hf
        refine g_tabIn (off := 172) (tgt := 193) X 7 hs7 dX12_sherdOf_21 (by decide) (by decide) (by decide +kernel) (by decide) ?_
        refine g_aload_n X dX12_sherdOf_193 0 rfl ?_
        refine g_getR X hf (T := TX12) rfl (by decide) (by decide) in_RX12 tb_1135 rfl dX12_sherdOf_194 (fun v22 hf => ?_)
        refine g_sipush (v := 931) X dX12_sherdOf_197 (by decide) ?_
        refine g_iload_n X dX12_sherdOf_200 1 rfl ?_
        refine g_iadd X dX12_sherdOf_201 ?_
        refine g_iaload X hf dX12_sherdOf_202 (fun v23 hf => ?_)
        exact g_ireturn X (zW hf) (by decide) (by decide) dX12_sherdOf_203
      rw [if_neg hs7] at hf
      by_cases hs8 : a2 = 8
      · rw [if_pos hs8] at hf
        refine g_tabIn (off := 183) (tgt := 204) X 8 hs8 dX12_sherdOf_21 (by decide) (by decide) (by decide +kernel) (by decide) ?_
        refine g_aload_n X dX12_sherdOf_204 0 rfl ?_
        refine g_getR X hf (T := TX12) rfl (by decide) (by decide) in_RX12 tb_1135 rfl dX12_sherdOf_205 (fun v24 hf => ?_)
        refine g_sipush (v := 971) X dX12_sherdOf_208 (by decide) ?_
        refine g_iload_n X dX12_sherdOf_211 1 rfl ?_
        refine g_iadd X dX12_sherdOf_212 ?_
        refine g_iaload X hf dX12_sherdOf_213 (fun v25 hf => ?_)
        refine g_ifge (tgt := 222) X hf dX12_sherdOf_214 (by decide) (fun hf => ?_) (fun hf => ?_)
        · refine g_bipush (v := (-3)) X dX12_sherdOf_217 (by decide) ?_
          refine g_goto (tgt := 232) X dX12_sherdOf_219 (by decide) ?_
          exact g_ireturn X (zW hf) (by decide) (by decide) dX12_sherdOf_232
        · refine g_aload_n X dX12_sherdOf_222 0 rfl ?_
          refine g_getR X hf (T := TX12) rfl (by decide) (by decide) in_RX12 tb_1135 rfl dX12_sherdOf_223 (fun v26 hf => ?_)
          refine g_sipush (v := 971) X dX12_sherdOf_226 (by decide) ?_
          refine g_iload_n X dX12_sherdOf_229 1 rfl ?_
          refine g_iadd X dX12_sherdOf_230 ?_
          refine g_iaload X hf dX12_sherdOf_231 (fun v27 hf => ?_)
          exact g_ireturn X (zW hf) (by decide) (by decide) dX12_sherdOf_232
      rw [if_neg hs8] at hf
      by_cases hs9 : a2 = 9
      · rw [if_pos hs9] at hf
        refine g_tabIn (off := 212) (tgt := 233) X 9 hs9 dX12_sherdOf_21 (by decide) (by decide) (by decide +kernel) (by decide) ?_
        refine g_aload_n X dX12_sherdOf_233 0 rfl ?_
        refine g_iload_n X dX12_sherdOf_234 1 rfl ?_
        refine g_callV (n := 1) (av := [tI a1]) (rest := []) (k := 12) X hf (fun p28 => (some (tI p28.1), p28.2)) (fun _ q => m_X12_meaning q) (gdV tb_1360 tb_1361 tb_1700 tb_12 tb_1362) rfl (by decide +kernel) rfl (by decide) rfl (by decide) (by decide) rfl (Nat.le_of_ble_eq_true rfl) dX12_sherdOf_235 (fun p28 hf => ?_)
        exact g_ireturn X (zW hf) (by decide) (by decide) dX12_sherdOf_238
      rw [if_neg hs9] at hf
      by_cases hs10 : a2 = 10
      · rw [if_pos hs10] at hf
        refine g_tabIn (off := 218) (tgt := 239) X 10 hs10 dX12_sherdOf_21 (by decide) (by decide) (by decide +kernel) (by decide) ?_
        refine g_aload_n X dX12_sherdOf_239 0 rfl ?_
        refine g_iload_n X dX12_sherdOf_240 1 rfl ?_
        refine g_callV (n := 1) (av := [tI a1]) (rest := []) (k := 12) X hf (fun p29 => (some (tI p29.1), p29.2)) (fun _ q => m_X12_meant q) (gdV tb_1363 tb_1364 tb_1701 tb_12 tb_1365) rfl (by decide +kernel) rfl (by decide) rfl (by decide) (by decide) rfl (Nat.le_of_ble_eq_true rfl) dX12_sherdOf_241 (fun p29 hf => ?_)
        exact g_ireturn X (zW hf) (by decide) (by decide) dX12_sherdOf_244
      rw [if_neg hs10] at hf
      cases hf
def b_X12_feed_30    : Nat → Option Nat → Int64 → Int32 → Int32 → AH → Option (Int32 × AH)
  | 0 => fun _ _ _ _ _ => none
  | n + 1 => fun x0 x1 x3 x4 h =>
    if x4 < x3 then
      (gR 12 3 h x0).bind fun v1 =>
      (gI 12 4 h x0).bind fun v2 =>
      (sI h v1 v2 ((((x1 >>> (((8 * x4) : Int32).toInt64 &&& 63)) &&& 255) : Int64).toInt32)).bind fun h3 =>
      (gI 12 4 h3 x0).bind fun v4 =>
      (pI 12 4 h3 x0 (v4 + 1)).bind fun h5 =>
      b_X12_feed_30 n x0 x1 x3 (x4 + 1) h5
    else
      (gI 12 4 h x0).bind fun v6 =>
      some (v6, h)
set_option maxRecDepth 20000 in
theorem w_X12_feed_30 {K : KT} {w : (Int32 × AH)}   (X : CX K cX12_feed RX12 TB (some .int) "feed" (rmD 2 0 0) 5 0 0)  : ∀ (n : Nat) (x0 : Option Nat) (x1 : Int64) (x3 : Int32) (x4 : Int32) (h : AH), b_X12_feed_30 n x0 x1 x3 x4 h = some w → GG K (some (tI w.1), w.2) 0 0 30 [(0, tR x0), (1, tL x1), (3, tI x3), (4, tI x4)] [] h := by
  intro n
  induction n with
  | zero =>
    intro x0 x1 x3 x4 h hf
    cases (show none = some w from hf)
  | succ n ih =>
    intro x0 x1 x3 x4 h hf
    rw [b_X12_feed_30] at hf
    refine g_iload X dX12_feed_30 3 rfl ?_
    refine g_iload_n X dX12_feed_32 2 rfl ?_
    refine g_icmpge (tgt := 73) X hf dX12_feed_33 (by decide) (fun hf => ?_) (fun hf => ?_)
    · refine g_aload_n X dX12_feed_36 0 rfl ?_
      refine g_getR X hf (T := TX12) rfl (by decide) (by decide) in_RX12 tb_1138 rfl dX12_feed_37 (fun v1 hf => ?_)
      refine g_aload_n X dX12_feed_40 0 rfl ?_
      refine g_getI X hf (T := TX12) rfl (by decide) (by decide) in_RX12 tb_1139 rfl dX12_feed_41 (fun v2 hf => ?_)
      refine g_lload_n X dX12_feed_44 1 rfl ?_
      refine g_bipush (v := 8) X dX12_feed_45 (by decide) ?_
      refine g_iload X dX12_feed_47 3 rfl ?_
      refine g_imul X dX12_feed_49 ?_
      refine g_lshr X dX12_feed_50 ?_
      refine g_ldc2 (v := 255) X dX12_feed_51 tb_1422 ?_
      refine g_land X dX12_feed_54 ?_
      refine g_l2i X dX12_feed_55 ?_
      refine g_iastore X hf dX12_feed_56 (fun h3 hf => ?_)
      refine g_aload_n X dX12_feed_57 0 rfl ?_
      refine g_dup X dX12_feed_58 rfl ?_
      refine g_getI X hf (T := TX12) rfl (by decide) (by decide) in_RX12 tb_1139 rfl dX12_feed_59 (fun v4 hf => ?_)
      refine g_iconst (v := 1) X dX12_feed_62 (by decide) ?_
      refine g_iadd X dX12_feed_63 ?_
      refine g_putI X hf (T := TX12) rfl (by decide) (by decide) in_RX12 tyX12 tyX12_ok nmX12 tb_1139 rfl rfl rfl dX12_feed_64 (fun h5 hf => ?_)
      refine g_iinc (v := (x4 + 1)) (lv' := [(0, tR x0), (1, tL x1), (3, tI x3), (4, tI (x4 + 1))]) X dX12_feed_67 3 rfl (by rfl) (by decide) (in_pick [1, 2, 3, 0] rfl) ?_
      refine g_goto (tgt := 30) X dX12_feed_70 (by decide) ?_
      exact ih x0 x1 x3 (x4 + 1) h5 hf
    · refine g_aload_n X dX12_feed_73 0 rfl ?_
      refine g_getI X hf (T := TX12) rfl (by decide) (by decide) in_RX12 tb_1139 rfl dX12_feed_74 (fun v6 hf => ?_)
      exact g_ireturn X (zW hf) (by decide) (by decide) dX12_feed_77
def f_X12_feed  (a0 : Option Nat) (a1 : Int64) (a2 : Int32) (h : AH) : Option (Int32 × AH) :=
  (f_X12_in a2 1 8 h).bind fun v1 =>
  if v1 = 0 then
    some ((-1), h)
  else
    (gI 12 4 h a0).bind fun v2 =>
    if 300 < (v2 + a2) then
      some ((-2), h)
    else
      b_X12_feed_30 FU a0 a1 a2 0 h
set_option maxRecDepth 20000 in
theorem m_X12_feed  {a0 : Option Nat} {a1 : Int64} {a2 : Int32} {h : AH} {w : (Int32 × AH)} (hf : f_X12_feed a0 a1 a2 h = some w) : CT yX12_feed (wU yX12_feed cX12_feed 5 (some .int)) (rmD 2 0 0) 0 0 [tR a0, tL a1, tI a2] h (some (tI w.1), w.2) := by
  refine CT.of (cc := cX12_feed) (nL := 5) (ret := (some .int)) (by decide) (by simp [lg_sl, vOf_cat, wOf]) ?_
  intro K X
  refine g_locs (lv' := [(0, tR a0), (1, tL a1), (3, tI a2)]) (fun q hq => hq) ?_
  unfold f_X12_feed at hf
  refine g_iload_n X dX12_feed_0 2 rfl ?_
  refine g_iconst (v := 1) X dX12_feed_1 (by decide) ?_
  refine g_bipush (v := 8) X dX12_feed_2 (by decide) ?_
  refine g_callS (n := 3) (av := [tI a2, tI 1, tI 8]) (rest := []) X hf (fun v1 => (some (tI v1), h)) (fun _ q => m_X12_in q) (gdS tb_1226 tb_1227 tb_12 tb_1228) rfl (by decide +kernel) rfl (by decide) (by decide) rfl (Nat.le_of_ble_eq_true rfl) dX12_feed_4 (fun v1 hf => ?_)
  refine g_ifne (tgt := 12) X hf dX12_feed_7 (by decide) (fun hf => ?_) (fun hf => ?_)
  · refine g_iconst (v := (-1)) X dX12_feed_10 (by decide) ?_
    exact g_ireturn X (zW hf) (by decide) (by decide) dX12_feed_11
  · refine g_aload_n X dX12_feed_12 0 rfl ?_
    refine g_getI X hf (T := TX12) rfl (by decide) (by decide) in_RX12 tb_1139 rfl dX12_feed_13 (fun v2 hf => ?_)
    refine g_iload_n X dX12_feed_16 2 rfl ?_
    refine g_iadd X dX12_feed_17 ?_
    refine g_sipush (v := 300) X dX12_feed_18 (by decide) ?_
    refine g_icmple (tgt := 27) X hf dX12_feed_21 (by decide) (fun hf => ?_) (fun hf => ?_)
    · refine g_bipush (v := (-2)) X dX12_feed_24 (by decide) ?_
      exact g_ireturn X (zW hf) (by decide) (by decide) dX12_feed_26
    · refine g_iconst (v := 0) X dX12_feed_27 (by decide) ?_
      refine g_istore (lv' := [(0, tR a0), (1, tL a1), (3, tI a2), (4, tI 0)]) X dX12_feed_28 (by decide) (in_pick [1, 2, 3, 0] rfl) ?_
      exact w_X12_feed_30 X FU a0 a1 a2 0 h hf
def b_X12_read_49    : Nat → Option Nat → Int32 → Int32 → Int32 → Int32 → AH → Option (Int32 × AH)
  | 0 => fun _ _ _ _ _ _ => none
  | n + 1 => fun x0 x1 x2 x3 x4 h =>
    if x4 < x3 then
      (gR 12 0 h x0).bind fun v1 =>
      (gR 12 3 h x0).bind fun v2 =>
      (aI h v2 x4).bind fun v3 =>
      (sI h v1 ((1024 + (300 * x1)) + x4) v3).bind fun h4 =>
      b_X12_read_49 n x0 x1 x2 x3 (x4 + 1) h4
    else
      (gR 12 0 h x0).bind fun v5 =>
      (sI h v5 (1020 + x1) x3).bind fun h6 =>
      some (x2, h6)
set_option maxRecDepth 20000 in
theorem w_X12_read_49 {K : KT} {w : (Int32 × AH)}   (X : CX K cX12_read RX12 TB (some .int) "read" (rmD 38 0 0) 5 0 0)  : ∀ (n : Nat) (x0 : Option Nat) (x1 : Int32) (x2 : Int32) (x3 : Int32) (x4 : Int32) (h : AH), b_X12_read_49 n x0 x1 x2 x3 x4 h = some w → GG K (some (tI w.1), w.2) 0 0 49 [(0, tR x0), (1, tI x1), (2, tI x2), (3, tI x3), (4, tI x4)] [] h := by
  intro n
  induction n with
  | zero =>
    intro x0 x1 x2 x3 x4 h hf
    cases (show none = some w from hf)
  | succ n ih =>
    intro x0 x1 x2 x3 x4 h hf
    rw [b_X12_read_49] at hf
    refine g_iload X dX12_read_49 4 rfl ?_
    refine g_iload_n X dX12_read_51 3 rfl ?_
    refine g_icmpge (tgt := 85) X hf dX12_read_52 (by decide) (fun hf => ?_) (fun hf => ?_)
    · refine g_aload_n X dX12_read_55 0 rfl ?_
      refine g_getR X hf (T := TX12) rfl (by decide) (by decide) in_RX12 tb_1135 rfl dX12_read_56 (fun v1 hf => ?_)
      refine g_sipush (v := 1024) X dX12_read_59 (by decide) ?_
      refine g_sipush (v := 300) X dX12_read_62 (by decide) ?_
      refine g_iload_n X dX12_read_65 1 rfl ?_
      refine g_imul X dX12_read_66 ?_
      refine g_iadd X dX12_read_67 ?_
      refine g_iload X dX12_read_68 4 rfl ?_
      refine g_iadd X dX12_read_70 ?_
      refine g_aload_n X dX12_read_71 0 rfl ?_
      refine g_getR X hf (T := TX12) rfl (by decide) (by decide) in_RX12 tb_1138 rfl dX12_read_72 (fun v2 hf => ?_)
      refine g_iload X dX12_read_75 4 rfl ?_
      refine g_iaload X hf dX12_read_77 (fun v3 hf => ?_)
      refine g_iastore X hf dX12_read_78 (fun h4 hf => ?_)
      refine g_iinc (v := (x4 + 1)) (lv' := [(0, tR x0), (1, tI x1), (2, tI x2), (3, tI x3), (4, tI (x4 + 1))]) X dX12_read_79 4 rfl (by rfl) (by decide) (in_pick [1, 2, 3, 4, 0] rfl) ?_
      refine g_goto (tgt := 49) X dX12_read_82 (by decide) ?_
      exact ih x0 x1 x2 x3 (x4 + 1) h4 hf
    · refine g_aload_n X dX12_read_85 0 rfl ?_
      refine g_getR X hf (T := TX12) rfl (by decide) (by decide) in_RX12 tb_1135 rfl dX12_read_86 (fun v5 hf => ?_)
      refine g_sipush (v := 1020) X dX12_read_89 (by decide) ?_
      refine g_iload_n X dX12_read_92 1 rfl ?_
      refine g_iadd X dX12_read_93 ?_
      refine g_iload_n X dX12_read_94 3 rfl ?_
      refine g_iastore X hf dX12_read_95 (fun h6 hf => ?_)
      refine g_iload_n X dX12_read_96 2 rfl ?_
      exact g_ireturn X (zW hf) (by decide) (by decide) dX12_read_97
def f_X12_read  (a0 : Option Nat) (a1 : Int32) (h : AH) : Option (Int32 × AH) :=
  (f_X12_in a1 0 3 h).bind fun v1 =>
  if v1 = 0 then
    some ((-1), h)
  else
    (gI 12 4 h a0).bind fun v2 =>
    (ck 12 h a0 (f_X12_reads a0 (-1) v2 h)).bind fun p3 =>
    (gI 12 4 p3.2 a0).bind fun v4 =>
    (pI 12 4 p3.2 a0 0).bind fun h5 =>
    (gI 12 17 h5 a0).bind fun v6 =>
    if v6 < 0 then
      b_X12_read_49 FU a0 a1 p3.1 v4 0 h5
    else
      (gI 12 17 h5 a0).bind fun v7 =>
      some (((-100) - v7), h5)
set_option maxRecDepth 20000 in
theorem m_X12_read  {a0 : Option Nat} {a1 : Int32} {h : AH} {w : (Int32 × AH)} (hf : f_X12_read a0 a1 h = some w) : CT yX12_read (wU yX12_read cX12_read 5 (some .int)) (rmD 38 0 0) 0 0 [tR a0, tI a1] h (some (tI w.1), w.2) := by
  refine CT.of (cc := cX12_read) (nL := 5) (ret := (some .int)) (by decide) (by simp [lg_sl, vOf_cat, wOf]) ?_
  intro K X
  refine g_locs (lv' := [(0, tR a0), (1, tI a1)]) (fun q hq => hq) ?_
  unfold f_X12_read at hf
  refine g_iload_n X dX12_read_0 1 rfl ?_
  refine g_iconst (v := 0) X dX12_read_1 (by decide) ?_
  refine g_iconst (v := 3) X dX12_read_2 (by decide) ?_
  refine g_callS (n := 3) (av := [tI a1, tI 0, tI 3]) (rest := []) X hf (fun v1 => (some (tI v1), h)) (fun _ q => m_X12_in q) (gdS tb_1226 tb_1227 tb_12 tb_1228) rfl (by decide +kernel) rfl (by decide) (by decide) rfl (Nat.le_of_ble_eq_true rfl) dX12_read_3 (fun v1 hf => ?_)
  refine g_ifne (tgt := 11) X hf dX12_read_6 (by decide) (fun hf => ?_) (fun hf => ?_)
  · refine g_iconst (v := (-1)) X dX12_read_9 (by decide) ?_
    exact g_ireturn X (zW hf) (by decide) (by decide) dX12_read_10
  · refine g_aload_n X dX12_read_11 0 rfl ?_
    refine g_iconst (v := (-1)) X dX12_read_12 (by decide) ?_
    refine g_aload_n X dX12_read_13 0 rfl ?_
    refine g_getI X hf (T := TX12) rfl (by decide) (by decide) in_RX12 tb_1139 rfl dX12_read_14 (fun v2 hf => ?_)
    refine g_callV (n := 2) (av := [tI (-1), tI v2]) (rest := []) (k := 12) X hf (fun p3 => (some (tI p3.1), p3.2)) (fun _ q => m_X12_reads q) (gdV tb_1378 tb_1379 tb_1705 tb_12 tb_1380) rfl (by decide +kernel) rfl (by decide) rfl (by decide) (by decide) rfl (Nat.le_of_ble_eq_true rfl) dX12_read_17 (fun p3 hf => ?_)
    refine g_istore_n (lv' := [(0, tR a0), (1, tI a1), (2, tI p3.1)]) X dX12_read_20 (by decide) (in_pick [1, 2, 0] rfl) ?_
    refine g_aload_n X dX12_read_21 0 rfl ?_
    refine g_getI X hf (T := TX12) rfl (by decide) (by decide) in_RX12 tb_1139 rfl dX12_read_22 (fun v4 hf => ?_)
    refine g_istore_n (lv' := [(0, tR a0), (1, tI a1), (2, tI p3.1), (3, tI v4)]) X dX12_read_25 (by decide) (in_pick [1, 2, 3, 0] rfl) ?_
    refine g_aload_n X dX12_read_26 0 rfl ?_
    refine g_iconst (v := 0) X dX12_read_27 (by decide) ?_
    refine g_putI X hf (T := TX12) rfl (by decide) (by decide) in_RX12 tyX12 tyX12_ok nmX12 tb_1139 rfl rfl rfl dX12_read_28 (fun h5 hf => ?_)
    refine g_aload_n X dX12_read_31 0 rfl ?_
    refine g_getI X hf (T := TX12) rfl (by decide) (by decide) in_RX12 tb_1152 rfl dX12_read_32 (fun v6 hf => ?_)
    refine g_iflt (tgt := 46) X hf dX12_read_35 (by decide) (fun hf => ?_) (fun hf => ?_)
    · refine g_iconst (v := 0) X dX12_read_46 (by decide) ?_
      refine g_istore (lv' := [(0, tR a0), (1, tI a1), (2, tI p3.1), (3, tI v4), (4, tI 0)]) X dX12_read_47 (by decide) (in_pick [1, 2, 3, 4, 0] rfl) ?_
      exact w_X12_read_49 X FU a0 a1 p3.1 v4 0 h5 hf
    · refine g_bipush (v := (-100)) X dX12_read_38 (by decide) ?_
      refine g_aload_n X dX12_read_40 0 rfl ?_
      refine g_getI X hf (T := TX12) rfl (by decide) (by decide) in_RX12 tb_1152 rfl dX12_read_41 (fun v7 hf => ?_)
      refine g_isub X dX12_read_44 ?_
      exact g_ireturn X (zW hf) (by decide) (by decide) dX12_read_45
def b_X12_force_32   (x0 : Option Nat) (x1 : Int32) (h : AH) : Option (Int32 × AH) :=
  (gR 12 0 h x0).bind fun v1 =>
  (aI h v1 7).bind fun v2 =>
  (gR 12 0 h x0).bind fun v3 =>
  (sI h v3 7 x1).bind fun h4 =>
  some (v2, h4)
set_option maxRecDepth 20000 in
theorem w_X12_force_32 {K : KT} {w : (Int32 × AH)}   (X : CX K cX12_force RX12 TB (some .int) "force" (rmD 2 0 0) 3 0 0)  (x0 : Option Nat) (x1 : Int32) (h : AH) (hf : b_X12_force_32 x0 x1 h = some w) : GG K (some (tI w.1), w.2) 0 0 32 [(0, tR x0), (1, tI x1)] [] h := by
  unfold b_X12_force_32 at hf
  refine g_aload_n X dX12_force_32 0 rfl ?_
  refine g_getR X hf (T := TX12) rfl (by decide) (by decide) in_RX12 tb_1135 rfl dX12_force_33 (fun v1 hf => ?_)
  refine g_bipush (v := 7) X dX12_force_36 (by decide) ?_
  refine g_iaload X hf dX12_force_38 (fun v2 hf => ?_)
  refine g_istore_n (lv' := [(0, tR x0), (1, tI x1), (2, tI v2)]) X dX12_force_39 (by decide) (in_pick [1, 2, 0] rfl) ?_
  refine g_aload_n X dX12_force_40 0 rfl ?_
  refine g_getR X hf (T := TX12) rfl (by decide) (by decide) in_RX12 tb_1135 rfl dX12_force_41 (fun v3 hf => ?_)
  refine g_bipush (v := 7) X dX12_force_44 (by decide) ?_
  refine g_iload_n X dX12_force_46 1 rfl ?_
  refine g_iastore X hf dX12_force_47 (fun h4 hf => ?_)
  refine g_iload_n X dX12_force_48 2 rfl ?_
  exact g_ireturn X (zW hf) (by decide) (by decide) dX12_force_49
def f_X12_force  (a0 : Option Nat) (a1 : Int32) (h : AH) : Option (Int32 × AH) :=
  (f_X12_in a1 (-1) 3 h).bind fun v1 =>
  if v1 = 0 then
    some ((-9), h)
  else
    if a1 < 0 then
      b_X12_force_32 a0 a1 h
    else
      (gR 12 0 h a0).bind fun v2 =>
      (aI h v2 (1020 + a1)).bind fun v3 =>
      if v3 < 0 then
        some ((-8), h)
      else
        b_X12_force_32 a0 a1 h
set_option maxRecDepth 20000 in
theorem m_X12_force  {a0 : Option Nat} {a1 : Int32} {h : AH} {w : (Int32 × AH)} (hf : f_X12_force a0 a1 h = some w) : CT yX12_force (wU yX12_force cX12_force 3 (some .int)) (rmD 2 0 0) 0 0 [tR a0, tI a1] h (some (tI w.1), w.2) := by
  refine CT.of (cc := cX12_force) (nL := 3) (ret := (some .int)) (by decide) (by simp [lg_sl, vOf_cat, wOf]) ?_
  intro K X
  refine g_locs (lv' := [(0, tR a0), (1, tI a1)]) (fun q hq => hq) ?_
  unfold f_X12_force at hf
  refine g_iload_n X dX12_force_0 1 rfl ?_
  refine g_iconst (v := (-1)) X dX12_force_1 (by decide) ?_
  refine g_iconst (v := 3) X dX12_force_2 (by decide) ?_
  refine g_callS (n := 3) (av := [tI a1, tI (-1), tI 3]) (rest := []) X hf (fun v1 => (some (tI v1), h)) (fun _ q => m_X12_in q) (gdS tb_1226 tb_1227 tb_12 tb_1228) rfl (by decide +kernel) rfl (by decide) (by decide) rfl (Nat.le_of_ble_eq_true rfl) dX12_force_3 (fun v1 hf => ?_)
  refine g_ifne (tgt := 12) X hf dX12_force_6 (by decide) (fun hf => ?_) (fun hf => ?_)
  · refine g_bipush (v := (-9)) X dX12_force_9 (by decide) ?_
    exact g_ireturn X (zW hf) (by decide) (by decide) dX12_force_11
  · refine g_iload_n X dX12_force_12 1 rfl ?_
    refine g_iflt (tgt := 32) X hf dX12_force_13 (by decide) (fun hf => ?_) (fun hf => ?_)
    · exact w_X12_force_32 X a0 a1 h hf
    · refine g_aload_n X dX12_force_16 0 rfl ?_
      refine g_getR X hf (T := TX12) rfl (by decide) (by decide) in_RX12 tb_1135 rfl dX12_force_17 (fun v2 hf => ?_)
      refine g_sipush (v := 1020) X dX12_force_20 (by decide) ?_
      refine g_iload_n X dX12_force_23 1 rfl ?_
      refine g_iadd X dX12_force_24 ?_
      refine g_iaload X hf dX12_force_25 (fun v3 hf => ?_)
      refine g_ifge (tgt := 32) X hf dX12_force_26 (by decide) (fun hf => ?_) (fun hf => ?_)
      · refine g_bipush (v := (-8)) X dX12_force_29 (by decide) ?_
        exact g_ireturn X (zW hf) (by decide) (by decide) dX12_force_31
      · exact w_X12_force_32 X a0 a1 h hf
def f_X12_years  (a0 : Option Nat) (h : AH) : Option (Int32 × AH) :=
  (ck 12 h a0 (f_X12_ruled a0 4 10 h)).bind fun p1 =>
  some (p1.1, p1.2)
set_option maxRecDepth 20000 in
theorem m_X12_years  {a0 : Option Nat} {h : AH} {w : (Int32 × AH)} (hf : f_X12_years a0 h = some w) : CT yX12_years (wU yX12_years cX12_years 1 (some .int)) (rmD 39 0 0) 0 0 [tR a0] h (some (tI w.1), w.2) := by
  refine CT.of (cc := cX12_years) (nL := 1) (ret := (some .int)) (by decide) (by simp [lg_sl, vOf_cat, wOf]) ?_
  intro K X
  refine g_locs (lv' := [(0, tR a0)]) (fun q hq => hq) ?_
  unfold f_X12_years at hf
  refine g_aload_n X dX12_years_0 0 rfl ?_
  refine g_iconst (v := 4) X dX12_years_1 (by decide) ?_
  refine g_bipush (v := 10) X dX12_years_2 (by decide) ?_
  refine g_callV (n := 2) (av := [tI 4, tI 10]) (rest := []) (k := 12) X hf (fun p1 => (some (tI p1.1), p1.2)) (fun _ q => m_X12_ruled q) (gdV tb_1375 tb_1376 tb_1704 tb_12 tb_1377) rfl (by decide +kernel) rfl (by decide) rfl (by decide) (by decide) rfl (Nat.le_of_ble_eq_true rfl) dX12_years_4 (fun p1 hf => ?_)
  exact g_ireturn X (zW hf) (by decide) (by decide) dX12_years_7
def f_X12_law  (a0 : Option Nat) (a1 : Int32) (h : AH) : Option (Int32 × AH) :=
  (f_X12_in a1 0 4 h).bind fun v1 =>
  if v1 = 0 then
    some ((-1), h)
  else
    (ck 12 h a0 (f_X12_years a0 h)).bind fun p2 =>
    if a1 = 0 then
      some (p2.1, p2.2)
    else
      (gR 12 9 p2.2 a0).bind fun v3 =>
      (aZ p2.2 v3 (a1 - 1)).bind fun v4 =>
      if v4 = 0 then
        some (0, p2.2)
      else
        some (1, p2.2)
set_option maxRecDepth 20000 in
theorem m_X12_law  {a0 : Option Nat} {a1 : Int32} {h : AH} {w : (Int32 × AH)} (hf : f_X12_law a0 a1 h = some w) : CT yX12_law (wU yX12_law cX12_law 3 (some .int)) (rmD 40 0 0) 0 0 [tR a0, tI a1] h (some (tI w.1), w.2) := by
  refine CT.of (cc := cX12_law) (nL := 3) (ret := (some .int)) (by decide) (by simp [lg_sl, vOf_cat, wOf]) ?_
  intro K X
  refine g_locs (lv' := [(0, tR a0), (1, tI a1)]) (fun q hq => hq) ?_
  unfold f_X12_law at hf
  refine g_iload_n X dX12_law_0 1 rfl ?_
  refine g_iconst (v := 0) X dX12_law_1 (by decide) ?_
  refine g_iconst (v := 4) X dX12_law_2 (by decide) ?_
  refine g_callS (n := 3) (av := [tI a1, tI 0, tI 4]) (rest := []) X hf (fun v1 => (some (tI v1), h)) (fun _ q => m_X12_in q) (gdS tb_1226 tb_1227 tb_12 tb_1228) rfl (by decide +kernel) rfl (by decide) (by decide) rfl (Nat.le_of_ble_eq_true rfl) dX12_law_3 (fun v1 hf => ?_)
  refine g_ifne (tgt := 11) X hf dX12_law_6 (by decide) (fun hf => ?_) (fun hf => ?_)
  · refine g_iconst (v := (-1)) X dX12_law_9 (by decide) ?_
    exact g_ireturn X (zW hf) (by decide) (by decide) dX12_law_10
  · refine g_aload_n X dX12_law_11 0 rfl ?_
    refine g_callV (n := 0) (av := []) (rest := []) (k := 12) X hf (fun p2 => (some (tI p2.1), p2.2)) (fun _ q => m_X12_years q) (gdV tb_1435 tb_1436 tb_1717 tb_12 tb_1437) rfl (by decide +kernel) rfl (by decide) rfl (by decide) (by decide) rfl (Nat.le_of_ble_eq_true rfl) dX12_law_12 (fun p2 hf => ?_)
    refine g_istore_n (lv' := [(0, tR a0), (1, tI a1), (2, tI p2.1)]) X dX12_law_15 (by decide) (in_pick [1, 2, 0] rfl) ?_
    refine g_iload_n X dX12_law_16 1 rfl ?_
    refine g_ifne (tgt := 24) X hf dX12_law_17 (by decide) (fun hf => ?_) (fun hf => ?_)
    · refine g_iload_n X dX12_law_20 2 rfl ?_
      refine g_goto (tgt := 40) X dX12_law_21 (by decide) ?_
      exact g_ireturn X (zW hf) (by decide) (by decide) dX12_law_40
    · refine g_aload_n X dX12_law_24 0 rfl ?_
      refine g_getR X hf (T := TX12) rfl (by decide) (by decide) in_RX12 tb_1144 rfl dX12_law_25 (fun v3 hf => ?_)
      refine g_iload_n X dX12_law_28 1 rfl ?_
      refine g_iconst (v := 1) X dX12_law_29 (by decide) ?_
      refine g_isub X dX12_law_30 ?_
      refine g_baload X hf dX12_law_31 (fun v4 hf => ?_)
      refine g_ifeq (tgt := 39) X hf dX12_law_32 (by decide) (fun hf => ?_) (fun hf => ?_)
      · refine g_iconst (v := 0) X dX12_law_39 (by decide) ?_
        exact g_ireturn X (zW hf) (by decide) (by decide) dX12_law_40
      · refine g_iconst (v := 1) X dX12_law_35 (by decide) ?_
        refine g_goto (tgt := 40) X dX12_law_36 (by decide) ?_
        exact g_ireturn X (zW hf) (by decide) (by decide) dX12_law_40
def b_X12_isEnough_40   (s0 : Option Nat) (s1 : Int32) (s2 : Int32) (h : AH) : Option (Int32 × AH) :=
  (ck 12 h s0 (f_X12_ruled s0 s1 s2 h)).bind fun p1 =>
  if p1.1 = 0 then
    some (0, p1.2)
  else
    some (1, p1.2)
set_option maxRecDepth 20000 in
theorem w_X12_isEnough_40 {K : KT} {w : (Int32 × AH)}   (X : CX K cX12_isEnough RX12 TB (some .boolean) "isEnough" (rmD 39 0 0) 5 0 0)  (s0 : Option Nat) (s1 : Int32) (s2 : Int32) (h : AH) (hf : b_X12_isEnough_40 s0 s1 s2 h = some w) : GG K (some (tI w.1), w.2) 0 0 40 [] [tI s2, tI s1, tR s0] h := by
  unfold b_X12_isEnough_40 at hf
  refine g_callV (n := 2) (av := [tI s1, tI s2]) (rest := []) (k := 12) X hf (fun p1 => (some (tI p1.1), p1.2)) (fun _ q => m_X12_ruled q) (gdV tb_1375 tb_1376 tb_1704 tb_12 tb_1377) rfl (by decide +kernel) rfl (by decide) rfl (by decide) (by decide) rfl (Nat.le_of_ble_eq_true rfl) dX12_isEnough_40 (fun p1 hf => ?_)
  refine g_ifeq (tgt := 50) X hf dX12_isEnough_43 (by decide) (fun hf => ?_) (fun hf => ?_)
  · refine g_iconst (v := 0) X dX12_isEnough_50 (by decide) ?_
    exact g_zreturn X (zW hf) (by decide) (by decide) (by decide) dX12_isEnough_51
  · refine g_iconst (v := 1) X dX12_isEnough_46 (by decide) ?_
    refine g_goto (tgt := 51) X dX12_isEnough_47 (by decide) ?_
    exact g_zreturn X (zW hf) (by decide) (by decide) (by decide) dX12_isEnough_51
def f_X12_isEnough  (a0 : Option Nat) (a1 : Int32) (a2 : Int32) (a3 : Int32) (a4 : Int32) (h : AH) : Option (Int32 × AH) :=
  (gR 12 8 h a0).bind fun v1 =>
  (sI h v1 0 a1).bind fun h2 =>
  (gR 12 8 h2 a0).bind fun v3 =>
  (sI h2 v3 1 a2).bind fun h4 =>
  (gR 12 8 h4 a0).bind fun v5 =>
  (sI h4 v5 2 a3).bind fun h6 =>
  (gR 12 8 h6 a0).bind fun v7 =>
  (sI h6 v7 3 a4).bind fun h8 =>
  if 0 < a2 then
    b_X12_isEnough_40 a0 1 1 h8
  else
    b_X12_isEnough_40 a0 1 0 h8
set_option maxRecDepth 20000 in
theorem m_X12_isEnough  {a0 : Option Nat} {a1 : Int32} {a2 : Int32} {a3 : Int32} {a4 : Int32} {h : AH} {w : (Int32 × AH)} (hf : f_X12_isEnough a0 a1 a2 a3 a4 h = some w) : CT yX12_isEnough (wU yX12_isEnough cX12_isEnough 5 (some .boolean)) (rmD 39 0 0) 0 0 [tR a0, tI a1, tI a2, tI a3, tI a4] h (some (tI w.1), w.2) := by
  refine CT.of (cc := cX12_isEnough) (nL := 5) (ret := (some .boolean)) (by decide) (by simp [lg_sl, vOf_cat, wOf]) ?_
  intro K X
  refine g_locs (lv' := [(0, tR a0), (1, tI a1), (2, tI a2), (3, tI a3), (4, tI a4)]) (fun q hq => hq) ?_
  unfold f_X12_isEnough at hf
  refine g_aload_n X dX12_isEnough_0 0 rfl ?_
  refine g_getR X hf (T := TX12) rfl (by decide) (by decide) in_RX12 tb_1143 rfl dX12_isEnough_1 (fun v1 hf => ?_)
  refine g_iconst (v := 0) X dX12_isEnough_4 (by decide) ?_
  refine g_iload_n X dX12_isEnough_5 1 rfl ?_
  refine g_iastore X hf dX12_isEnough_6 (fun h2 hf => ?_)
  refine g_aload_n X dX12_isEnough_7 0 rfl ?_
  refine g_getR X hf (T := TX12) rfl (by decide) (by decide) in_RX12 tb_1143 rfl dX12_isEnough_8 (fun v3 hf => ?_)
  refine g_iconst (v := 1) X dX12_isEnough_11 (by decide) ?_
  refine g_iload_n X dX12_isEnough_12 2 rfl ?_
  refine g_iastore X hf dX12_isEnough_13 (fun h4 hf => ?_)
  refine g_aload_n X dX12_isEnough_14 0 rfl ?_
  refine g_getR X hf (T := TX12) rfl (by decide) (by decide) in_RX12 tb_1143 rfl dX12_isEnough_15 (fun v5 hf => ?_)
  refine g_iconst (v := 2) X dX12_isEnough_18 (by decide) ?_
  refine g_iload_n X dX12_isEnough_19 3 rfl ?_
  refine g_iastore X hf dX12_isEnough_20 (fun h6 hf => ?_)
  refine g_aload_n X dX12_isEnough_21 0 rfl ?_
  refine g_getR X hf (T := TX12) rfl (by decide) (by decide) in_RX12 tb_1143 rfl dX12_isEnough_22 (fun v7 hf => ?_)
  refine g_iconst (v := 3) X dX12_isEnough_25 (by decide) ?_
  refine g_iload X dX12_isEnough_26 4 rfl ?_
  refine g_iastore X hf dX12_isEnough_28 (fun h8 hf => ?_)
  refine g_aload_n X dX12_isEnough_29 0 rfl ?_
  refine g_iconst (v := 1) X dX12_isEnough_30 (by decide) ?_
  refine g_iload_n X dX12_isEnough_31 2 rfl ?_
  refine g_ifle (tgt := 39) X hf dX12_isEnough_32 (by decide) (fun hf => ?_) (fun hf => ?_)
  · refine g_iconst (v := 1) X dX12_isEnough_35 (by decide) ?_
    refine g_goto (tgt := 40) X dX12_isEnough_36 (by decide) ?_
    refine g_locs (lv' := []) (in_pick [] rfl) ?_
    exact w_X12_isEnough_40 X a0 1 1 h8 hf
  · refine g_iconst (v := 0) X dX12_isEnough_39 (by decide) ?_
    refine g_locs (lv' := []) (in_pick [] rfl) ?_
    exact w_X12_isEnough_40 X a0 1 0 h8 hf
def b_X12_rank_112  (k67 : Option Nat → Int32 → AH → Option AH) (x0 : Option Nat) (x1 : Int32) (s0 : Option Nat) (s1 : Int32) (h : AH) : Option AH :=
  (pI 12 24 h s0 s1).bind fun h1 =>
  k67 x0 (x1 + 1) h1
set_option maxRecDepth 20000 in
theorem w_X12_rank_112 {K : KT} {w : AH} {k67 : Option Nat → Int32 → AH → Option AH}  (X : CX K cX12_rank RX12 TB none "rank" (rmD 1 0 0) 2 0 0) (hk67 : ∀ (x0 : Option Nat) (x1 : Int32) (h : AH), k67 x0 x1 h = some w → GG K (none, w) 0 0 67 [(0, tR x0), (1, tI x1)] [] h) (x0 : Option Nat) (x1 : Int32) (s0 : Option Nat) (s1 : Int32) (h : AH) (hf : b_X12_rank_112 k67 x0 x1 s0 s1 h = some w) : GG K (none, w) 0 0 112 [(0, tR x0), (1, tI x1)] [tI s1, tR s0] h := by
  unfold b_X12_rank_112 at hf
  refine g_putI X hf (T := TX12) rfl (by decide) (by decide) in_RX12 tyX12 tyX12_ok nmX12 tb_1159 rfl rfl rfl dX12_rank_112 (fun h1 hf => ?_)
  refine g_iinc (v := (x1 + 1)) (lv' := [(0, tR x0), (1, tI (x1 + 1))]) X dX12_rank_115 1 rfl (by rfl) (by decide) (in_pick [1, 0] rfl) ?_
  refine g_goto (tgt := 67) X dX12_rank_118 (by decide) ?_
  exact hk67 x0 (x1 + 1) h1 hf
def b_X12_rank_67    : Nat → Option Nat → Int32 → AH → Option AH
  | 0 => fun _ _ _ => none
  | n + 1 => fun x0 x1 h =>
    (gR 12 0 h x0).bind fun v1 =>
    (aI h v1 2).bind fun v2 =>
    if x1 < v2 then
      (gI 12 23 h x0).bind fun v3 =>
      if x1 = v3 then
        (gI 12 24 h x0).bind fun v4 =>
        b_X12_rank_112 (b_X12_rank_67 n) x0 x1 x0 v4 h
      else
        (gR 12 19 h x0).bind fun v5 =>
        (aI h v5 x1).bind fun v6 =>
        (gI 12 24 h x0).bind fun v7 =>
        if v7 < v6 then
          (gR 12 19 h x0).bind fun v8 =>
          (aI h v8 x1).bind fun v9 =>
          b_X12_rank_112 (b_X12_rank_67 n) x0 x1 x0 v9 h
        else
          (gI 12 24 h x0).bind fun v10 =>
          b_X12_rank_112 (b_X12_rank_67 n) x0 x1 x0 v10 h
    else
      some h
set_option maxRecDepth 20000 in
theorem w_X12_rank_67 {K : KT} {w : AH}   (X : CX K cX12_rank RX12 TB none "rank" (rmD 1 0 0) 2 0 0)  : ∀ (n : Nat) (x0 : Option Nat) (x1 : Int32) (h : AH), b_X12_rank_67 n x0 x1 h = some w → GG K (none, w) 0 0 67 [(0, tR x0), (1, tI x1)] [] h := by
  intro n
  induction n with
  | zero =>
    intro x0 x1 h hf
    cases (show none = some w from hf)
  | succ n ih =>
    intro x0 x1 h hf
    rw [b_X12_rank_67] at hf
    refine g_iload_n X dX12_rank_67 1 rfl ?_
    refine g_aload_n X dX12_rank_68 0 rfl ?_
    refine g_getR X hf (T := TX12) rfl (by decide) (by decide) in_RX12 tb_1135 rfl dX12_rank_69 (fun v1 hf => ?_)
    refine g_iconst (v := 2) X dX12_rank_72 (by decide) ?_
    refine g_iaload X hf dX12_rank_73 (fun v2 hf => ?_)
    refine g_icmpge (tgt := 121) X hf dX12_rank_74 (by decide) (fun hf => ?_) (fun hf => ?_)
    · refine g_aload_n X dX12_rank_77 0 rfl ?_
      refine g_iload_n X dX12_rank_78 1 rfl ?_
      refine g_aload_n X dX12_rank_79 0 rfl ?_
      refine g_getI X hf (T := TX12) rfl (by decide) (by decide) in_RX12 tb_1158 rfl dX12_rank_80 (fun v3 hf => ?_)
      refine g_icmpeq (tgt := 108) X hf dX12_rank_83 (by decide) (fun hf => ?_) (fun hf => ?_)
      · refine g_aload_n X dX12_rank_108 0 rfl ?_
        refine g_getI X hf (T := TX12) rfl (by decide) (by decide) in_RX12 tb_1159 rfl dX12_rank_109 (fun v4 hf => ?_)
        exact w_X12_rank_112 X ih x0 x1 x0 v4 h hf
      · refine g_aload_n X dX12_rank_86 0 rfl ?_
        refine g_getR X hf (T := TX12) rfl (by decide) (by decide) in_RX12 tb_1154 rfl dX12_rank_87 (fun v5 hf => ?_)
        refine g_iload_n X dX12_rank_90 1 rfl ?_
        refine g_iaload X hf dX12_rank_91 (fun v6 hf => ?_)
        refine g_aload_n X dX12_rank_92 0 rfl ?_
        refine g_getI X hf (T := TX12) rfl (by decide) (by decide) in_RX12 tb_1159 rfl dX12_rank_93 (fun v7 hf => ?_)
        refine g_icmple (tgt := 108) X hf dX12_rank_96 (by decide) (fun hf => ?_) (fun hf => ?_)
        · refine g_aload_n X dX12_rank_99 0 rfl ?_
          refine g_getR X hf (T := TX12) rfl (by decide) (by decide) in_RX12 tb_1154 rfl dX12_rank_100 (fun v8 hf => ?_)
          refine g_iload_n X dX12_rank_103 1 rfl ?_
          refine g_iaload X hf dX12_rank_104 (fun v9 hf => ?_)
          refine g_goto (tgt := 112) X dX12_rank_105 (by decide) ?_
          exact w_X12_rank_112 X ih x0 x1 x0 v9 h hf
        · refine g_aload_n X dX12_rank_108 0 rfl ?_
          refine g_getI X hf (T := TX12) rfl (by decide) (by decide) in_RX12 tb_1159 rfl dX12_rank_109 (fun v10 hf => ?_)
          exact w_X12_rank_112 X ih x0 x1 x0 v10 h hf
    · exact g_vreturn X (zV hf) (by decide) (by decide) dX12_rank_121
def b_X12_rank_56  (k12 : Option Nat → Int32 → AH → Option AH) (x0 : Option Nat) (x1 : Int32) (s0 : Option Nat) (s1 : Int32) (h : AH) : Option AH :=
  (pI 12 23 h s0 s1).bind fun h1 =>
  k12 x0 (x1 + 1) h1
set_option maxRecDepth 20000 in
theorem w_X12_rank_56 {K : KT} {w : AH} {k12 : Option Nat → Int32 → AH → Option AH}  (X : CX K cX12_rank RX12 TB none "rank" (rmD 1 0 0) 2 0 0) (hk12 : ∀ (x0 : Option Nat) (x1 : Int32) (h : AH), k12 x0 x1 h = some w → GG K (none, w) 0 0 12 [(0, tR x0), (1, tI x1)] [] h) (x0 : Option Nat) (x1 : Int32) (s0 : Option Nat) (s1 : Int32) (h : AH) (hf : b_X12_rank_56 k12 x0 x1 s0 s1 h = some w) : GG K (none, w) 0 0 56 [(0, tR x0), (1, tI x1)] [tI s1, tR s0] h := by
  unfold b_X12_rank_56 at hf
  refine g_putI X hf (T := TX12) rfl (by decide) (by decide) in_RX12 tyX12 tyX12_ok nmX12 tb_1158 rfl rfl rfl dX12_rank_56 (fun h1 hf => ?_)
  refine g_iinc (v := (x1 + 1)) (lv' := [(0, tR x0), (1, tI (x1 + 1))]) X dX12_rank_59 1 rfl (by rfl) (by decide) (in_pick [1, 0] rfl) ?_
  refine g_goto (tgt := 12) X dX12_rank_62 (by decide) ?_
  exact hk12 x0 (x1 + 1) h1 hf
def b_X12_rank_12    : Nat → Option Nat → Int32 → AH → Option AH
  | 0 => fun _ _ _ => none
  | n + 1 => fun x0 x1 h =>
    (gR 12 0 h x0).bind fun v1 =>
    (aI h v1 2).bind fun v2 =>
    if x1 < v2 then
      (gI 12 23 h x0).bind fun v3 =>
      if v3 < 0 then
        b_X12_rank_56 (b_X12_rank_12 n) x0 x1 x0 x1 h
      else
        (gR 12 19 h x0).bind fun v4 =>
        (aI h v4 x1).bind fun v5 =>
        (gR 12 19 h x0).bind fun v6 =>
        (gI 12 23 h x0).bind fun v7 =>
        (aI h v6 v7).bind fun v8 =>
        if v8 < v5 then
          b_X12_rank_56 (b_X12_rank_12 n) x0 x1 x0 x1 h
        else
          (gI 12 23 h x0).bind fun v9 =>
          b_X12_rank_56 (b_X12_rank_12 n) x0 x1 x0 v9 h
    else
      b_X12_rank_67 FU x0 0 h
set_option maxRecDepth 20000 in
theorem w_X12_rank_12 {K : KT} {w : AH}   (X : CX K cX12_rank RX12 TB none "rank" (rmD 1 0 0) 2 0 0)  : ∀ (n : Nat) (x0 : Option Nat) (x1 : Int32) (h : AH), b_X12_rank_12 n x0 x1 h = some w → GG K (none, w) 0 0 12 [(0, tR x0), (1, tI x1)] [] h := by
  intro n
  induction n with
  | zero =>
    intro x0 x1 h hf
    cases (show none = some w from hf)
  | succ n ih =>
    intro x0 x1 h hf
    rw [b_X12_rank_12] at hf
    refine g_iload_n X dX12_rank_12 1 rfl ?_
    refine g_aload_n X dX12_rank_13 0 rfl ?_
    refine g_getR X hf (T := TX12) rfl (by decide) (by decide) in_RX12 tb_1135 rfl dX12_rank_14 (fun v1 hf => ?_)
    refine g_iconst (v := 2) X dX12_rank_17 (by decide) ?_
    refine g_iaload X hf dX12_rank_18 (fun v2 hf => ?_)
    refine g_icmpge (tgt := 65) X hf dX12_rank_19 (by decide) (fun hf => ?_) (fun hf => ?_)
    · refine g_aload_n X dX12_rank_22 0 rfl ?_
      refine g_aload_n X dX12_rank_23 0 rfl ?_
      refine g_getI X hf (T := TX12) rfl (by decide) (by decide) in_RX12 tb_1158 rfl dX12_rank_24 (fun v3 hf => ?_)
      refine g_iflt (tgt := 48) X hf dX12_rank_27 (by decide) (fun hf => ?_) (fun hf => ?_)
      · refine g_iload_n X dX12_rank_48 1 rfl ?_
        refine g_goto (tgt := 56) X dX12_rank_49 (by decide) ?_
        exact w_X12_rank_56 X ih x0 x1 x0 x1 h hf
      · refine g_aload_n X dX12_rank_30 0 rfl ?_
        refine g_getR X hf (T := TX12) rfl (by decide) (by decide) in_RX12 tb_1154 rfl dX12_rank_31 (fun v4 hf => ?_)
        refine g_iload_n X dX12_rank_34 1 rfl ?_
        refine g_iaload X hf dX12_rank_35 (fun v5 hf => ?_)
        refine g_aload_n X dX12_rank_36 0 rfl ?_
        refine g_getR X hf (T := TX12) rfl (by decide) (by decide) in_RX12 tb_1154 rfl dX12_rank_37 (fun v6 hf => ?_)
        refine g_aload_n X dX12_rank_40 0 rfl ?_
        refine g_getI X hf (T := TX12) rfl (by decide) (by decide) in_RX12 tb_1158 rfl dX12_rank_41 (fun v7 hf => ?_)
        refine g_iaload X hf dX12_rank_44 (fun v8 hf => ?_)
        refine g_icmple (tgt := 52) X hf dX12_rank_45 (by decide) (fun hf => ?_) (fun hf => ?_)
        · refine g_iload_n X dX12_rank_48 1 rfl ?_
          refine g_goto (tgt := 56) X dX12_rank_49 (by decide) ?_
          exact w_X12_rank_56 X ih x0 x1 x0 x1 h hf
        · refine g_aload_n X dX12_rank_52 0 rfl ?_
          refine g_getI X hf (T := TX12) rfl (by decide) (by decide) in_RX12 tb_1158 rfl dX12_rank_53 (fun v9 hf => ?_)
          exact w_X12_rank_56 X ih x0 x1 x0 v9 h hf
    · refine g_iconst (v := 0) X dX12_rank_65 (by decide) ?_
      refine g_istore_n (lv' := [(0, tR x0), (1, tI 0)]) X dX12_rank_66 (by decide) (in_pick [1, 0] rfl) ?_
      exact w_X12_rank_67 X FU x0 0 h hf
def f_X12_rank  (a0 : Option Nat) (h : AH) : Option AH :=
  (pI 12 23 h a0 (-1)).bind fun h1 =>
  (pI 12 24 h1 a0 0).bind fun h2 =>
  b_X12_rank_12 FU a0 0 h2
set_option maxRecDepth 20000 in
theorem m_X12_rank  {a0 : Option Nat} {h : AH} {w : AH} (hf : f_X12_rank a0 h = some w) : CT yX12_rank (wU yX12_rank cX12_rank 2 none) (rmD 1 0 0) 0 0 [tR a0] h (none, w) := by
  refine CT.of (cc := cX12_rank) (nL := 2) (ret := none) (by decide) (by simp [lg_sl, vOf_cat, wOf]) ?_
  intro K X
  refine g_locs (lv' := [(0, tR a0)]) (fun q hq => hq) ?_
  unfold f_X12_rank at hf
  refine g_aload_n X dX12_rank_0 0 rfl ?_
  refine g_iconst (v := (-1)) X dX12_rank_1 (by decide) ?_
  refine g_putI X hf (T := TX12) rfl (by decide) (by decide) in_RX12 tyX12 tyX12_ok nmX12 tb_1158 rfl rfl rfl dX12_rank_2 (fun h1 hf => ?_)
  refine g_aload_n X dX12_rank_5 0 rfl ?_
  refine g_iconst (v := 0) X dX12_rank_6 (by decide) ?_
  refine g_putI X hf (T := TX12) rfl (by decide) (by decide) in_RX12 tyX12 tyX12_ok nmX12 tb_1159 rfl rfl rfl dX12_rank_7 (fun h2 hf => ?_)
  refine g_iconst (v := 0) X dX12_rank_10 (by decide) ?_
  refine g_istore_n (lv' := [(0, tR a0), (1, tI 0)]) X dX12_rank_11 (by decide) (in_pick [1, 0] rfl) ?_
  exact w_X12_rank_12 X FU a0 0 h2 hf
def f_X12_leastOfFirst  (a0 : Option Nat) (h : AH) : Option Int32 :=
  (gI 12 23 h a0).bind fun v1 =>
  if v1 < 0 then
    some 0
  else
    (gR 12 19 h a0).bind fun v2 =>
    (gI 12 23 h a0).bind fun v3 =>
    (aI h v2 v3).bind fun v4 =>
    some v4
set_option maxRecDepth 20000 in
theorem m_X12_leastOfFirst  {a0 : Option Nat} {h : AH} {w : Int32} (hf : f_X12_leastOfFirst a0 h = some w) : CT yX12_leastOfFirst (wU yX12_leastOfFirst cX12_leastOfFirst 1 (some .int)) (rmD 1 0 0) 0 0 [tR a0] h (some (tI w), h) := by
  refine CT.of (cc := cX12_leastOfFirst) (nL := 1) (ret := (some .int)) (by decide) (by simp [lg_sl, vOf_cat, wOf]) ?_
  intro K X
  refine g_locs (lv' := [(0, tR a0)]) (fun q hq => hq) ?_
  unfold f_X12_leastOfFirst at hf
  refine g_aload_n X dX12_leastOfFirst_0 0 rfl ?_
  refine g_getI X hf (T := TX12) rfl (by decide) (by decide) in_RX12 tb_1158 rfl dX12_leastOfFirst_1 (fun v1 hf => ?_)
  refine g_ifge (tgt := 11) X hf dX12_leastOfFirst_4 (by decide) (fun hf => ?_) (fun hf => ?_)
  · refine g_iconst (v := 0) X dX12_leastOfFirst_7 (by decide) ?_
    refine g_goto (tgt := 20) X dX12_leastOfFirst_8 (by decide) ?_
    exact g_ireturn X (zP hf) (by decide) (by decide) dX12_leastOfFirst_20
  · refine g_aload_n X dX12_leastOfFirst_11 0 rfl ?_
    refine g_getR X hf (T := TX12) rfl (by decide) (by decide) in_RX12 tb_1154 rfl dX12_leastOfFirst_12 (fun v2 hf => ?_)
    refine g_aload_n X dX12_leastOfFirst_15 0 rfl ?_
    refine g_getI X hf (T := TX12) rfl (by decide) (by decide) in_RX12 tb_1158 rfl dX12_leastOfFirst_16 (fun v3 hf => ?_)
    refine g_iaload X hf dX12_leastOfFirst_19 (fun v4 hf => ?_)
    exact g_ireturn X (zP hf) (by decide) (by decide) dX12_leastOfFirst_20
def b_X12_countAt_367   (s0 : Option Nat) (s1 : Int32) (h : AH) : Option AH :=
  (pI 12 26 h s0 s1).bind fun h1 =>
  some h1
set_option maxRecDepth 20000 in
theorem w_X12_countAt_367 {K : KT} {w : AH}   (X : CX K cX12_countAt RX12 TB none "countAt" (rmD 40 0 0) 7 0 0)  (s0 : Option Nat) (s1 : Int32) (h : AH) (hf : b_X12_countAt_367 s0 s1 h = some w) : GG K (none, w) 0 0 367 [] [tI s1, tR s0] h := by
  unfold b_X12_countAt_367 at hf
  refine g_putI X hf (T := TX12) rfl (by decide) (by decide) in_RX12 tyX12 tyX12_ok nmX12 tb_1161 rfl rfl rfl dX12_countAt_367 (fun h1 hf => ?_)
  exact g_vreturn X (zV hf) (by decide) (by decide) dX12_countAt_370
def b_X12_countAt_312  (k221 : Option Nat → Int32 → Int32 → AH → Option AH) (x0 : Option Nat) (x3 : Int32) (s0 : Int32) (s1 : Int32) (h : AH) : Option AH :=
  k221 x0 (s0 ||| s1) (x3 + 1) h
set_option maxRecDepth 20000 in
theorem w_X12_countAt_312 {K : KT} {w : AH} {k221 : Option Nat → Int32 → Int32 → AH → Option AH}  (X : CX K cX12_countAt RX12 TB none "countAt" (rmD 40 0 0) 7 0 0) (hk221 : ∀ (x0 : Option Nat) (x2 : Int32) (x3 : Int32) (h : AH), k221 x0 x2 x3 h = some w → GG K (none, w) 0 0 221 [(0, tR x0), (2, tI x2), (3, tI x3)] [] h) (x0 : Option Nat) (x3 : Int32) (s0 : Int32) (s1 : Int32) (h : AH) (hf : b_X12_countAt_312 k221 x0 x3 s0 s1 h = some w) : GG K (none, w) 0 0 312 [(0, tR x0), (3, tI x3)] [tI s1, tI s0] h := by
  unfold b_X12_countAt_312 at hf
  refine g_ior X dX12_countAt_312 ?_
  refine g_istore_n (lv' := [(0, tR x0), (2, tI (s0 ||| s1)), (3, tI x3)]) X dX12_countAt_313 (by decide) (in_pick [1, 0, 2] rfl) ?_
  refine g_iinc (v := (x3 + 1)) (lv' := [(0, tR x0), (2, tI (s0 ||| s1)), (3, tI (x3 + 1))]) X dX12_countAt_314 2 rfl (by rfl) (by decide) (in_pick [1, 2, 0] rfl) ?_
  refine g_goto (tgt := 221) X dX12_countAt_317 (by decide) ?_
  exact hk221 x0 (s0 ||| s1) (x3 + 1) h hf
def b_X12_countAt_275  (k221 : Option Nat → Int32 → Int32 → AH → Option AH) (x0 : Option Nat) (x2 : Int32) (x3 : Int32) (s0 : Int32) (h : AH) : Option AH :=
  if s0 = 0 then
    b_X12_countAt_312 k221 x0 x3 x2 0 h
  else
    (gR 12 0 h x0).bind fun v1 =>
    (aI h v1 (771 + x3)).bind fun v2 =>
    if v2 < 0 then
      b_X12_countAt_312 k221 x0 x3 x2 0 h
    else
      (gR 12 0 h x0).bind fun v3 =>
      (aI h v3 (771 + x3)).bind fun v4 =>
      b_X12_countAt_312 k221 x0 x3 x2 (1 <<< (v4 &&& 31)) h
set_option maxRecDepth 20000 in
theorem w_X12_countAt_275 {K : KT} {w : AH} {k221 : Option Nat → Int32 → Int32 → AH → Option AH}  (X : CX K cX12_countAt RX12 TB none "countAt" (rmD 40 0 0) 7 0 0) (hk221 : ∀ (x0 : Option Nat) (x2 : Int32) (x3 : Int32) (h : AH), k221 x0 x2 x3 h = some w → GG K (none, w) 0 0 221 [(0, tR x0), (2, tI x2), (3, tI x3)] [] h) (x0 : Option Nat) (x2 : Int32) (x3 : Int32) (s0 : Int32) (h : AH) (hf : b_X12_countAt_275 k221 x0 x2 x3 s0 h = some w) : GG K (none, w) 0 0 275 [(0, tR x0), (2, tI x2), (3, tI x3)] [tI s0] h := by
  unfold b_X12_countAt_275 at hf
  refine g_istore (lv' := [(0, tR x0), (2, tI x2), (3, tI x3), (4, tI s0)]) X dX12_countAt_275 (by decide) (in_pick [1, 2, 3, 0] rfl) ?_
  refine g_iload_n X dX12_countAt_277 1 rfl ?_
  refine g_iload X dX12_countAt_278 3 rfl ?_
  refine g_ifeq (tgt := 311) X hf dX12_countAt_280 (by decide) (fun hf => ?_) (fun hf => ?_)
  · refine g_iconst (v := 0) X dX12_countAt_311 (by decide) ?_
    refine g_locs (lv' := [(0, tR x0), (3, tI x3)]) (in_pick [0, 2] rfl) ?_
    exact w_X12_countAt_312 X hk221 x0 x3 x2 0 h hf
  · refine g_aload_n X dX12_countAt_283 0 rfl ?_
    refine g_getR X hf (T := TX12) rfl (by decide) (by decide) in_RX12 tb_1135 rfl dX12_countAt_284 (fun v1 hf => ?_)
    refine g_sipush (v := 771) X dX12_countAt_287 (by decide) ?_
    refine g_iload_n X dX12_countAt_290 2 rfl ?_
    refine g_iadd X dX12_countAt_291 ?_
    refine g_iaload X hf dX12_countAt_292 (fun v2 hf => ?_)
    refine g_iflt (tgt := 311) X hf dX12_countAt_293 (by decide) (fun hf => ?_) (fun hf => ?_)
    · refine g_iconst (v := 0) X dX12_countAt_311 (by decide) ?_
      refine g_locs (lv' := [(0, tR x0), (3, tI x3)]) (in_pick [0, 2] rfl) ?_
      exact w_X12_countAt_312 X hk221 x0 x3 x2 0 h hf
    · refine g_iconst (v := 1) X dX12_countAt_296 (by decide) ?_
      refine g_aload_n X dX12_countAt_297 0 rfl ?_
      refine g_getR X hf (T := TX12) rfl (by decide) (by decide) in_RX12 tb_1135 rfl dX12_countAt_298 (fun v3 hf => ?_)
      refine g_sipush (v := 771) X dX12_countAt_301 (by decide) ?_
      refine g_iload_n X dX12_countAt_304 2 rfl ?_
      refine g_iadd X dX12_countAt_305 ?_
      refine g_iaload X hf dX12_countAt_306 (fun v4 hf => ?_)
      refine g_ishl X dX12_countAt_307 ?_
      refine g_goto (tgt := 312) X dX12_countAt_308 (by decide) ?_
      refine g_locs (lv' := [(0, tR x0), (3, tI x3)]) (in_pick [0, 2] rfl) ?_
      exact w_X12_countAt_312 X hk221 x0 x3 x2 (1 <<< (v4 &&& 31)) h hf
def b_X12_countAt_221    : Nat → Option Nat → Int32 → Int32 → AH → Option AH
  | 0 => fun _ _ _ _ => none
  | n + 1 => fun x0 x2 x3 h =>
    (gR 12 0 h x0).bind fun v1 =>
    (aI h v1 5).bind fun v2 =>
    if x3 < v2 then
      (gR 12 21 h x0).bind fun v3 =>
      (aZ h v3 x3).bind fun v4 =>
      if v4 = 0 then
        b_X12_countAt_275 (b_X12_countAt_221 n) x0 x2 x3 0 h
      else
        (gI 12 23 h x0).bind fun v5 =>
        if v5 < 0 then
          b_X12_countAt_275 (b_X12_countAt_221 n) x0 x2 x3 0 h
        else
          (ck 12 h x0 (f_X12_meaning x0 x3 h)).bind fun p6 =>
          if p6.1 = 1 then
            (ck 12 p6.2 x0 (f_X12_meant x0 x3 p6.2)).bind fun p7 =>
            (gI 12 23 p7.2 x0).bind fun v8 =>
            if p7.1 = (1 <<< (v8 &&& 31)) then
              b_X12_countAt_275 (b_X12_countAt_221 n) x0 x2 x3 1 p7.2
            else
              b_X12_countAt_275 (b_X12_countAt_221 n) x0 x2 x3 0 p7.2
          else
            b_X12_countAt_275 (b_X12_countAt_221 n) x0 x2 x3 0 p6.2
    else
      (f_X12_bits x2 h).bind fun v9 =>
      (pI 12 25 h x0 v9).bind fun h10 =>
      (ck 12 h10 x0 (f_X12_leastOfFirst x0 h10)).bind fun v11 =>
      if 0 < v11 then
        (gI 12 22 h10 x0).bind fun v12 =>
        (ck 12 h10 x0 (f_X12_leastOfFirst x0 h10)).bind fun v13 =>
        (gI 12 24 h10 x0).bind fun v14 =>
        (gI 12 25 h10 x0).bind fun v15 =>
        (ck 12 h10 x0 (f_X12_isEnough x0 v12 v13 v14 v15 h10)).bind fun p16 =>
        if p16.1 = 0 then
          b_X12_countAt_367 x0 (-1) p16.2
        else
          (gI 12 23 p16.2 x0).bind fun v17 =>
          b_X12_countAt_367 x0 v17 p16.2
      else
        b_X12_countAt_367 x0 (-1) h10
set_option maxRecDepth 20000 in
theorem w_X12_countAt_221 {K : KT} {w : AH}   (X : CX K cX12_countAt RX12 TB none "countAt" (rmD 40 0 0) 7 0 0)  : ∀ (n : Nat) (x0 : Option Nat) (x2 : Int32) (x3 : Int32) (h : AH), b_X12_countAt_221 n x0 x2 x3 h = some w → GG K (none, w) 0 0 221 [(0, tR x0), (2, tI x2), (3, tI x3)] [] h := by
  intro n
  induction n with
  | zero =>
    intro x0 x2 x3 h hf
    cases (show none = some w from hf)
  | succ n ih =>
    intro x0 x2 x3 h hf
    rw [b_X12_countAt_221] at hf
    refine g_iload_n X dX12_countAt_221 2 rfl ?_
    refine g_aload_n X dX12_countAt_222 0 rfl ?_
    refine g_getR X hf (T := TX12) rfl (by decide) (by decide) in_RX12 tb_1135 rfl dX12_countAt_223 (fun v1 hf => ?_)
    refine g_iconst (v := 5) X dX12_countAt_226 (by decide) ?_
    refine g_iaload X hf dX12_countAt_227 (fun v2 hf => ?_)
    refine g_icmpge (tgt := 320) X hf dX12_countAt_228 (by decide) (fun hf => ?_) (fun hf => ?_)
    · refine g_aload_n X dX12_countAt_231 0 rfl ?_
      refine g_getR X hf (T := TX12) rfl (by decide) (by decide) in_RX12 tb_1156 rfl dX12_countAt_232 (fun v3 hf => ?_)
      refine g_iload_n X dX12_countAt_235 2 rfl ?_
      refine g_baload X hf dX12_countAt_236 (fun v4 hf => ?_)
      refine g_ifeq (tgt := 274) X hf dX12_countAt_237 (by decide) (fun hf => ?_) (fun hf => ?_)
      · refine g_iconst (v := 0) X dX12_countAt_274 (by decide) ?_
        exact w_X12_countAt_275 X ih x0 x2 x3 0 h hf
      · refine g_aload_n X dX12_countAt_240 0 rfl ?_
        refine g_getI X hf (T := TX12) rfl (by decide) (by decide) in_RX12 tb_1158 rfl dX12_countAt_241 (fun v5 hf => ?_)
        refine g_iflt (tgt := 274) X hf dX12_countAt_244 (by decide) (fun hf => ?_) (fun hf => ?_)
        · refine g_iconst (v := 0) X dX12_countAt_274 (by decide) ?_
          exact w_X12_countAt_275 X ih x0 x2 x3 0 h hf
        · refine g_aload_n X dX12_countAt_247 0 rfl ?_
          refine g_iload_n X dX12_countAt_248 2 rfl ?_
          refine g_callV (n := 1) (av := [tI x3]) (rest := []) (k := 12) X hf (fun p6 => (some (tI p6.1), p6.2)) (fun _ q => m_X12_meaning q) (gdV tb_1360 tb_1361 tb_1700 tb_12 tb_1362) rfl (by decide +kernel) rfl (by decide) rfl (by decide) (by decide) rfl (Nat.le_of_ble_eq_true rfl) dX12_countAt_249 (fun p6 hf => ?_)
          refine g_iconst (v := 1) X dX12_countAt_252 (by decide) ?_
          refine g_icmpne (tgt := 274) X hf dX12_countAt_253 (by decide) (fun hf => ?_) (fun hf => ?_)
          · refine g_aload_n X dX12_countAt_256 0 rfl ?_
            refine g_iload_n X dX12_countAt_257 2 rfl ?_
            refine g_callV (n := 1) (av := [tI x3]) (rest := []) (k := 12) X hf (fun p7 => (some (tI p7.1), p7.2)) (fun _ q => m_X12_meant q) (gdV tb_1363 tb_1364 tb_1701 tb_12 tb_1365) rfl (by decide +kernel) rfl (by decide) rfl (by decide) (by decide) rfl (Nat.le_of_ble_eq_true rfl) dX12_countAt_258 (fun p7 hf => ?_)
            refine g_iconst (v := 1) X dX12_countAt_261 (by decide) ?_
            refine g_aload_n X dX12_countAt_262 0 rfl ?_
            refine g_getI X hf (T := TX12) rfl (by decide) (by decide) in_RX12 tb_1158 rfl dX12_countAt_263 (fun v8 hf => ?_)
            refine g_ishl X dX12_countAt_266 ?_
            refine g_icmpne (tgt := 274) X hf dX12_countAt_267 (by decide) (fun hf => ?_) (fun hf => ?_)
            · refine g_iconst (v := 1) X dX12_countAt_270 (by decide) ?_
              refine g_goto (tgt := 275) X dX12_countAt_271 (by decide) ?_
              exact w_X12_countAt_275 X ih x0 x2 x3 1 p7.2 hf
            · refine g_iconst (v := 0) X dX12_countAt_274 (by decide) ?_
              exact w_X12_countAt_275 X ih x0 x2 x3 0 p7.2 hf
          · refine g_iconst (v := 0) X dX12_countAt_274 (by decide) ?_
            exact w_X12_countAt_275 X ih x0 x2 x3 0 p6.2 hf
    · refine g_aload_n X dX12_countAt_320 0 rfl ?_
      refine g_iload_n X dX12_countAt_321 1 rfl ?_
      refine g_callS (n := 1) (av := [tI x2]) (rest := [tR x0]) X hf (fun v9 => (some (tI v9), h)) (fun _ q => m_X12_bits q) (gdS tb_1369 tb_1370 tb_12 tb_1371) rfl (by decide +kernel) rfl (by decide) (by decide) rfl (Nat.le_of_ble_eq_true rfl) dX12_countAt_322 (fun v9 hf => ?_)
      refine g_putI X hf (T := TX12) rfl (by decide) (by decide) in_RX12 tyX12 tyX12_ok nmX12 tb_1160 rfl rfl rfl dX12_countAt_325 (fun h10 hf => ?_)
      refine g_aload_n X dX12_countAt_328 0 rfl ?_
      refine g_aload_n X dX12_countAt_329 0 rfl ?_
      refine g_callV (n := 0) (av := []) (rest := [tR x0]) (k := 12) X hf (fun v11 => (some (tI v11), h10)) (fun _ q => m_X12_leastOfFirst q) (gdV tb_1451 tb_1452 tb_1721 tb_12 tb_1453) rfl (by decide +kernel) rfl (by decide) rfl (by decide) (by decide) rfl (Nat.le_of_ble_eq_true rfl) dX12_countAt_330 (fun v11 hf => ?_)
      refine g_ifle (tgt := 366) X hf dX12_countAt_333 (by decide) (fun hf => ?_) (fun hf => ?_)
      · refine g_aload_n X dX12_countAt_336 0 rfl ?_
        refine g_aload_n X dX12_countAt_337 0 rfl ?_
        refine g_getI X hf (T := TX12) rfl (by decide) (by decide) in_RX12 tb_1157 rfl dX12_countAt_338 (fun v12 hf => ?_)
        refine g_aload_n X dX12_countAt_341 0 rfl ?_
        refine g_callV (n := 0) (av := []) (rest := [tI v12, tR x0, tR x0]) (k := 12) X hf (fun v13 => (some (tI v13), h10)) (fun _ q => m_X12_leastOfFirst q) (gdV tb_1451 tb_1452 tb_1721 tb_12 tb_1453) rfl (by decide +kernel) rfl (by decide) rfl (by decide) (by decide) rfl (Nat.le_of_ble_eq_true rfl) dX12_countAt_342 (fun v13 hf => ?_)
        refine g_aload_n X dX12_countAt_345 0 rfl ?_
        refine g_getI X hf (T := TX12) rfl (by decide) (by decide) in_RX12 tb_1159 rfl dX12_countAt_346 (fun v14 hf => ?_)
        refine g_aload_n X dX12_countAt_349 0 rfl ?_
        refine g_getI X hf (T := TX12) rfl (by decide) (by decide) in_RX12 tb_1160 rfl dX12_countAt_350 (fun v15 hf => ?_)
        refine g_callV (n := 4) (av := [tI v12, tI v13, tI v14, tI v15]) (rest := [tR x0]) (k := 12) X hf (fun p16 => (some (tI p16.1), p16.2)) (fun _ q => m_X12_isEnough q) (gdV tb_1454 tb_1455 tb_1722 tb_12 tb_1456) rfl (by decide +kernel) rfl (by decide) rfl (by decide) (by decide) rfl (Nat.le_of_ble_eq_true rfl) dX12_countAt_353 (fun p16 hf => ?_)
        refine g_ifeq (tgt := 366) X hf dX12_countAt_356 (by decide) (fun hf => ?_) (fun hf => ?_)
        · refine g_iconst (v := (-1)) X dX12_countAt_366 (by decide) ?_
          refine g_locs (lv' := []) (in_pick [] rfl) ?_
          exact w_X12_countAt_367 X x0 (-1) p16.2 hf
        · refine g_aload_n X dX12_countAt_359 0 rfl ?_
          refine g_getI X hf (T := TX12) rfl (by decide) (by decide) in_RX12 tb_1158 rfl dX12_countAt_360 (fun v17 hf => ?_)
          refine g_goto (tgt := 367) X dX12_countAt_363 (by decide) ?_
          refine g_locs (lv' := []) (in_pick [] rfl) ?_
          exact w_X12_countAt_367 X x0 v17 p16.2 hf
      · refine g_iconst (v := (-1)) X dX12_countAt_366 (by decide) ?_
        refine g_locs (lv' := []) (in_pick [] rfl) ?_
        exact w_X12_countAt_367 X x0 (-1) h10 hf
def b_X12_countAt_199  (k35 : Option Nat → Int32 → Int32 → AH → Option AH) (k149 : Option Nat → Int32 → Int32 → Int32 → Int32 → Int32 → AH → Option AH) (x0 : Option Nat) (x1 : Int32) (x2 : Int32) (x3 : Int32) (x4 : Int32) (x5 : Int32) (s0 : Option Nat) (s1 : Int32) (s2 : Int32) (s3 : Int32) (h : AH) : Option AH :=
  (sI h s0 s1 (s2 + s3)).bind fun h1 =>
  k149 x0 x1 x2 x3 x4 (x5 + 1) h1
set_option maxRecDepth 20000 in
theorem w_X12_countAt_199 {K : KT} {w : AH} {k35 : Option Nat → Int32 → Int32 → AH → Option AH} {k149 : Option Nat → Int32 → Int32 → Int32 → Int32 → Int32 → AH → Option AH}  (X : CX K cX12_countAt RX12 TB none "countAt" (rmD 40 0 0) 7 0 0) (hk35 : ∀ (x0 : Option Nat) (x1 : Int32) (x2 : Int32) (h : AH), k35 x0 x1 x2 h = some w → GG K (none, w) 0 0 35 [(0, tR x0), (1, tI x1), (2, tI x2)] [] h) (hk149 : ∀ (x0 : Option Nat) (x1 : Int32) (x2 : Int32) (x3 : Int32) (x4 : Int32) (x5 : Int32) (h : AH), k149 x0 x1 x2 x3 x4 x5 h = some w → GG K (none, w) 0 0 149 [(0, tR x0), (1, tI x1), (2, tI x2), (3, tI x3), (4, tI x4), (5, tI x5)] [] h) (x0 : Option Nat) (x1 : Int32) (x2 : Int32) (x3 : Int32) (x4 : Int32) (x5 : Int32) (s0 : Option Nat) (s1 : Int32) (s2 : Int32) (s3 : Int32) (h : AH) (hf : b_X12_countAt_199 k35 k149 x0 x1 x2 x3 x4 x5 s0 s1 s2 s3 h = some w) : GG K (none, w) 0 0 199 [(0, tR x0), (1, tI x1), (2, tI x2), (3, tI x3), (4, tI x4), (5, tI x5)] [tI s3, tI s2, tI s1, tR s0] h := by
  unfold b_X12_countAt_199 at hf
  refine g_iadd X dX12_countAt_199 ?_
  refine g_iastore X hf dX12_countAt_200 (fun h1 hf => ?_)
  refine g_iinc (v := (x5 + 1)) (lv' := [(0, tR x0), (1, tI x1), (2, tI x2), (3, tI x3), (4, tI x4), (5, tI (x5 + 1))]) X dX12_countAt_201 5 rfl (by rfl) (by decide) (in_pick [1, 2, 3, 4, 5, 0] rfl) ?_
  refine g_goto (tgt := 149) X dX12_countAt_204 (by decide) ?_
  exact hk149 x0 x1 x2 x3 x4 (x5 + 1) h1 hf
def b_X12_countAt_149  (k35 : Option Nat → Int32 → Int32 → AH → Option AH)  : Nat → Option Nat → Int32 → Int32 → Int32 → Int32 → Int32 → AH → Option AH
  | 0 => fun _ _ _ _ _ _ _ => none
  | n + 1 => fun x0 x1 x2 x3 x4 x5 h =>
    (gR 12 0 h x0).bind fun v1 =>
    (aI h v1 2).bind fun v2 =>
    if x5 < v2 then
      (gR 12 20 h x0).bind fun v3 =>
      (aI h v3 x5).bind fun v4 =>
      (sI h v3 x5 (v4 + ((x3 >>> (x5 &&& 31)) &&& 1))).bind fun h5 =>
      (gR 12 19 h5 x0).bind fun v6 =>
      (aI h5 v6 x5).bind fun v7 =>
      if x4 = 0 then
        b_X12_countAt_199 k35 (b_X12_countAt_149 k35 n) x0 x1 x2 x3 x4 x5 v6 x5 v7 0 h5
      else
        b_X12_countAt_199 k35 (b_X12_countAt_149 k35 n) x0 x1 x2 x3 x4 x5 v6 x5 v7 ((x3 >>> (x5 &&& 31)) &&& 1) h5
    else
      k35 x0 x1 (x2 + 1) h
set_option maxRecDepth 20000 in
theorem w_X12_countAt_149 {K : KT} {w : AH} {k35 : Option Nat → Int32 → Int32 → AH → Option AH}  (X : CX K cX12_countAt RX12 TB none "countAt" (rmD 40 0 0) 7 0 0) (hk35 : ∀ (x0 : Option Nat) (x1 : Int32) (x2 : Int32) (h : AH), k35 x0 x1 x2 h = some w → GG K (none, w) 0 0 35 [(0, tR x0), (1, tI x1), (2, tI x2)] [] h) : ∀ (n : Nat) (x0 : Option Nat) (x1 : Int32) (x2 : Int32) (x3 : Int32) (x4 : Int32) (x5 : Int32) (h : AH), b_X12_countAt_149 k35 n x0 x1 x2 x3 x4 x5 h = some w → GG K (none, w) 0 0 149 [(0, tR x0), (1, tI x1), (2, tI x2), (3, tI x3), (4, tI x4), (5, tI x5)] [] h := by
  intro n
  induction n with
  | zero =>
    intro x0 x1 x2 x3 x4 x5 h hf
    cases (show none = some w from hf)
  | succ n ih =>
    intro x0 x1 x2 x3 x4 x5 h hf
    rw [b_X12_countAt_149] at hf
    refine g_iload X dX12_countAt_149 5 rfl ?_
    refine g_aload_n X dX12_countAt_151 0 rfl ?_
    refine g_getR X hf (T := TX12) rfl (by decide) (by decide) in_RX12 tb_1135 rfl dX12_countAt_152 (fun v1 hf => ?_)
    refine g_iconst (v := 2) X dX12_countAt_155 (by decide) ?_
    refine g_iaload X hf dX12_countAt_156 (fun v2 hf => ?_)
    refine g_icmpge (tgt := 207) X hf dX12_countAt_157 (by decide) (fun hf => ?_) (fun hf => ?_)
    · refine g_iload_n X dX12_countAt_160 3 rfl ?_
      refine g_iload X dX12_countAt_161 5 rfl ?_
      refine g_ishr X dX12_countAt_163 ?_
      refine g_iconst (v := 1) X dX12_countAt_164 (by decide) ?_
      refine g_iand X dX12_countAt_165 ?_
      refine g_istore (lv' := [(0, tR x0), (1, tI x1), (2, tI x2), (3, tI x3), (4, tI x4), (5, tI x5), (6, tI ((x3 >>> (x5 &&& 31)) &&& 1))]) X dX12_countAt_166 (by decide) (in_pick [1, 2, 3, 4, 5, 6, 0] rfl) ?_
      refine g_aload_n X dX12_countAt_168 0 rfl ?_
      refine g_getR X hf (T := TX12) rfl (by decide) (by decide) in_RX12 tb_1155 rfl dX12_countAt_169 (fun v3 hf => ?_)
      refine g_iload X dX12_countAt_172 5 rfl ?_
      refine g_dup2 X dX12_countAt_174 rfl rfl ?_
      refine g_iaload X hf dX12_countAt_175 (fun v4 hf => ?_)
      refine g_iload X dX12_countAt_176 6 rfl ?_
      refine g_iadd X dX12_countAt_178 ?_
      refine g_iastore X hf dX12_countAt_179 (fun h5 hf => ?_)
      refine g_aload_n X dX12_countAt_180 0 rfl ?_
      refine g_getR X hf (T := TX12) rfl (by decide) (by decide) in_RX12 tb_1154 rfl dX12_countAt_181 (fun v6 hf => ?_)
      refine g_iload X dX12_countAt_184 5 rfl ?_
      refine g_dup2 X dX12_countAt_186 rfl rfl ?_
      refine g_iaload X hf dX12_countAt_187 (fun v7 hf => ?_)
      refine g_iload X dX12_countAt_188 4 rfl ?_
      refine g_ifeq (tgt := 198) X hf dX12_countAt_190 (by decide) (fun hf => ?_) (fun hf => ?_)
      · refine g_iconst (v := 0) X dX12_countAt_198 (by decide) ?_
        refine g_locs (lv' := [(0, tR x0), (1, tI x1), (2, tI x2), (3, tI x3), (4, tI x4), (5, tI x5)]) (in_pick [0, 1, 2, 3, 4, 5] rfl) ?_
        exact w_X12_countAt_199 X hk35 ih x0 x1 x2 x3 x4 x5 v6 x5 v7 0 h5 hf
      · refine g_iload X dX12_countAt_193 6 rfl ?_
        refine g_goto (tgt := 199) X dX12_countAt_195 (by decide) ?_
        refine g_locs (lv' := [(0, tR x0), (1, tI x1), (2, tI x2), (3, tI x3), (4, tI x4), (5, tI x5)]) (in_pick [0, 1, 2, 3, 4, 5] rfl) ?_
        exact w_X12_countAt_199 X hk35 ih x0 x1 x2 x3 x4 x5 v6 x5 v7 ((x3 >>> (x5 &&& 31)) &&& 1) h5 hf
    · refine g_iinc (v := (x2 + 1)) (lv' := [(0, tR x0), (1, tI x1), (2, tI (x2 + 1)), (3, tI x3), (4, tI x4), (5, tI x5)]) X dX12_countAt_207 2 rfl (by rfl) (by decide) (in_pick [1, 2, 0, 3, 4, 5] rfl) ?_
      refine g_goto (tgt := 35) X dX12_countAt_210 (by decide) ?_
      refine g_locs (lv' := [(0, tR x0), (1, tI x1), (2, tI (x2 + 1))]) (in_pick [0, 1, 2] rfl) ?_
      exact hk35 x0 x1 (x2 + 1) h hf
def b_X12_countAt_104  (k35 : Option Nat → Int32 → Int32 → AH → Option AH) (x0 : Option Nat) (x1 : Int32) (x2 : Int32) (s0 : Option Nat) (s1 : Int32) (s2 : Int32) (h : AH) : Option AH :=
  (sZ h s0 s1 s2).bind fun h1 =>
  (gR 12 21 h1 x0).bind fun v2 =>
  (aZ h1 v2 x2).bind fun v3 =>
  if v3 = 0 then
    k35 x0 x1 (x2 + 1) h1
  else
    (gI 12 22 h1 x0).bind fun v4 =>
    (pI 12 22 h1 x0 (v4 + 1)).bind fun h5 =>
    (ck 12 h5 x0 (f_X12_meant x0 x2 h5)).bind fun p6 =>
    (ck 12 p6.2 x0 (f_X12_meaning x0 x2 p6.2)).bind fun p7 =>
    if p7.1 = 1 then
      b_X12_countAt_149 k35 FU x0 x1 x2 p6.1 1 0 p7.2
    else
      b_X12_countAt_149 k35 FU x0 x1 x2 p6.1 0 0 p7.2
set_option maxRecDepth 20000 in
theorem w_X12_countAt_104 {K : KT} {w : AH} {k35 : Option Nat → Int32 → Int32 → AH → Option AH}  (X : CX K cX12_countAt RX12 TB none "countAt" (rmD 40 0 0) 7 0 0) (hk35 : ∀ (x0 : Option Nat) (x1 : Int32) (x2 : Int32) (h : AH), k35 x0 x1 x2 h = some w → GG K (none, w) 0 0 35 [(0, tR x0), (1, tI x1), (2, tI x2)] [] h) (x0 : Option Nat) (x1 : Int32) (x2 : Int32) (s0 : Option Nat) (s1 : Int32) (s2 : Int32) (h : AH) (hf : b_X12_countAt_104 k35 x0 x1 x2 s0 s1 s2 h = some w) : GG K (none, w) 0 0 104 [(0, tR x0), (1, tI x1), (2, tI x2)] [tI s2, tI s1, tR s0] h := by
  unfold b_X12_countAt_104 at hf
  refine g_bastore X hf dX12_countAt_104 (fun h1 hf => ?_)
  refine g_aload_n X dX12_countAt_105 0 rfl ?_
  refine g_getR X hf (T := TX12) rfl (by decide) (by decide) in_RX12 tb_1156 rfl dX12_countAt_106 (fun v2 hf => ?_)
  refine g_iload_n X dX12_countAt_109 2 rfl ?_
  refine g_baload X hf dX12_countAt_110 (fun v3 hf => ?_)
  refine g_ifeq (tgt := 207) X hf dX12_countAt_111 (by decide) (fun hf => ?_) (fun hf => ?_)
  · refine g_iinc (v := (x2 + 1)) (lv' := [(0, tR x0), (1, tI x1), (2, tI (x2 + 1))]) X dX12_countAt_207 2 rfl (by rfl) (by decide) (in_pick [1, 2, 0] rfl) ?_
    refine g_goto (tgt := 35) X dX12_countAt_210 (by decide) ?_
    exact hk35 x0 x1 (x2 + 1) h1 hf
  · refine g_aload_n X dX12_countAt_114 0 rfl ?_
    refine g_dup X dX12_countAt_115 rfl ?_
    refine g_getI X hf (T := TX12) rfl (by decide) (by decide) in_RX12 tb_1157 rfl dX12_countAt_116 (fun v4 hf => ?_)
    refine g_iconst (v := 1) X dX12_countAt_119 (by decide) ?_
    refine g_iadd X dX12_countAt_120 ?_
    refine g_putI X hf (T := TX12) rfl (by decide) (by decide) in_RX12 tyX12 tyX12_ok nmX12 tb_1157 rfl rfl rfl dX12_countAt_121 (fun h5 hf => ?_)
    refine g_aload_n X dX12_countAt_124 0 rfl ?_
    refine g_iload_n X dX12_countAt_125 2 rfl ?_
    refine g_callV (n := 1) (av := [tI x2]) (rest := []) (k := 12) X hf (fun p6 => (some (tI p6.1), p6.2)) (fun _ q => m_X12_meant q) (gdV tb_1363 tb_1364 tb_1701 tb_12 tb_1365) rfl (by decide +kernel) rfl (by decide) rfl (by decide) (by decide) rfl (Nat.le_of_ble_eq_true rfl) dX12_countAt_126 (fun p6 hf => ?_)
    refine g_istore_n (lv' := [(0, tR x0), (1, tI x1), (2, tI x2), (3, tI p6.1)]) X dX12_countAt_129 (by decide) (in_pick [1, 2, 3, 0] rfl) ?_
    refine g_aload_n X dX12_countAt_130 0 rfl ?_
    refine g_iload_n X dX12_countAt_131 2 rfl ?_
    refine g_callV (n := 1) (av := [tI x2]) (rest := []) (k := 12) X hf (fun p7 => (some (tI p7.1), p7.2)) (fun _ q => m_X12_meaning q) (gdV tb_1360 tb_1361 tb_1700 tb_12 tb_1362) rfl (by decide +kernel) rfl (by decide) rfl (by decide) (by decide) rfl (Nat.le_of_ble_eq_true rfl) dX12_countAt_132 (fun p7 hf => ?_)
    refine g_iconst (v := 1) X dX12_countAt_135 (by decide) ?_
    refine g_icmpne (tgt := 143) X hf dX12_countAt_136 (by decide) (fun hf => ?_) (fun hf => ?_)
    · refine g_iconst (v := 1) X dX12_countAt_139 (by decide) ?_
      refine g_goto (tgt := 144) X dX12_countAt_140 (by decide) ?_
      refine g_istore (lv' := [(0, tR x0), (1, tI x1), (2, tI x2), (3, tI p6.1), (4, tI 1)]) X dX12_countAt_144 (by decide) (in_pick [1, 2, 3, 4, 0] rfl) ?_
      refine g_iconst (v := 0) X dX12_countAt_146 (by decide) ?_
      refine g_istore (lv' := [(0, tR x0), (1, tI x1), (2, tI x2), (3, tI p6.1), (4, tI 1), (5, tI 0)]) X dX12_countAt_147 (by decide) (in_pick [1, 2, 3, 4, 5, 0] rfl) ?_
      exact w_X12_countAt_149 X hk35 FU x0 x1 x2 p6.1 1 0 p7.2 hf
    · refine g_iconst (v := 0) X dX12_countAt_143 (by decide) ?_
      refine g_istore (lv' := [(0, tR x0), (1, tI x1), (2, tI x2), (3, tI p6.1), (4, tI 0)]) X dX12_countAt_144 (by decide) (in_pick [1, 2, 3, 4, 0] rfl) ?_
      refine g_iconst (v := 0) X dX12_countAt_146 (by decide) ?_
      refine g_istore (lv' := [(0, tR x0), (1, tI x1), (2, tI x2), (3, tI p6.1), (4, tI 0), (5, tI 0)]) X dX12_countAt_147 (by decide) (in_pick [1, 2, 3, 4, 5, 0] rfl) ?_
      exact w_X12_countAt_149 X hk35 FU x0 x1 x2 p6.1 0 0 p7.2 hf
def b_X12_countAt_91  (k35 : Option Nat → Int32 → Int32 → AH → Option AH) (x0 : Option Nat) (x1 : Int32) (x2 : Int32) (s0 : Option Nat) (s1 : Int32) (h : AH) : Option AH :=
  (ck 12 h x0 (f_X12_isGood x0 x2 h)).bind fun p1 =>
  if p1.1 = 0 then
    b_X12_countAt_104 k35 x0 x1 x2 s0 s1 0 p1.2
  else
    b_X12_countAt_104 k35 x0 x1 x2 s0 s1 1 p1.2
set_option maxRecDepth 20000 in
theorem w_X12_countAt_91 {K : KT} {w : AH} {k35 : Option Nat → Int32 → Int32 → AH → Option AH}  (X : CX K cX12_countAt RX12 TB none "countAt" (rmD 40 0 0) 7 0 0) (hk35 : ∀ (x0 : Option Nat) (x1 : Int32) (x2 : Int32) (h : AH), k35 x0 x1 x2 h = some w → GG K (none, w) 0 0 35 [(0, tR x0), (1, tI x1), (2, tI x2)] [] h) (x0 : Option Nat) (x1 : Int32) (x2 : Int32) (s0 : Option Nat) (s1 : Int32) (h : AH) (hf : b_X12_countAt_91 k35 x0 x1 x2 s0 s1 h = some w) : GG K (none, w) 0 0 91 [(0, tR x0), (1, tI x1), (2, tI x2)] [tI s1, tR s0] h := by
  unfold b_X12_countAt_91 at hf
  refine g_aload_n X dX12_countAt_91 0 rfl ?_
  refine g_iload_n X dX12_countAt_92 2 rfl ?_
  refine g_callV (n := 1) (av := [tI x2]) (rest := [tI s1, tR s0]) (k := 12) X hf (fun p1 => (some (tI p1.1), p1.2)) (fun _ q => m_X12_isGood q) (gdV tb_1372 tb_1373 tb_1703 tb_12 tb_1374) rfl (by decide +kernel) rfl (by decide) rfl (by decide) (by decide) rfl (Nat.le_of_ble_eq_true rfl) dX12_countAt_93 (fun p1 hf => ?_)
  refine g_ifeq (tgt := 103) X hf dX12_countAt_96 (by decide) (fun hf => ?_) (fun hf => ?_)
  · refine g_iconst (v := 0) X dX12_countAt_103 (by decide) ?_
    exact w_X12_countAt_104 X hk35 x0 x1 x2 s0 s1 0 p1.2 hf
  · refine g_iconst (v := 1) X dX12_countAt_99 (by decide) ?_
    refine g_goto (tgt := 104) X dX12_countAt_100 (by decide) ?_
    exact w_X12_countAt_104 X hk35 x0 x1 x2 s0 s1 1 p1.2 hf
def b_X12_countAt_35    : Nat → Option Nat → Int32 → Int32 → AH → Option AH
  | 0 => fun _ _ _ _ => none
  | n + 1 => fun x0 x1 x2 h =>
    (gR 12 0 h x0).bind fun v1 =>
    (aI h v1 5).bind fun v2 =>
    if x2 < v2 then
      (gR 12 21 h x0).bind fun v3 =>
      (gR 12 0 h x0).bind fun v4 =>
      (aI h v4 (931 + x2)).bind fun v5 =>
      if x1 < v5 then
        b_X12_countAt_104 (b_X12_countAt_35 n) x0 x1 x2 v3 x2 0 h
      else
        (gR 12 0 h x0).bind fun v6 =>
        (aI h v6 (971 + x2)).bind fun v7 =>
        if v7 < 0 then
          b_X12_countAt_91 (b_X12_countAt_35 n) x0 x1 x2 v3 x2 h
        else
          (gR 12 0 h x0).bind fun v8 =>
          (aI h v8 (971 + x2)).bind fun v9 =>
          if x1 < v9 then
            b_X12_countAt_91 (b_X12_countAt_35 n) x0 x1 x2 v3 x2 h
          else
            b_X12_countAt_104 (b_X12_countAt_35 n) x0 x1 x2 v3 x2 0 h
    else
      (ck 12 h x0 (f_X12_rank x0 h)).bind fun h10 =>
      b_X12_countAt_221 FU x0 0 0 h10
set_option maxRecDepth 20000 in
theorem w_X12_countAt_35 {K : KT} {w : AH}   (X : CX K cX12_countAt RX12 TB none "countAt" (rmD 40 0 0) 7 0 0)  : ∀ (n : Nat) (x0 : Option Nat) (x1 : Int32) (x2 : Int32) (h : AH), b_X12_countAt_35 n x0 x1 x2 h = some w → GG K (none, w) 0 0 35 [(0, tR x0), (1, tI x1), (2, tI x2)] [] h := by
  intro n
  induction n with
  | zero =>
    intro x0 x1 x2 h hf
    cases (show none = some w from hf)
  | succ n ih =>
    intro x0 x1 x2 h hf
    rw [b_X12_countAt_35] at hf
    refine g_iload_n X dX12_countAt_35 2 rfl ?_
    refine g_aload_n X dX12_countAt_36 0 rfl ?_
    refine g_getR X hf (T := TX12) rfl (by decide) (by decide) in_RX12 tb_1135 rfl dX12_countAt_37 (fun v1 hf => ?_)
    refine g_iconst (v := 5) X dX12_countAt_40 (by decide) ?_
    refine g_iaload X hf dX12_countAt_41 (fun v2 hf => ?_)
    refine g_icmpge (tgt := 213) X hf dX12_countAt_42 (by decide) (fun hf => ?_) (fun hf => ?_)
    · refine g_aload_n X dX12_countAt_45 0 rfl ?_
      refine g_getR X hf (T := TX12) rfl (by decide) (by decide) in_RX12 tb_1156 rfl dX12_countAt_46 (fun v3 hf => ?_)
      refine g_iload_n X dX12_countAt_49 2 rfl ?_
      refine g_aload_n X dX12_countAt_50 0 rfl ?_
      refine g_getR X hf (T := TX12) rfl (by decide) (by decide) in_RX12 tb_1135 rfl dX12_countAt_51 (fun v4 hf => ?_)
      refine g_sipush (v := 931) X dX12_countAt_54 (by decide) ?_
      refine g_iload_n X dX12_countAt_57 2 rfl ?_
      refine g_iadd X dX12_countAt_58 ?_
      refine g_iaload X hf dX12_countAt_59 (fun v5 hf => ?_)
      refine g_iload_n X dX12_countAt_60 1 rfl ?_
      refine g_icmpgt (tgt := 103) X hf dX12_countAt_61 (by decide) (fun hf => ?_) (fun hf => ?_)
      · refine g_iconst (v := 0) X dX12_countAt_103 (by decide) ?_
        exact w_X12_countAt_104 X ih x0 x1 x2 v3 x2 0 h hf
      · refine g_aload_n X dX12_countAt_64 0 rfl ?_
        refine g_getR X hf (T := TX12) rfl (by decide) (by decide) in_RX12 tb_1135 rfl dX12_countAt_65 (fun v6 hf => ?_)
        refine g_sipush (v := 971) X dX12_countAt_68 (by decide) ?_
        refine g_iload_n X dX12_countAt_71 2 rfl ?_
        refine g_iadd X dX12_countAt_72 ?_
        refine g_iaload X hf dX12_countAt_73 (fun v7 hf => ?_)
        refine g_iflt (tgt := 91) X hf dX12_countAt_74 (by decide) (fun hf => ?_) (fun hf => ?_)
        · exact w_X12_countAt_91 X ih x0 x1 x2 v3 x2 h hf
        · refine g_aload_n X dX12_countAt_77 0 rfl ?_
          refine g_getR X hf (T := TX12) rfl (by decide) (by decide) in_RX12 tb_1135 rfl dX12_countAt_78 (fun v8 hf => ?_)
          refine g_sipush (v := 971) X dX12_countAt_81 (by decide) ?_
          refine g_iload_n X dX12_countAt_84 2 rfl ?_
          refine g_iadd X dX12_countAt_85 ?_
          refine g_iaload X hf dX12_countAt_86 (fun v9 hf => ?_)
          refine g_iload_n X dX12_countAt_87 1 rfl ?_
          refine g_icmple (tgt := 103) X hf dX12_countAt_88 (by decide) (fun hf => ?_) (fun hf => ?_)
          · exact w_X12_countAt_91 X ih x0 x1 x2 v3 x2 h hf
          · refine g_iconst (v := 0) X dX12_countAt_103 (by decide) ?_
            exact w_X12_countAt_104 X ih x0 x1 x2 v3 x2 0 h hf
    · refine g_aload_n X dX12_countAt_213 0 rfl ?_
      refine g_callV (n := 0) (av := []) (rest := []) (k := 12) X hf (fun h10 => (none, h10)) (fun _ q => m_X12_rank q) (gdV tb_1448 tb_1449 tb_1720 tb_12 tb_1450) rfl (by decide +kernel) rfl (by decide) rfl (by decide) (by decide) rfl (Nat.le_of_ble_eq_true rfl) dX12_countAt_214 (fun h10 hf => ?_)
      refine g_iconst (v := 0) X dX12_countAt_217 (by decide) ?_
      refine g_istore_n (lv' := [(0, tR x0), (1, tI x1), (2, tI 0)]) X dX12_countAt_218 (by decide) (in_pick [1, 2, 0] rfl) ?_
      refine g_iconst (v := 0) X dX12_countAt_219 (by decide) ?_
      refine g_istore_n (lv' := [(0, tR x0), (1, tI x1), (2, tI 0), (3, tI 0)]) X dX12_countAt_220 (by decide) (in_pick [1, 2, 3, 0] rfl) ?_
      refine g_locs (lv' := [(0, tR x0), (2, tI 0), (3, tI 0)]) (in_pick [0, 2, 3] rfl) ?_
      exact w_X12_countAt_221 X FU x0 0 0 h10 hf
def b_X12_countAt_7    : Nat → Option Nat → Int32 → Int32 → AH → Option AH
  | 0 => fun _ _ _ _ => none
  | n + 1 => fun x0 x1 x2 h =>
    if x2 < 16 then
      (gR 12 19 h x0).bind fun v1 =>
      (sI h v1 x2 0).bind fun h2 =>
      (gR 12 20 h2 x0).bind fun v3 =>
      (sI h2 v3 x2 0).bind fun h4 =>
      b_X12_countAt_7 n x0 x1 (x2 + 1) h4
    else
      b_X12_countAt_35 FU x0 x1 0 h
set_option maxRecDepth 20000 in
theorem w_X12_countAt_7 {K : KT} {w : AH}   (X : CX K cX12_countAt RX12 TB none "countAt" (rmD 40 0 0) 7 0 0)  : ∀ (n : Nat) (x0 : Option Nat) (x1 : Int32) (x2 : Int32) (h : AH), b_X12_countAt_7 n x0 x1 x2 h = some w → GG K (none, w) 0 0 7 [(0, tR x0), (1, tI x1), (2, tI x2)] [] h := by
  intro n
  induction n with
  | zero =>
    intro x0 x1 x2 h hf
    cases (show none = some w from hf)
  | succ n ih =>
    intro x0 x1 x2 h hf
    rw [b_X12_countAt_7] at hf
    refine g_iload_n X dX12_countAt_7 2 rfl ?_
    refine g_bipush (v := 16) X dX12_countAt_8 (by decide) ?_
    refine g_icmpge (tgt := 33) X hf dX12_countAt_10 (by decide) (fun hf => ?_) (fun hf => ?_)
    · refine g_aload_n X dX12_countAt_13 0 rfl ?_
      refine g_getR X hf (T := TX12) rfl (by decide) (by decide) in_RX12 tb_1154 rfl dX12_countAt_14 (fun v1 hf => ?_)
      refine g_iload_n X dX12_countAt_17 2 rfl ?_
      refine g_iconst (v := 0) X dX12_countAt_18 (by decide) ?_
      refine g_iastore X hf dX12_countAt_19 (fun h2 hf => ?_)
      refine g_aload_n X dX12_countAt_20 0 rfl ?_
      refine g_getR X hf (T := TX12) rfl (by decide) (by decide) in_RX12 tb_1155 rfl dX12_countAt_21 (fun v3 hf => ?_)
      refine g_iload_n X dX12_countAt_24 2 rfl ?_
      refine g_iconst (v := 0) X dX12_countAt_25 (by decide) ?_
      refine g_iastore X hf dX12_countAt_26 (fun h4 hf => ?_)
      refine g_iinc (v := (x2 + 1)) (lv' := [(0, tR x0), (1, tI x1), (2, tI (x2 + 1))]) X dX12_countAt_27 2 rfl (by rfl) (by decide) (in_pick [1, 2, 0] rfl) ?_
      refine g_goto (tgt := 7) X dX12_countAt_30 (by decide) ?_
      exact ih x0 x1 (x2 + 1) h4 hf
    · refine g_iconst (v := 0) X dX12_countAt_33 (by decide) ?_
      refine g_istore_n (lv' := [(0, tR x0), (1, tI x1), (2, tI 0)]) X dX12_countAt_34 (by decide) (in_pick [1, 2, 0] rfl) ?_
      exact w_X12_countAt_35 X FU x0 x1 0 h hf
def f_X12_countAt  (a0 : Option Nat) (a1 : Int32) (h : AH) : Option AH :=
  (pI 12 22 h a0 0).bind fun h1 =>
  b_X12_countAt_7 FU a0 a1 0 h1
set_option maxRecDepth 20000 in
theorem m_X12_countAt  {a0 : Option Nat} {a1 : Int32} {h : AH} {w : AH} (hf : f_X12_countAt a0 a1 h = some w) : CT yX12_countAt (wU yX12_countAt cX12_countAt 7 none) (rmD 40 0 0) 0 0 [tR a0, tI a1] h (none, w) := by
  refine CT.of (cc := cX12_countAt) (nL := 7) (ret := none) (by decide) (by simp [lg_sl, vOf_cat, wOf]) ?_
  intro K X
  refine g_locs (lv' := [(0, tR a0), (1, tI a1)]) (fun q hq => hq) ?_
  unfold f_X12_countAt at hf
  refine g_aload_n X dX12_countAt_0 0 rfl ?_
  refine g_iconst (v := 0) X dX12_countAt_1 (by decide) ?_
  refine g_putI X hf (T := TX12) rfl (by decide) (by decide) in_RX12 tyX12 tyX12_ok nmX12 tb_1157 rfl rfl rfl dX12_countAt_2 (fun h1 hf => ?_)
  refine g_iconst (v := 0) X dX12_countAt_5 (by decide) ?_
  refine g_istore_n (lv' := [(0, tR a0), (1, tI a1), (2, tI 0)]) X dX12_countAt_6 (by decide) (in_pick [1, 2, 0] rfl) ?_
  exact w_X12_countAt_7 X FU a0 a1 0 h1 hf
