def b_X12_doesCome_90   (h : AH) (x0 : Option Nat) (s0 : Int32) (s1 : Int32) : Option Int32 :=
  (gR 12 0 h x0).bind fun v1 =>
  (aI h v1 9).bind fun v2 =>
  if v2 < (s0 * s1) then
    some 0
  else
    some 1
set_option maxRecDepth 20000 in
theorem w_X12_doesCome_90 {K : KT} {w : Int32} {h : AH}   (X : CX K cX12_doesCome RX12 TB (some .boolean) "doesCome" (rmD 3 0 0) 5 0 0)  (x0 : Option Nat) (s0 : Int32) (s1 : Int32) (hf : b_X12_doesCome_90 h x0 s0 s1 = some w) : GG K (some (tI w), h) 0 0 90 [(0, tR x0)] [tI s1, tI s0] h := by
  unfold b_X12_doesCome_90 at hf
  refine g_imul X dX12_doesCome_90 ?_
  refine g_aload_n X dX12_doesCome_91 0 rfl ?_
  refine g_getR X hf (T := TX12) rfl (by decide) (by decide) in_RX12 tb_1135 rfl dX12_doesCome_92 (fun v1 hf => ?_)
  refine g_bipush (v := 9) X dX12_doesCome_95 (by decide) ?_
  refine g_iaload X hf dX12_doesCome_97 (fun v2 hf => ?_)
  refine g_icmpgt (tgt := 105) X hf dX12_doesCome_98 (by decide) (fun hf => ?_) (fun hf => ?_)
  · refine g_iconst (v := 0) X dX12_doesCome_105 (by decide) ?_
    exact g_zreturn X (zP hf) (by decide) (by decide) (by decide) dX12_doesCome_106
  · refine g_iconst (v := 1) X dX12_doesCome_101 (by decide) ?_
    refine g_goto (tgt := 106) X dX12_doesCome_102 (by decide) ?_
    exact g_zreturn X (zP hf) (by decide) (by decide) (by decide) dX12_doesCome_106
def b_X12_doesCome_52   (h : AH) (x0 : Option Nat) (x1 : Int32) (x2 : Int32) (x3 : Int32) (s0 : Int32) : Option Int32 :=
  (ck 12 h x0 (f_X12_isSent x0 x1 x2 h)).bind fun v1 =>
  if v1 = 0 then
    if s0 = 0 then
      (gR 12 0 h x0).bind fun v2 =>
      (aI h v2 (31 + x3)).bind fun v3 =>
      (ck 12 h x0 (f_X12_isWet x0 x2 h)).bind fun v4 =>
      if v4 = 0 then
        b_X12_doesCome_90 h x0 v3 1
      else
        b_X12_doesCome_90 h x0 v3 2
    else
      some 0
  else
    some 0
set_option maxRecDepth 20000 in
theorem w_X12_doesCome_52 {K : KT} {w : Int32} {h : AH}   (X : CX K cX12_doesCome RX12 TB (some .boolean) "doesCome" (rmD 3 0 0) 5 0 0)  (x0 : Option Nat) (x1 : Int32) (x2 : Int32) (x3 : Int32) (s0 : Int32) (hf : b_X12_doesCome_52 h x0 x1 x2 x3 s0 = some w) : GG K (some (tI w), h) 0 0 52 [(0, tR x0), (1, tI x1), (2, tI x2), (3, tI x3)] [tI s0] h := by
  unfold b_X12_doesCome_52 at hf
  refine g_istore (lv' := [(0, tR x0), (1, tI x1), (2, tI x2), (3, tI x3), (4, tI s0)]) X dX12_doesCome_52 (by decide) (in_pick [1, 2, 3, 4, 0] rfl) ?_
  refine g_aload_n X dX12_doesCome_54 0 rfl ?_
  refine g_iload_n X dX12_doesCome_55 1 rfl ?_
  refine g_iload_n X dX12_doesCome_56 2 rfl ?_
  refine g_callV (n := 2) (av := [tI x1, tI x2]) (rest := []) (k := 12) X hf (fun v1 => (some (tI v1), h)) (fun _ q => m_X12_isSent q) (gdV tb_1318 tb_1319 tb_1695 tb_12 tb_1320) rfl (by decide +kernel) rfl (by decide) rfl (by decide) (by decide) rfl (Nat.le_of_ble_eq_true rfl) dX12_doesCome_57 (fun v1 hf => ?_)
  refine g_ifne (tgt := 105) X hf dX12_doesCome_60 (by decide) (fun hf => ?_) (fun hf => ?_)
  · refine g_iload X dX12_doesCome_63 4 rfl ?_
    refine g_ifne (tgt := 105) X hf dX12_doesCome_65 (by decide) (fun hf => ?_) (fun hf => ?_)
    · refine g_aload_n X dX12_doesCome_68 0 rfl ?_
      refine g_getR X hf (T := TX12) rfl (by decide) (by decide) in_RX12 tb_1135 rfl dX12_doesCome_69 (fun v2 hf => ?_)
      refine g_bipush (v := 31) X dX12_doesCome_72 (by decide) ?_
      refine g_iload_n X dX12_doesCome_74 3 rfl ?_
      refine g_iadd X dX12_doesCome_75 ?_
      refine g_iaload X hf dX12_doesCome_76 (fun v3 hf => ?_)
      refine g_aload_n X dX12_doesCome_77 0 rfl ?_
      refine g_iload_n X dX12_doesCome_78 2 rfl ?_
      refine g_callV (n := 1) (av := [tI x2]) (rest := [tI v3]) (k := 12) X hf (fun v4 => (some (tI v4), h)) (fun _ q => m_X12_isWet q) (gdV tb_1242 tb_1243 tb_1689 tb_12 tb_1244) rfl (by decide +kernel) rfl (by decide) rfl (by decide) (by decide) rfl (Nat.le_of_ble_eq_true rfl) dX12_doesCome_79 (fun v4 hf => ?_)
      refine g_ifeq (tgt := 89) X hf dX12_doesCome_82 (by decide) (fun hf => ?_) (fun hf => ?_)
      · refine g_iconst (v := 1) X dX12_doesCome_89 (by decide) ?_
        refine g_locs (lv' := [(0, tR x0)]) (in_pick [0] rfl) ?_
        exact w_X12_doesCome_90 X x0 v3 1 hf
      · refine g_iconst (v := 2) X dX12_doesCome_85 (by decide) ?_
        refine g_goto (tgt := 90) X dX12_doesCome_86 (by decide) ?_
        refine g_locs (lv' := [(0, tR x0)]) (in_pick [0] rfl) ?_
        exact w_X12_doesCome_90 X x0 v3 2 hf
    · refine g_iconst (v := 0) X dX12_doesCome_105 (by decide) ?_
      exact g_zreturn X (zP hf) (by decide) (by decide) (by decide) dX12_doesCome_106
  · refine g_iconst (v := 0) X dX12_doesCome_105 (by decide) ?_
    exact g_zreturn X (zP hf) (by decide) (by decide) (by decide) dX12_doesCome_106
def f_X12_doesCome  (a0 : Option Nat) (a1 : Int32) (a2 : Int32) (h : AH) : Option Int32 :=
  (gR 12 0 h a0).bind fun v1 =>
  (aI h v1 (75 + a1)).bind fun v2 =>
  (gR 12 0 h a0).bind fun v3 =>
  (aI h v3 (39 + v2)).bind fun v4 =>
  if v4 < 0 then
    b_X12_doesCome_52 h a0 a1 a2 v2 0
  else
    (gR 12 0 h a0).bind fun v5 =>
    (aI h v5 (39 + v2)).bind fun v6 =>
    (gR 12 0 h a0).bind fun v7 =>
    (aI h v7 (47 + v2)).bind fun v8 =>
    (f_X12_in a2 v6 v8 h).bind fun v9 =>
    if v9 = 0 then
      b_X12_doesCome_52 h a0 a1 a2 v2 0
    else
      b_X12_doesCome_52 h a0 a1 a2 v2 1
set_option maxRecDepth 20000 in
theorem m_X12_doesCome  {a0 : Option Nat} {a1 : Int32} {a2 : Int32} {h : AH} {w : Int32} (hf : f_X12_doesCome a0 a1 a2 h = some w) : CT yX12_doesCome (wU yX12_doesCome cX12_doesCome 5 (some .boolean)) (rmD 3 0 0) 0 0 [tR a0, tI a1, tI a2] h (some (tI w), h) := by
  refine CT.of (cc := cX12_doesCome) (nL := 5) (ret := (some .boolean)) (by decide) (by simp [lg_sl, vOf_cat, wOf]) ?_
  intro K X
  refine g_locs (lv' := [(0, tR a0), (1, tI a1), (2, tI a2)]) (fun q hq => hq) ?_
  unfold f_X12_doesCome at hf
  refine g_aload_n X dX12_doesCome_0 0 rfl ?_
  refine g_getR X hf (T := TX12) rfl (by decide) (by decide) in_RX12 tb_1135 rfl dX12_doesCome_1 (fun v1 hf => ?_)
  refine g_bipush (v := 75) X dX12_doesCome_4 (by decide) ?_
  refine g_iload_n X dX12_doesCome_6 1 rfl ?_
  refine g_iadd X dX12_doesCome_7 ?_
  refine g_iaload X hf dX12_doesCome_8 (fun v2 hf => ?_)
  refine g_istore_n (lv' := [(0, tR a0), (1, tI a1), (2, tI a2), (3, tI v2)]) X dX12_doesCome_9 (by decide) (in_pick [1, 2, 3, 0] rfl) ?_
  refine g_aload_n X dX12_doesCome_10 0 rfl ?_
  refine g_getR X hf (T := TX12) rfl (by decide) (by decide) in_RX12 tb_1135 rfl dX12_doesCome_11 (fun v3 hf => ?_)
  refine g_bipush (v := 39) X dX12_doesCome_14 (by decide) ?_
  refine g_iload_n X dX12_doesCome_16 3 rfl ?_
  refine g_iadd X dX12_doesCome_17 ?_
  refine g_iaload X hf dX12_doesCome_18 (fun v4 hf => ?_)
  refine g_iflt (tgt := 51) X hf dX12_doesCome_19 (by decide) (fun hf => ?_) (fun hf => ?_)
  · refine g_iconst (v := 0) X dX12_doesCome_51 (by decide) ?_
    exact w_X12_doesCome_52 X a0 a1 a2 v2 0 hf
  · refine g_iload_n X dX12_doesCome_22 2 rfl ?_
    refine g_aload_n X dX12_doesCome_23 0 rfl ?_
    refine g_getR X hf (T := TX12) rfl (by decide) (by decide) in_RX12 tb_1135 rfl dX12_doesCome_24 (fun v5 hf => ?_)
    refine g_bipush (v := 39) X dX12_doesCome_27 (by decide) ?_
    refine g_iload_n X dX12_doesCome_29 3 rfl ?_
    refine g_iadd X dX12_doesCome_30 ?_
    refine g_iaload X hf dX12_doesCome_31 (fun v6 hf => ?_)
    refine g_aload_n X dX12_doesCome_32 0 rfl ?_
    refine g_getR X hf (T := TX12) rfl (by decide) (by decide) in_RX12 tb_1135 rfl dX12_doesCome_33 (fun v7 hf => ?_)
    refine g_bipush (v := 47) X dX12_doesCome_36 (by decide) ?_
    refine g_iload_n X dX12_doesCome_38 3 rfl ?_
    refine g_iadd X dX12_doesCome_39 ?_
    refine g_iaload X hf dX12_doesCome_40 (fun v8 hf => ?_)
    refine g_callS (n := 3) (av := [tI a2, tI v6, tI v8]) (rest := []) X hf (fun v9 => (some (tI v9), h)) (fun _ q => m_X12_in q) (gdS tb_1226 tb_1227 tb_12 tb_1228) rfl (by decide +kernel) rfl (by decide) (by decide) rfl (Nat.le_of_ble_eq_true rfl) dX12_doesCome_41 (fun v9 hf => ?_)
    refine g_ifeq (tgt := 51) X hf dX12_doesCome_44 (by decide) (fun hf => ?_) (fun hf => ?_)
    · refine g_iconst (v := 0) X dX12_doesCome_51 (by decide) ?_
      exact w_X12_doesCome_52 X a0 a1 a2 v2 0 hf
    · refine g_iconst (v := 1) X dX12_doesCome_47 (by decide) ?_
      refine g_goto (tgt := 52) X dX12_doesCome_48 (by decide) ?_
      exact w_X12_doesCome_52 X a0 a1 a2 v2 1 hf
def f_X12_comes  (a0 : Option Nat) (a1 : Int32) (a2 : Int32) (h : AH) : Option Int32 :=
  (ck 12 h a0 (f_X12_isMan a0 a1 h)).bind fun v1 =>
  if v1 = 0 then
    some (-1)
  else
    (f_X12_isDay a2 h).bind fun v2 =>
    if v2 = 0 then
      some (-1)
    else
      (ck 12 h a0 (f_X12_doesCome a0 a1 a2 h)).bind fun v3 =>
      if v3 = 0 then
        some 0
      else
        some 1
set_option maxRecDepth 20000 in
theorem m_X12_comes  {a0 : Option Nat} {a1 : Int32} {a2 : Int32} {h : AH} {w : Int32} (hf : f_X12_comes a0 a1 a2 h = some w) : CT yX12_comes (wU yX12_comes cX12_comes 3 (some .int)) (rmD 4 0 0) 0 0 [tR a0, tI a1, tI a2] h (some (tI w), h) := by
  refine CT.of (cc := cX12_comes) (nL := 3) (ret := (some .int)) (by decide) (by simp [lg_sl, vOf_cat, wOf]) ?_
  intro K X
  refine g_locs (lv' := [(0, tR a0), (1, tI a1), (2, tI a2)]) (fun q hq => hq) ?_
  unfold f_X12_comes at hf
  refine g_aload_n X dX12_comes_0 0 rfl ?_
  refine g_iload_n X dX12_comes_1 1 rfl ?_
  refine g_callV (n := 1) (av := [tI a1]) (rest := []) (k := 12) X hf (fun v1 => (some (tI v1), h)) (fun _ q => m_X12_isMan q) (gdV tb_1267 tb_1268 tb_1691 tb_12 tb_1269) rfl (by decide +kernel) rfl (by decide) rfl (by decide) (by decide) rfl (Nat.le_of_ble_eq_true rfl) dX12_comes_2 (fun v1 hf => ?_)
  refine g_ifeq (tgt := 15) X hf dX12_comes_5 (by decide) (fun hf => ?_) (fun hf => ?_)
  · refine g_iconst (v := (-1)) X dX12_comes_15 (by decide) ?_
    exact g_ireturn X (zP hf) (by decide) (by decide) dX12_comes_16
  · refine g_iload_n X dX12_comes_8 2 rfl ?_
    refine g_callS (n := 1) (av := [tI a2]) (rest := []) X hf (fun v2 => (some (tI v2), h)) (fun _ q => m_X12_isDay q) (gdS tb_1239 tb_1240 tb_12 tb_1241) rfl (by decide +kernel) rfl (by decide) (by decide) rfl (Nat.le_of_ble_eq_true rfl) dX12_comes_9 (fun v2 hf => ?_)
    refine g_ifne (tgt := 17) X hf dX12_comes_12 (by decide) (fun hf => ?_) (fun hf => ?_)
    · refine g_iconst (v := (-1)) X dX12_comes_15 (by decide) ?_
      exact g_ireturn X (zP hf) (by decide) (by decide) dX12_comes_16
    · refine g_aload_n X dX12_comes_17 0 rfl ?_
      refine g_iload_n X dX12_comes_18 1 rfl ?_
      refine g_iload_n X dX12_comes_19 2 rfl ?_
      refine g_callV (n := 2) (av := [tI a1, tI a2]) (rest := []) (k := 12) X hf (fun v3 => (some (tI v3), h)) (fun _ q => m_X12_doesCome q) (gdV tb_1315 tb_1316 tb_1694 tb_12 tb_1317) rfl (by decide +kernel) rfl (by decide) rfl (by decide) (by decide) rfl (Nat.le_of_ble_eq_true rfl) dX12_comes_20 (fun v3 hf => ?_)
      refine g_ifeq (tgt := 30) X hf dX12_comes_23 (by decide) (fun hf => ?_) (fun hf => ?_)
      · refine g_iconst (v := 0) X dX12_comes_30 (by decide) ?_
        exact g_ireturn X (zP hf) (by decide) (by decide) dX12_comes_31
      · refine g_iconst (v := 1) X dX12_comes_26 (by decide) ?_
        refine g_goto (tgt := 31) X dX12_comes_27 (by decide) ?_
        exact g_ireturn X (zP hf) (by decide) (by decide) dX12_comes_31
def b_X12_castOf_175  (k75 : Option Nat → Int32 → Int32 → Int32 → Int32 → Int32 → Int32 → Int32 → Int32 → Option Int32) (h : AH) (x0 : Option Nat) (x1 : Int32) (x2 : Int32) (x3 : Int32) (x4 : Int32) (x5 : Int32) (x6 : Int32) (x8 : Int32) (x9 : Int32) (s0 : Int32) : Option Int32 :=
  if x6 < x9 then
    k75 x0 x1 x2 x3 x4 x5 x9 s0 (x8 + 1)
  else
    k75 x0 x1 x2 x3 x4 x5 x6 s0 (x8 + 1)
set_option maxRecDepth 20000 in
theorem w_X12_castOf_175 {K : KT} {w : Int32} {h : AH} {k75 : Option Nat → Int32 → Int32 → Int32 → Int32 → Int32 → Int32 → Int32 → Int32 → Option Int32}  (X : CX K cX12_castOf RX12 TB (some .int) "castOf" (rmD 3 0 0) 10 0 0) (hk75 : ∀ (x0 : Option Nat) (x1 : Int32) (x2 : Int32) (x3 : Int32) (x4 : Int32) (x5 : Int32) (x6 : Int32) (x7 : Int32) (x8 : Int32), k75 x0 x1 x2 x3 x4 x5 x6 x7 x8 = some w → GG K (some (tI w), h) 0 0 75 [(0, tR x0), (1, tI x1), (2, tI x2), (3, tI x3), (4, tI x4), (5, tI x5), (6, tI x6), (7, tI x7), (8, tI x8)] [] h) (x0 : Option Nat) (x1 : Int32) (x2 : Int32) (x3 : Int32) (x4 : Int32) (x5 : Int32) (x6 : Int32) (x8 : Int32) (x9 : Int32) (s0 : Int32) (hf : b_X12_castOf_175 k75 h x0 x1 x2 x3 x4 x5 x6 x8 x9 s0 = some w) : GG K (some (tI w), h) 0 0 175 [(0, tR x0), (1, tI x1), (2, tI x2), (3, tI x3), (4, tI x4), (5, tI x5), (6, tI x6), (8, tI x8), (9, tI x9)] [tI s0] h := by
  unfold b_X12_castOf_175 at hf
  refine g_istore (lv' := [(0, tR x0), (1, tI x1), (2, tI x2), (3, tI x3), (4, tI x4), (5, tI x5), (6, tI x6), (7, tI s0), (8, tI x8), (9, tI x9)]) X dX12_castOf_175 (by decide) (in_pick [1, 2, 3, 4, 5, 6, 7, 0, 8, 9] rfl) ?_
  refine g_iload X dX12_castOf_177 9 rfl ?_
  refine g_iload X dX12_castOf_179 6 rfl ?_
  refine g_icmple (tgt := 189) X hf dX12_castOf_181 (by decide) (fun hf => ?_) (fun hf => ?_)
  · refine g_iload X dX12_castOf_184 9 rfl ?_
    refine g_goto (tgt := 191) X dX12_castOf_186 (by decide) ?_
    refine g_istore (lv' := [(0, tR x0), (1, tI x1), (2, tI x2), (3, tI x3), (4, tI x4), (5, tI x5), (6, tI x9), (7, tI s0), (8, tI x8), (9, tI x9)]) X dX12_castOf_191 (by decide) (in_pick [1, 2, 3, 4, 5, 6, 0, 7, 8, 9] rfl) ?_
    refine g_iinc (v := (x8 + 1)) (lv' := [(0, tR x0), (1, tI x1), (2, tI x2), (3, tI x3), (4, tI x4), (5, tI x5), (6, tI x9), (7, tI s0), (8, tI (x8 + 1)), (9, tI x9)]) X dX12_castOf_193 8 rfl (by rfl) (by decide) (in_pick [1, 2, 3, 4, 5, 6, 7, 8, 0, 9] rfl) ?_
    refine g_goto (tgt := 75) X dX12_castOf_196 (by decide) ?_
    refine g_locs (lv' := [(0, tR x0), (1, tI x1), (2, tI x2), (3, tI x3), (4, tI x4), (5, tI x5), (6, tI x9), (7, tI s0), (8, tI (x8 + 1))]) (in_pick [0, 1, 2, 3, 4, 5, 6, 7, 8] rfl) ?_
    exact hk75 x0 x1 x2 x3 x4 x5 x9 s0 (x8 + 1) hf
  · refine g_iload X dX12_castOf_189 6 rfl ?_
    refine g_istore (lv' := [(0, tR x0), (1, tI x1), (2, tI x2), (3, tI x3), (4, tI x4), (5, tI x5), (6, tI x6), (7, tI s0), (8, tI x8), (9, tI x9)]) X dX12_castOf_191 (by decide) (in_pick [1, 2, 3, 4, 5, 6, 0, 7, 8, 9] rfl) ?_
    refine g_iinc (v := (x8 + 1)) (lv' := [(0, tR x0), (1, tI x1), (2, tI x2), (3, tI x3), (4, tI x4), (5, tI x5), (6, tI x6), (7, tI s0), (8, tI (x8 + 1)), (9, tI x9)]) X dX12_castOf_193 8 rfl (by rfl) (by decide) (in_pick [1, 2, 3, 4, 5, 6, 7, 8, 0, 9] rfl) ?_
    refine g_goto (tgt := 75) X dX12_castOf_196 (by decide) ?_
    refine g_locs (lv' := [(0, tR x0), (1, tI x1), (2, tI x2), (3, tI x3), (4, tI x4), (5, tI x5), (6, tI x6), (7, tI s0), (8, tI (x8 + 1))]) (in_pick [0, 1, 2, 3, 4, 5, 6, 7, 8] rfl) ?_
    exact hk75 x0 x1 x2 x3 x4 x5 x6 s0 (x8 + 1) hf
def b_X12_castOf_158  (k75 : Option Nat → Int32 → Int32 → Int32 → Int32 → Int32 → Int32 → Int32 → Int32 → Option Int32) (h : AH) (x0 : Option Nat) (x1 : Int32) (x2 : Int32) (x3 : Int32) (x4 : Int32) (x6 : Int32) (x7 : Int32) (x8 : Int32) (x9 : Int32) (s0 : Int32) (s1 : Int32) : Option Int32 :=
  if x6 < x9 then
    b_X12_castOf_175 k75 h x0 x1 x2 x3 x4 (s0 &&& s1) x6 x8 x9 x8
  else
    b_X12_castOf_175 k75 h x0 x1 x2 x3 x4 (s0 &&& s1) x6 x8 x9 x7
set_option maxRecDepth 20000 in
theorem w_X12_castOf_158 {K : KT} {w : Int32} {h : AH} {k75 : Option Nat → Int32 → Int32 → Int32 → Int32 → Int32 → Int32 → Int32 → Int32 → Option Int32}  (X : CX K cX12_castOf RX12 TB (some .int) "castOf" (rmD 3 0 0) 10 0 0) (hk75 : ∀ (x0 : Option Nat) (x1 : Int32) (x2 : Int32) (x3 : Int32) (x4 : Int32) (x5 : Int32) (x6 : Int32) (x7 : Int32) (x8 : Int32), k75 x0 x1 x2 x3 x4 x5 x6 x7 x8 = some w → GG K (some (tI w), h) 0 0 75 [(0, tR x0), (1, tI x1), (2, tI x2), (3, tI x3), (4, tI x4), (5, tI x5), (6, tI x6), (7, tI x7), (8, tI x8)] [] h) (x0 : Option Nat) (x1 : Int32) (x2 : Int32) (x3 : Int32) (x4 : Int32) (x6 : Int32) (x7 : Int32) (x8 : Int32) (x9 : Int32) (s0 : Int32) (s1 : Int32) (hf : b_X12_castOf_158 k75 h x0 x1 x2 x3 x4 x6 x7 x8 x9 s0 s1 = some w) : GG K (some (tI w), h) 0 0 158 [(0, tR x0), (1, tI x1), (2, tI x2), (3, tI x3), (4, tI x4), (6, tI x6), (7, tI x7), (8, tI x8), (9, tI x9)] [tI s1, tI s0] h := by
  unfold b_X12_castOf_158 at hf
  refine g_iand X dX12_castOf_158 ?_
  refine g_istore (lv' := [(0, tR x0), (1, tI x1), (2, tI x2), (3, tI x3), (4, tI x4), (5, tI (s0 &&& s1)), (6, tI x6), (7, tI x7), (8, tI x8), (9, tI x9)]) X dX12_castOf_159 (by decide) (in_pick [1, 2, 3, 4, 5, 0, 6, 7, 8, 9] rfl) ?_
  refine g_iload X dX12_castOf_161 9 rfl ?_
  refine g_iload X dX12_castOf_163 6 rfl ?_
  refine g_icmple (tgt := 173) X hf dX12_castOf_165 (by decide) (fun hf => ?_) (fun hf => ?_)
  · refine g_iload X dX12_castOf_168 8 rfl ?_
    refine g_goto (tgt := 175) X dX12_castOf_170 (by decide) ?_
    refine g_locs (lv' := [(0, tR x0), (1, tI x1), (2, tI x2), (3, tI x3), (4, tI x4), (5, tI (s0 &&& s1)), (6, tI x6), (8, tI x8), (9, tI x9)]) (in_pick [0, 1, 2, 3, 4, 5, 6, 8, 9] rfl) ?_
    exact w_X12_castOf_175 X hk75 x0 x1 x2 x3 x4 (s0 &&& s1) x6 x8 x9 x8 hf
  · refine g_iload X dX12_castOf_173 7 rfl ?_
    refine g_locs (lv' := [(0, tR x0), (1, tI x1), (2, tI x2), (3, tI x3), (4, tI x4), (5, tI (s0 &&& s1)), (6, tI x6), (8, tI x8), (9, tI x9)]) (in_pick [0, 1, 2, 3, 4, 5, 6, 8, 9] rfl) ?_
    exact w_X12_castOf_175 X hk75 x0 x1 x2 x3 x4 (s0 &&& s1) x6 x8 x9 x7 hf
def b_X12_castOf_75   (h : AH) : Nat → Option Nat → Int32 → Int32 → Int32 → Int32 → Int32 → Int32 → Int32 → Int32 → Option Int32
  | 0 => fun _ _ _ _ _ _ _ _ _ => none
  | n + 1 => fun x0 x1 x2 x3 x4 x5 x6 x7 x8 =>
    (gR 12 0 h x0).bind fun v1 =>
    (aI h v1 2).bind fun v2 =>
    if x8 < v2 then
      if x8 = x1 then
        b_X12_castOf_75 h n x0 x1 x2 x3 x4 x5 x6 x7 (x8 + 1)
      else
        if x8 = x3 then
          b_X12_castOf_75 h n x0 x1 x2 x3 x4 x5 x6 x7 (x8 + 1)
        else
          (ck 12 h x0 (f_X12_isSent x0 x8 x2 h)).bind fun v3 =>
          if v3 = 0 then
            (ck 12 h x0 (f_X12_dreadOf x0 x1 x8 x2 h)).bind fun v4 =>
            if x8 = x4 then
              b_X12_castOf_158 (b_X12_castOf_75 h n) h x0 x1 x2 x3 x4 x6 x7 x8 v4 x5 1
            else
              if x4 < 0 then
                b_X12_castOf_158 (b_X12_castOf_75 h n) h x0 x1 x2 x3 x4 x6 x7 x8 v4 x5 1
              else
                (ck 12 h x0 (f_X12_dreadOf x0 x1 x4 x2 h)).bind fun v5 =>
                (gR 12 0 h x0).bind fun v6 =>
                (aI h v6 10).bind fun v7 =>
                if v4 < (v5 + v7) then
                  b_X12_castOf_158 (b_X12_castOf_75 h n) h x0 x1 x2 x3 x4 x6 x7 x8 v4 x5 1
                else
                  b_X12_castOf_158 (b_X12_castOf_75 h n) h x0 x1 x2 x3 x4 x6 x7 x8 v4 x5 0
          else
            b_X12_castOf_75 h n x0 x1 x2 x3 x4 x5 x6 x7 (x8 + 1)
    else
      if x5 = 0 then
        (gR 12 0 h x0).bind fun v8 =>
        (aI h v8 11).bind fun v9 =>
        if x6 < v9 then
          some (-1)
        else
          some x7
      else
        some x4
set_option maxRecDepth 20000 in
theorem w_X12_castOf_75 {K : KT} {w : Int32} {h : AH}   (X : CX K cX12_castOf RX12 TB (some .int) "castOf" (rmD 3 0 0) 10 0 0)  : ∀ (n : Nat) (x0 : Option Nat) (x1 : Int32) (x2 : Int32) (x3 : Int32) (x4 : Int32) (x5 : Int32) (x6 : Int32) (x7 : Int32) (x8 : Int32), b_X12_castOf_75 h n x0 x1 x2 x3 x4 x5 x6 x7 x8 = some w → GG K (some (tI w), h) 0 0 75 [(0, tR x0), (1, tI x1), (2, tI x2), (3, tI x3), (4, tI x4), (5, tI x5), (6, tI x6), (7, tI x7), (8, tI x8)] [] h := by
  intro n
  induction n with
  | zero =>
    intro x0 x1 x2 x3 x4 x5 x6 x7 x8 hf
    cases (show none = some w from hf)
  | succ n ih =>
    intro x0 x1 x2 x3 x4 x5 x6 x7 x8 hf
    rw [b_X12_castOf_75] at hf
    refine g_iload X dX12_castOf_75 8 rfl ?_
    refine g_aload_n X dX12_castOf_77 0 rfl ?_
    refine g_getR X hf (T := TX12) rfl (by decide) (by decide) in_RX12 tb_1135 rfl dX12_castOf_78 (fun v1 hf => ?_)
    refine g_iconst (v := 2) X dX12_castOf_81 (by decide) ?_
    refine g_iaload X hf dX12_castOf_82 (fun v2 hf => ?_)
    refine g_icmpge (tgt := 199) X hf dX12_castOf_83 (by decide) (fun hf => ?_) (fun hf => ?_)
    · refine g_iload X dX12_castOf_86 8 rfl ?_
      refine g_iload_n X dX12_castOf_88 1 rfl ?_
      refine g_icmpeq (tgt := 193) X hf dX12_castOf_89 (by decide) (fun hf => ?_) (fun hf => ?_)
      · refine g_iinc (v := (x8 + 1)) (lv' := [(0, tR x0), (1, tI x1), (2, tI x2), (3, tI x3), (4, tI x4), (5, tI x5), (6, tI x6), (7, tI x7), (8, tI (x8 + 1))]) X dX12_castOf_193 8 rfl (by rfl) (by decide) (in_pick [1, 2, 3, 4, 5, 6, 7, 8, 0] rfl) ?_
        refine g_goto (tgt := 75) X dX12_castOf_196 (by decide) ?_
        exact ih x0 x1 x2 x3 x4 x5 x6 x7 (x8 + 1) hf
      · refine g_iload X dX12_castOf_92 8 rfl ?_
        refine g_iload_n X dX12_castOf_94 3 rfl ?_
        refine g_icmpeq (tgt := 193) X hf dX12_castOf_95 (by decide) (fun hf => ?_) (fun hf => ?_)
        · refine g_iinc (v := (x8 + 1)) (lv' := [(0, tR x0), (1, tI x1), (2, tI x2), (3, tI x3), (4, tI x4), (5, tI x5), (6, tI x6), (7, tI x7), (8, tI (x8 + 1))]) X dX12_castOf_193 8 rfl (by rfl) (by decide) (in_pick [1, 2, 3, 4, 5, 6, 7, 8, 0] rfl) ?_
          refine g_goto (tgt := 75) X dX12_castOf_196 (by decide) ?_
          exact ih x0 x1 x2 x3 x4 x5 x6 x7 (x8 + 1) hf
        · refine g_aload_n X dX12_castOf_98 0 rfl ?_
          refine g_iload X dX12_castOf_99 8 rfl ?_
          refine g_iload_n X dX12_castOf_101 2 rfl ?_
          refine g_callV (n := 2) (av := [tI x8, tI x2]) (rest := []) (k := 12) X hf (fun v3 => (some (tI v3), h)) (fun _ q => m_X12_isSent q) (gdV tb_1318 tb_1319 tb_1695 tb_12 tb_1320) rfl (by decide +kernel) rfl (by decide) rfl (by decide) (by decide) rfl (Nat.le_of_ble_eq_true rfl) dX12_castOf_102 (fun v3 hf => ?_)
          refine g_ifne (tgt := 193) X hf dX12_castOf_105 (by decide) (fun hf => ?_) (fun hf => ?_)
          · refine g_aload_n X dX12_castOf_108 0 rfl ?_
            refine g_iload_n X dX12_castOf_109 1 rfl ?_
            refine g_iload X dX12_castOf_110 8 rfl ?_
            refine g_iload_n X dX12_castOf_112 2 rfl ?_
            refine g_callV (n := 3) (av := [tI x1, tI x8, tI x2]) (rest := []) (k := 12) X hf (fun v4 => (some (tI v4), h)) (fun _ q => m_X12_dreadOf q) (gdV tb_1286 tb_1287 tb_1692 tb_12 tb_1288) rfl (by decide +kernel) rfl (by decide) rfl (by decide) (by decide) rfl (Nat.le_of_ble_eq_true rfl) dX12_castOf_113 (fun v4 hf => ?_)
            refine g_istore (lv' := [(0, tR x0), (1, tI x1), (2, tI x2), (3, tI x3), (4, tI x4), (5, tI x5), (6, tI x6), (7, tI x7), (8, tI x8), (9, tI v4)]) X dX12_castOf_116 (by decide) (in_pick [1, 2, 3, 4, 5, 6, 7, 8, 9, 0] rfl) ?_
            refine g_iload X dX12_castOf_118 5 rfl ?_
            refine g_iload X dX12_castOf_120 8 rfl ?_
            refine g_iload X dX12_castOf_122 4 rfl ?_
            refine g_icmpeq (tgt := 153) X hf dX12_castOf_124 (by decide) (fun hf => ?_) (fun hf => ?_)
            · refine g_iconst (v := 1) X dX12_castOf_153 (by decide) ?_
              refine g_goto (tgt := 158) X dX12_castOf_154 (by decide) ?_
              refine g_locs (lv' := [(0, tR x0), (1, tI x1), (2, tI x2), (3, tI x3), (4, tI x4), (6, tI x6), (7, tI x7), (8, tI x8), (9, tI v4)]) (in_pick [0, 1, 2, 3, 4, 6, 7, 8, 9] rfl) ?_
              exact w_X12_castOf_158 X ih x0 x1 x2 x3 x4 x6 x7 x8 v4 x5 1 hf
            · refine g_iload X dX12_castOf_127 4 rfl ?_
              refine g_iflt (tgt := 153) X hf dX12_castOf_129 (by decide) (fun hf => ?_) (fun hf => ?_)
              · refine g_iconst (v := 1) X dX12_castOf_153 (by decide) ?_
                refine g_goto (tgt := 158) X dX12_castOf_154 (by decide) ?_
                refine g_locs (lv' := [(0, tR x0), (1, tI x1), (2, tI x2), (3, tI x3), (4, tI x4), (6, tI x6), (7, tI x7), (8, tI x8), (9, tI v4)]) (in_pick [0, 1, 2, 3, 4, 6, 7, 8, 9] rfl) ?_
                exact w_X12_castOf_158 X ih x0 x1 x2 x3 x4 x6 x7 x8 v4 x5 1 hf
              · refine g_iload X dX12_castOf_132 9 rfl ?_
                refine g_aload_n X dX12_castOf_134 0 rfl ?_
                refine g_iload_n X dX12_castOf_135 1 rfl ?_
                refine g_iload X dX12_castOf_136 4 rfl ?_
                refine g_iload_n X dX12_castOf_138 2 rfl ?_
                refine g_callV (n := 3) (av := [tI x1, tI x4, tI x2]) (rest := [tI v4, tI x5]) (k := 12) X hf (fun v5 => (some (tI v5), h)) (fun _ q => m_X12_dreadOf q) (gdV tb_1286 tb_1287 tb_1692 tb_12 tb_1288) rfl (by decide +kernel) rfl (by decide) rfl (by decide) (by decide) rfl (Nat.le_of_ble_eq_true rfl) dX12_castOf_139 (fun v5 hf => ?_)
                refine g_aload_n X dX12_castOf_142 0 rfl ?_
                refine g_getR X hf (T := TX12) rfl (by decide) (by decide) in_RX12 tb_1135 rfl dX12_castOf_143 (fun v6 hf => ?_)
                refine g_bipush (v := 10) X dX12_castOf_146 (by decide) ?_
                refine g_iaload X hf dX12_castOf_148 (fun v7 hf => ?_)
                refine g_iadd X dX12_castOf_149 ?_
                refine g_icmpge (tgt := 157) X hf dX12_castOf_150 (by decide) (fun hf => ?_) (fun hf => ?_)
                · refine g_iconst (v := 1) X dX12_castOf_153 (by decide) ?_
                  refine g_goto (tgt := 158) X dX12_castOf_154 (by decide) ?_
                  refine g_locs (lv' := [(0, tR x0), (1, tI x1), (2, tI x2), (3, tI x3), (4, tI x4), (6, tI x6), (7, tI x7), (8, tI x8), (9, tI v4)]) (in_pick [0, 1, 2, 3, 4, 6, 7, 8, 9] rfl) ?_
                  exact w_X12_castOf_158 X ih x0 x1 x2 x3 x4 x6 x7 x8 v4 x5 1 hf
                · refine g_iconst (v := 0) X dX12_castOf_157 (by decide) ?_
                  refine g_locs (lv' := [(0, tR x0), (1, tI x1), (2, tI x2), (3, tI x3), (4, tI x4), (6, tI x6), (7, tI x7), (8, tI x8), (9, tI v4)]) (in_pick [0, 1, 2, 3, 4, 6, 7, 8, 9] rfl) ?_
                  exact w_X12_castOf_158 X ih x0 x1 x2 x3 x4 x6 x7 x8 v4 x5 0 hf
          · refine g_iinc (v := (x8 + 1)) (lv' := [(0, tR x0), (1, tI x1), (2, tI x2), (3, tI x3), (4, tI x4), (5, tI x5), (6, tI x6), (7, tI x7), (8, tI (x8 + 1))]) X dX12_castOf_193 8 rfl (by rfl) (by decide) (in_pick [1, 2, 3, 4, 5, 6, 7, 8, 0] rfl) ?_
            refine g_goto (tgt := 75) X dX12_castOf_196 (by decide) ?_
            exact ih x0 x1 x2 x3 x4 x5 x6 x7 (x8 + 1) hf
    · refine g_iload X dX12_castOf_199 5 rfl ?_
      refine g_ifeq (tgt := 209) X hf dX12_castOf_201 (by decide) (fun hf => ?_) (fun hf => ?_)
      · refine g_iload X dX12_castOf_209 6 rfl ?_
        refine g_aload_n X dX12_castOf_211 0 rfl ?_
        refine g_getR X hf (T := TX12) rfl (by decide) (by decide) in_RX12 tb_1135 rfl dX12_castOf_212 (fun v8 hf => ?_)
        refine g_bipush (v := 11) X dX12_castOf_215 (by decide) ?_
        refine g_iaload X hf dX12_castOf_217 (fun v9 hf => ?_)
        refine g_icmplt (tgt := 226) X hf dX12_castOf_218 (by decide) (fun hf => ?_) (fun hf => ?_)
        · refine g_iconst (v := (-1)) X dX12_castOf_226 (by decide) ?_
          exact g_ireturn X (zP hf) (by decide) (by decide) dX12_castOf_227
        · refine g_iload X dX12_castOf_221 7 rfl ?_
          refine g_goto (tgt := 227) X dX12_castOf_223 (by decide) ?_
          exact g_ireturn X (zP hf) (by decide) (by decide) dX12_castOf_227
      · refine g_iload X dX12_castOf_204 4 rfl ?_
        refine g_goto (tgt := 227) X dX12_castOf_206 (by decide) ?_
        exact g_ireturn X (zP hf) (by decide) (by decide) dX12_castOf_227
def b_X12_castOf_64   (h : AH) (x0 : Option Nat) (x1 : Int32) (x2 : Int32) (x3 : Int32) (x4 : Int32) (s0 : Int32) : Option Int32 :=
  b_X12_castOf_75 h FU x0 x1 x2 x3 x4 s0 (-1) (-1) 0
set_option maxRecDepth 20000 in
theorem w_X12_castOf_64 {K : KT} {w : Int32} {h : AH}   (X : CX K cX12_castOf RX12 TB (some .int) "castOf" (rmD 3 0 0) 10 0 0)  (x0 : Option Nat) (x1 : Int32) (x2 : Int32) (x3 : Int32) (x4 : Int32) (s0 : Int32) (hf : b_X12_castOf_64 h x0 x1 x2 x3 x4 s0 = some w) : GG K (some (tI w), h) 0 0 64 [(0, tR x0), (1, tI x1), (2, tI x2), (3, tI x3), (4, tI x4)] [tI s0] h := by
  unfold b_X12_castOf_64 at hf
  refine g_istore (lv' := [(0, tR x0), (1, tI x1), (2, tI x2), (3, tI x3), (4, tI x4), (5, tI s0)]) X dX12_castOf_64 (by decide) (in_pick [1, 2, 3, 4, 5, 0] rfl) ?_
  refine g_iconst (v := (-1)) X dX12_castOf_66 (by decide) ?_
  refine g_istore (lv' := [(0, tR x0), (1, tI x1), (2, tI x2), (3, tI x3), (4, tI x4), (5, tI s0), (6, tI (-1))]) X dX12_castOf_67 (by decide) (in_pick [1, 2, 3, 4, 5, 6, 0] rfl) ?_
  refine g_iconst (v := (-1)) X dX12_castOf_69 (by decide) ?_
  refine g_istore (lv' := [(0, tR x0), (1, tI x1), (2, tI x2), (3, tI x3), (4, tI x4), (5, tI s0), (6, tI (-1)), (7, tI (-1))]) X dX12_castOf_70 (by decide) (in_pick [1, 2, 3, 4, 5, 6, 7, 0] rfl) ?_
  refine g_iconst (v := 0) X dX12_castOf_72 (by decide) ?_
  refine g_istore (lv' := [(0, tR x0), (1, tI x1), (2, tI x2), (3, tI x3), (4, tI x4), (5, tI s0), (6, tI (-1)), (7, tI (-1)), (8, tI 0)]) X dX12_castOf_73 (by decide) (in_pick [1, 2, 3, 4, 5, 6, 7, 8, 0] rfl) ?_
  exact w_X12_castOf_75 X FU x0 x1 x2 x3 x4 s0 (-1) (-1) 0 hf
def b_X12_castOf_30   (h : AH) (x0 : Option Nat) (x1 : Int32) (x2 : Int32) (x3 : Int32) (s0 : Int32) : Option Int32 :=
  if s0 < 0 then
    b_X12_castOf_64 h x0 x1 x2 x3 s0 0
  else
    if s0 = x1 then
      b_X12_castOf_64 h x0 x1 x2 x3 s0 0
    else
      if s0 = x3 then
        b_X12_castOf_64 h x0 x1 x2 x3 s0 0
      else
        (ck 12 h x0 (f_X12_isSent x0 s0 x2 h)).bind fun v1 =>
        if v1 = 0 then
          b_X12_castOf_64 h x0 x1 x2 x3 s0 1
        else
          b_X12_castOf_64 h x0 x1 x2 x3 s0 0
set_option maxRecDepth 20000 in
theorem w_X12_castOf_30 {K : KT} {w : Int32} {h : AH}   (X : CX K cX12_castOf RX12 TB (some .int) "castOf" (rmD 3 0 0) 10 0 0)  (x0 : Option Nat) (x1 : Int32) (x2 : Int32) (x3 : Int32) (s0 : Int32) (hf : b_X12_castOf_30 h x0 x1 x2 x3 s0 = some w) : GG K (some (tI w), h) 0 0 30 [(0, tR x0), (1, tI x1), (2, tI x2), (3, tI x3)] [tI s0] h := by
  unfold b_X12_castOf_30 at hf
  refine g_istore (lv' := [(0, tR x0), (1, tI x1), (2, tI x2), (3, tI x3), (4, tI s0)]) X dX12_castOf_30 (by decide) (in_pick [1, 2, 3, 4, 0] rfl) ?_
  refine g_iload X dX12_castOf_32 4 rfl ?_
  refine g_iflt (tgt := 63) X hf dX12_castOf_34 (by decide) (fun hf => ?_) (fun hf => ?_)
  · refine g_iconst (v := 0) X dX12_castOf_63 (by decide) ?_
    exact w_X12_castOf_64 X x0 x1 x2 x3 s0 0 hf
  · refine g_iload X dX12_castOf_37 4 rfl ?_
    refine g_iload_n X dX12_castOf_39 1 rfl ?_
    refine g_icmpeq (tgt := 63) X hf dX12_castOf_40 (by decide) (fun hf => ?_) (fun hf => ?_)
    · refine g_iconst (v := 0) X dX12_castOf_63 (by decide) ?_
      exact w_X12_castOf_64 X x0 x1 x2 x3 s0 0 hf
    · refine g_iload X dX12_castOf_43 4 rfl ?_
      refine g_iload_n X dX12_castOf_45 3 rfl ?_
      refine g_icmpeq (tgt := 63) X hf dX12_castOf_46 (by decide) (fun hf => ?_) (fun hf => ?_)
      · refine g_iconst (v := 0) X dX12_castOf_63 (by decide) ?_
        exact w_X12_castOf_64 X x0 x1 x2 x3 s0 0 hf
      · refine g_aload_n X dX12_castOf_49 0 rfl ?_
        refine g_iload X dX12_castOf_50 4 rfl ?_
        refine g_iload_n X dX12_castOf_52 2 rfl ?_
        refine g_callV (n := 2) (av := [tI s0, tI x2]) (rest := []) (k := 12) X hf (fun v1 => (some (tI v1), h)) (fun _ q => m_X12_isSent q) (gdV tb_1318 tb_1319 tb_1695 tb_12 tb_1320) rfl (by decide +kernel) rfl (by decide) rfl (by decide) (by decide) rfl (Nat.le_of_ble_eq_true rfl) dX12_castOf_53 (fun v1 hf => ?_)
        refine g_ifne (tgt := 63) X hf dX12_castOf_56 (by decide) (fun hf => ?_) (fun hf => ?_)
        · refine g_iconst (v := 1) X dX12_castOf_59 (by decide) ?_
          refine g_goto (tgt := 64) X dX12_castOf_60 (by decide) ?_
          exact w_X12_castOf_64 X x0 x1 x2 x3 s0 1 hf
        · refine g_iconst (v := 0) X dX12_castOf_63 (by decide) ?_
          exact w_X12_castOf_64 X x0 x1 x2 x3 s0 0 hf
def f_X12_castOf  (a0 : Option Nat) (a1 : Int32) (a2 : Int32) (a3 : Int32) (h : AH) : Option Int32 :=
  (gR 12 0 h a0).bind fun v1 =>
  (aI h v1 (91 + a1)).bind fun v2 =>
  if v2 < 0 then
    b_X12_castOf_30 h a0 a1 a2 a3 (-1)
  else
    (gR 12 0 h a0).bind fun v3 =>
    (aI h v3 (91 + a1)).bind fun v4 =>
    (ck 12 h a0 (f_X12_boundTo a0 v4 a2 h)).bind fun v5 =>
    b_X12_castOf_30 h a0 a1 a2 a3 v5
set_option maxRecDepth 20000 in
theorem m_X12_castOf  {a0 : Option Nat} {a1 : Int32} {a2 : Int32} {a3 : Int32} {h : AH} {w : Int32} (hf : f_X12_castOf a0 a1 a2 a3 h = some w) : CT yX12_castOf (wU yX12_castOf cX12_castOf 10 (some .int)) (rmD 3 0 0) 0 0 [tR a0, tI a1, tI a2, tI a3] h (some (tI w), h) := by
  refine CT.of (cc := cX12_castOf) (nL := 10) (ret := (some .int)) (by decide) (by simp [lg_sl, vOf_cat, wOf]) ?_
  intro K X
  refine g_locs (lv' := [(0, tR a0), (1, tI a1), (2, tI a2), (3, tI a3)]) (fun q hq => hq) ?_
  unfold f_X12_castOf at hf
  refine g_aload_n X dX12_castOf_0 0 rfl ?_
  refine g_getR X hf (T := TX12) rfl (by decide) (by decide) in_RX12 tb_1135 rfl dX12_castOf_1 (fun v1 hf => ?_)
  refine g_bipush (v := 91) X dX12_castOf_4 (by decide) ?_
  refine g_iload_n X dX12_castOf_6 1 rfl ?_
  refine g_iadd X dX12_castOf_7 ?_
  refine g_iaload X hf dX12_castOf_8 (fun v2 hf => ?_)
  refine g_ifge (tgt := 16) X hf dX12_castOf_9 (by decide) (fun hf => ?_) (fun hf => ?_)
  · refine g_iconst (v := (-1)) X dX12_castOf_12 (by decide) ?_
    refine g_goto (tgt := 30) X dX12_castOf_13 (by decide) ?_
    exact w_X12_castOf_30 X a0 a1 a2 a3 (-1) hf
  · refine g_aload_n X dX12_castOf_16 0 rfl ?_
    refine g_aload_n X dX12_castOf_17 0 rfl ?_
    refine g_getR X hf (T := TX12) rfl (by decide) (by decide) in_RX12 tb_1135 rfl dX12_castOf_18 (fun v3 hf => ?_)
    refine g_bipush (v := 91) X dX12_castOf_21 (by decide) ?_
    refine g_iload_n X dX12_castOf_23 1 rfl ?_
    refine g_iadd X dX12_castOf_24 ?_
    refine g_iaload X hf dX12_castOf_25 (fun v4 hf => ?_)
    refine g_iload_n X dX12_castOf_26 2 rfl ?_
    refine g_callV (n := 2) (av := [tI v4, tI a2]) (rest := []) (k := 12) X hf (fun v5 => (some (tI v5), h)) (fun _ q => m_X12_boundTo q) (gdV tb_1308 tb_1309 tb_1693 tb_12 tb_1310) rfl (by decide +kernel) rfl (by decide) rfl (by decide) (by decide) rfl (Nat.le_of_ble_eq_true rfl) dX12_castOf_27 (fun v5 hf => ?_)
    exact w_X12_castOf_30 X a0 a1 a2 a3 v5 hf
def f_X12_cast  (a0 : Option Nat) (a1 : Int32) (a2 : Int32) (h : AH) : Option Int32 :=
  (ck 12 h a0 (f_X12_isMan a0 a1 h)).bind fun v1 =>
  if v1 = 0 then
    some (-1)
  else
    (f_X12_isDay a2 h).bind fun v2 =>
    if v2 = 0 then
      some (-1)
    else
      (ck 12 h a0 (f_X12_doesCome a0 a1 a2 h)).bind fun v3 =>
      if v3 = 0 then
        some (-4)
      else
        (ck 12 h a0 (f_X12_castOf a0 a1 a2 (-1) h)).bind fun v4 =>
        if v4 < 0 then
          some (-3)
        else
          some v4
set_option maxRecDepth 20000 in
theorem m_X12_cast  {a0 : Option Nat} {a1 : Int32} {a2 : Int32} {h : AH} {w : Int32} (hf : f_X12_cast a0 a1 a2 h = some w) : CT yX12_cast (wU yX12_cast cX12_cast 4 (some .int)) (rmD 4 0 0) 0 0 [tR a0, tI a1, tI a2] h (some (tI w), h) := by
  refine CT.of (cc := cX12_cast) (nL := 4) (ret := (some .int)) (by decide) (by simp [lg_sl, vOf_cat, wOf]) ?_
  intro K X
  refine g_locs (lv' := [(0, tR a0), (1, tI a1), (2, tI a2)]) (fun q hq => hq) ?_
  unfold f_X12_cast at hf
  refine g_aload_n X dX12_cast_0 0 rfl ?_
  refine g_iload_n X dX12_cast_1 1 rfl ?_
  refine g_callV (n := 1) (av := [tI a1]) (rest := []) (k := 12) X hf (fun v1 => (some (tI v1), h)) (fun _ q => m_X12_isMan q) (gdV tb_1267 tb_1268 tb_1691 tb_12 tb_1269) rfl (by decide +kernel) rfl (by decide) rfl (by decide) (by decide) rfl (Nat.le_of_ble_eq_true rfl) dX12_cast_2 (fun v1 hf => ?_)
  refine g_ifeq (tgt := 15) X hf dX12_cast_5 (by decide) (fun hf => ?_) (fun hf => ?_)
  · refine g_iconst (v := (-1)) X dX12_cast_15 (by decide) ?_
    exact g_ireturn X (zP hf) (by decide) (by decide) dX12_cast_16
  · refine g_iload_n X dX12_cast_8 2 rfl ?_
    refine g_callS (n := 1) (av := [tI a2]) (rest := []) X hf (fun v2 => (some (tI v2), h)) (fun _ q => m_X12_isDay q) (gdS tb_1239 tb_1240 tb_12 tb_1241) rfl (by decide +kernel) rfl (by decide) (by decide) rfl (Nat.le_of_ble_eq_true rfl) dX12_cast_9 (fun v2 hf => ?_)
    refine g_ifne (tgt := 17) X hf dX12_cast_12 (by decide) (fun hf => ?_) (fun hf => ?_)
    · refine g_iconst (v := (-1)) X dX12_cast_15 (by decide) ?_
      exact g_ireturn X (zP hf) (by decide) (by decide) dX12_cast_16
    · refine g_aload_n X dX12_cast_17 0 rfl ?_
      refine g_iload_n X dX12_cast_18 1 rfl ?_
      refine g_iload_n X dX12_cast_19 2 rfl ?_
      refine g_callV (n := 2) (av := [tI a1, tI a2]) (rest := []) (k := 12) X hf (fun v3 => (some (tI v3), h)) (fun _ q => m_X12_doesCome q) (gdV tb_1315 tb_1316 tb_1694 tb_12 tb_1317) rfl (by decide +kernel) rfl (by decide) rfl (by decide) (by decide) rfl (Nat.le_of_ble_eq_true rfl) dX12_cast_20 (fun v3 hf => ?_)
      refine g_ifne (tgt := 29) X hf dX12_cast_23 (by decide) (fun hf => ?_) (fun hf => ?_)
      · refine g_bipush (v := (-4)) X dX12_cast_26 (by decide) ?_
        exact g_ireturn X (zP hf) (by decide) (by decide) dX12_cast_28
      · refine g_aload_n X dX12_cast_29 0 rfl ?_
        refine g_iload_n X dX12_cast_30 1 rfl ?_
        refine g_iload_n X dX12_cast_31 2 rfl ?_
        refine g_iconst (v := (-1)) X dX12_cast_32 (by decide) ?_
        refine g_callV (n := 3) (av := [tI a1, tI a2, tI (-1)]) (rest := []) (k := 12) X hf (fun v4 => (some (tI v4), h)) (fun _ q => m_X12_castOf q) (gdV tb_1325 tb_1326 tb_1696 tb_12 tb_1327) rfl (by decide +kernel) rfl (by decide) rfl (by decide) (by decide) rfl (Nat.le_of_ble_eq_true rfl) dX12_cast_33 (fun v4 hf => ?_)
        refine g_istore_n (lv' := [(0, tR a0), (1, tI a1), (2, tI a2), (3, tI v4)]) X dX12_cast_36 (by decide) (in_pick [1, 2, 3, 0] rfl) ?_
        refine g_iload_n X dX12_cast_37 3 rfl ?_
        refine g_ifge (tgt := 46) X hf dX12_cast_38 (by decide) (fun hf => ?_) (fun hf => ?_)
        · refine g_bipush (v := (-3)) X dX12_cast_41 (by decide) ?_
          refine g_goto (tgt := 47) X dX12_cast_43 (by decide) ?_
          exact g_ireturn X (zP hf) (by decide) (by decide) dX12_cast_47
        · refine g_iload_n X dX12_cast_46 3 rfl ?_
          exact g_ireturn X (zP hf) (by decide) (by decide) dX12_cast_47
def f_X12_makes  (a0 : Option Nat) (a1 : Int32) (a2 : Int32) (a3 : Int32) (a4 : Int32) (a5 : Int32) (a6 : Int32) (h : AH) : Option AH :=
  (gR 12 0 h a0).bind fun v1 =>
  (aI h v1 5).bind fun v2 =>
  (gR 12 0 h a0).bind fun v3 =>
  (sI h v3 (651 + v2) a1).bind fun h4 =>
  (gR 12 0 h4 a0).bind fun v5 =>
  (sI h4 v5 (691 + v2) a2).bind fun h6 =>
  (gR 12 0 h6 a0).bind fun v7 =>
  (sI h6 v7 (731 + v2) a3).bind fun h8 =>
  (gR 12 0 h8 a0).bind fun v9 =>
  (sI h8 v9 (771 + v2) a4).bind fun h10 =>
  (gR 12 0 h10 a0).bind fun v11 =>
  (sI h10 v11 (811 + v2) a5).bind fun h12 =>
  (gR 12 0 h12 a0).bind fun v13 =>
  (sI h12 v13 (851 + v2) (a6 / 10000)).bind fun h14 =>
  (gR 12 0 h14 a0).bind fun v15 =>
  (sI h14 v15 (891 + v2) (iRem a6 10000)).bind fun h16 =>
  (gR 12 0 h16 a0).bind fun v17 =>
  (gR 12 0 h16 a0).bind fun v18 =>
  (aI h16 v18 0).bind fun v19 =>
  (sI h16 v17 (931 + v2) v19).bind fun h20 =>
  (gR 12 0 h20 a0).bind fun v21 =>
  (sI h20 v21 (971 + v2) (-1)).bind fun h22 =>
  (gR 12 0 h22 a0).bind fun v23 =>
  (aI h22 v23 5).bind fun v24 =>
  (sI h22 v23 5 (v24 + 1)).bind fun h25 =>
  some h25
set_option maxRecDepth 20000 in
theorem m_X12_makes  {a0 : Option Nat} {a1 : Int32} {a2 : Int32} {a3 : Int32} {a4 : Int32} {a5 : Int32} {a6 : Int32} {h : AH} {w : AH} (hf : f_X12_makes a0 a1 a2 a3 a4 a5 a6 h = some w) : CT yX12_makes (wU yX12_makes cX12_makes 8 none) (rmD 1 0 0) 0 0 [tR a0, tI a1, tI a2, tI a3, tI a4, tI a5, tI a6] h (none, w) := by
  refine CT.of (cc := cX12_makes) (nL := 8) (ret := none) (by decide) (by simp [lg_sl, vOf_cat, wOf]) ?_
  intro K X
  refine g_locs (lv' := [(0, tR a0), (1, tI a1), (2, tI a2), (3, tI a3), (4, tI a4), (5, tI a5), (6, tI a6)]) (fun q hq => hq) ?_
  unfold f_X12_makes at hf
  refine g_aload_n X dX12_makes_0 0 rfl ?_
  refine g_getR X hf (T := TX12) rfl (by decide) (by decide) in_RX12 tb_1135 rfl dX12_makes_1 (fun v1 hf => ?_)
  refine g_iconst (v := 5) X dX12_makes_4 (by decide) ?_
  refine g_iaload X hf dX12_makes_5 (fun v2 hf => ?_)
  refine g_istore (lv' := [(0, tR a0), (1, tI a1), (2, tI a2), (3, tI a3), (4, tI a4), (5, tI a5), (6, tI a6), (7, tI v2)]) X dX12_makes_6 (by decide) (in_pick [1, 2, 3, 4, 5, 6, 7, 0] rfl) ?_
  refine g_aload_n X dX12_makes_8 0 rfl ?_
  refine g_getR X hf (T := TX12) rfl (by decide) (by decide) in_RX12 tb_1135 rfl dX12_makes_9 (fun v3 hf => ?_)
  refine g_sipush (v := 651) X dX12_makes_12 (by decide) ?_
  refine g_iload X dX12_makes_15 7 rfl ?_
  refine g_iadd X dX12_makes_17 ?_
  refine g_iload_n X dX12_makes_18 1 rfl ?_
  refine g_iastore X hf dX12_makes_19 (fun h4 hf => ?_)
  refine g_aload_n X dX12_makes_20 0 rfl ?_
  refine g_getR X hf (T := TX12) rfl (by decide) (by decide) in_RX12 tb_1135 rfl dX12_makes_21 (fun v5 hf => ?_)
  refine g_sipush (v := 691) X dX12_makes_24 (by decide) ?_
  refine g_iload X dX12_makes_27 7 rfl ?_
  refine g_iadd X dX12_makes_29 ?_
  refine g_iload_n X dX12_makes_30 2 rfl ?_
  refine g_iastore X hf dX12_makes_31 (fun h6 hf => ?_)
  refine g_aload_n X dX12_makes_32 0 rfl ?_
  refine g_getR X hf (T := TX12) rfl (by decide) (by decide) in_RX12 tb_1135 rfl dX12_makes_33 (fun v7 hf => ?_)
  refine g_sipush (v := 731) X dX12_makes_36 (by decide) ?_
  refine g_iload X dX12_makes_39 7 rfl ?_
  refine g_iadd X dX12_makes_41 ?_
  refine g_iload_n X dX12_makes_42 3 rfl ?_
  refine g_iastore X hf dX12_makes_43 (fun h8 hf => ?_)
  refine g_aload_n X dX12_makes_44 0 rfl ?_
  refine g_getR X hf (T := TX12) rfl (by decide) (by decide) in_RX12 tb_1135 rfl dX12_makes_45 (fun v9 hf => ?_)
  refine g_sipush (v := 771) X dX12_makes_48 (by decide) ?_
  refine g_iload X dX12_makes_51 7 rfl ?_
  refine g_iadd X dX12_makes_53 ?_
  refine g_iload X dX12_makes_54 4 rfl ?_
  refine g_iastore X hf dX12_makes_56 (fun h10 hf => ?_)
  refine g_aload_n X dX12_makes_57 0 rfl ?_
  refine g_getR X hf (T := TX12) rfl (by decide) (by decide) in_RX12 tb_1135 rfl dX12_makes_58 (fun v11 hf => ?_)
  refine g_sipush (v := 811) X dX12_makes_61 (by decide) ?_
  refine g_iload X dX12_makes_64 7 rfl ?_
  refine g_iadd X dX12_makes_66 ?_
  refine g_iload X dX12_makes_67 5 rfl ?_
  refine g_iastore X hf dX12_makes_69 (fun h12 hf => ?_)
  refine g_aload_n X dX12_makes_70 0 rfl ?_
  refine g_getR X hf (T := TX12) rfl (by decide) (by decide) in_RX12 tb_1135 rfl dX12_makes_71 (fun v13 hf => ?_)
  refine g_sipush (v := 851) X dX12_makes_74 (by decide) ?_
  refine g_iload X dX12_makes_77 7 rfl ?_
  refine g_iadd X dX12_makes_79 ?_
  refine g_iload X dX12_makes_80 6 rfl ?_
  refine g_sipush (v := 10000) X dX12_makes_82 (by decide) ?_
  refine g_idivc X dX12_makes_85 (by decide) ?_
  refine g_iastore X hf dX12_makes_86 (fun h14 hf => ?_)
  refine g_aload_n X dX12_makes_87 0 rfl ?_
  refine g_getR X hf (T := TX12) rfl (by decide) (by decide) in_RX12 tb_1135 rfl dX12_makes_88 (fun v15 hf => ?_)
  refine g_sipush (v := 891) X dX12_makes_91 (by decide) ?_
  refine g_iload X dX12_makes_94 7 rfl ?_
  refine g_iadd X dX12_makes_96 ?_
  refine g_iload X dX12_makes_97 6 rfl ?_
  refine g_sipush (v := 10000) X dX12_makes_99 (by decide) ?_
  refine g_iremc X dX12_makes_102 (by decide) ?_
  refine g_iastore X hf dX12_makes_103 (fun h16 hf => ?_)
  refine g_aload_n X dX12_makes_104 0 rfl ?_
  refine g_getR X hf (T := TX12) rfl (by decide) (by decide) in_RX12 tb_1135 rfl dX12_makes_105 (fun v17 hf => ?_)
  refine g_sipush (v := 931) X dX12_makes_108 (by decide) ?_
  refine g_iload X dX12_makes_111 7 rfl ?_
  refine g_iadd X dX12_makes_113 ?_
  refine g_aload_n X dX12_makes_114 0 rfl ?_
  refine g_getR X hf (T := TX12) rfl (by decide) (by decide) in_RX12 tb_1135 rfl dX12_makes_115 (fun v18 hf => ?_)
  refine g_iconst (v := 0) X dX12_makes_118 (by decide) ?_
  refine g_iaload X hf dX12_makes_119 (fun v19 hf => ?_)
  refine g_iastore X hf dX12_makes_120 (fun h20 hf => ?_)
  refine g_aload_n X dX12_makes_121 0 rfl ?_
  refine g_getR X hf (T := TX12) rfl (by decide) (by decide) in_RX12 tb_1135 rfl dX12_makes_122 (fun v21 hf => ?_)
  refine g_sipush (v := 971) X dX12_makes_125 (by decide) ?_
  refine g_iload X dX12_makes_128 7 rfl ?_
  refine g_iadd X dX12_makes_130 ?_
  refine g_iconst (v := (-1)) X dX12_makes_131 (by decide) ?_
  refine g_iastore X hf dX12_makes_132 (fun h22 hf => ?_)
  refine g_aload_n X dX12_makes_133 0 rfl ?_
  refine g_getR X hf (T := TX12) rfl (by decide) (by decide) in_RX12 tb_1135 rfl dX12_makes_134 (fun v23 hf => ?_)
  refine g_iconst (v := 5) X dX12_makes_137 (by decide) ?_
  refine g_dup2 X dX12_makes_138 rfl rfl ?_
  refine g_iaload X hf dX12_makes_139 (fun v24 hf => ?_)
  refine g_iconst (v := 1) X dX12_makes_140 (by decide) ?_
  refine g_iadd X dX12_makes_141 ?_
  refine g_iastore X hf dX12_makes_142 (fun h25 hf => ?_)
  exact g_vreturn X (zV hf) (by decide) (by decide) dX12_makes_143
def b_X12_sherd_54   (x0 : Option Nat) (x1 : Int32) (x2 : Int32) (x3 : Int32) (x4 : Int32) (x5 : Int32) (x6 : Int32) (h : AH) : Option (Int32 × AH) :=
  (f_X12_in x6 0 19999 h).bind fun v1 =>
  if v1 = 0 then
    some ((-1), h)
  else
    (gR 12 0 h x0).bind fun v2 =>
    (aI h v2 5).bind fun v3 =>
    if v3 = 40 then
      some ((-2), h)
    else
      (ck 12 h x0 (f_X12_makes x0 x1 x2 x3 x4 x5 x6 h)).bind fun h4 =>
      (gR 12 0 h4 x0).bind fun v5 =>
      (aI h4 v5 5).bind fun v6 =>
      some ((v6 - 1), h4)
set_option maxRecDepth 20000 in
theorem w_X12_sherd_54 {K : KT} {w : (Int32 × AH)}   (X : CX K cX12_sherd RX12 TB (some .int) "sherd" (rmD 3 0 0) 7 0 0)  (x0 : Option Nat) (x1 : Int32) (x2 : Int32) (x3 : Int32) (x4 : Int32) (x5 : Int32) (x6 : Int32) (h : AH) (hf : b_X12_sherd_54 x0 x1 x2 x3 x4 x5 x6 h = some w) : GG K (some (tI w.1), w.2) 0 0 54 [(0, tR x0), (1, tI x1), (2, tI x2), (3, tI x3), (4, tI x4), (5, tI x5), (6, tI x6)] [] h := by
  unfold b_X12_sherd_54 at hf
  refine g_iload X dX12_sherd_54 6 rfl ?_
  refine g_iconst (v := 0) X dX12_sherd_56 (by decide) ?_
  refine g_sipush (v := 19999) X dX12_sherd_57 (by decide) ?_
  refine g_callS (n := 3) (av := [tI x6, tI 0, tI 19999]) (rest := []) X hf (fun v1 => (some (tI v1), h)) (fun _ q => m_X12_in q) (gdS tb_1226 tb_1227 tb_12 tb_1228) rfl (by decide +kernel) rfl (by decide) (by decide) rfl (Nat.le_of_ble_eq_true rfl) dX12_sherd_60 (fun v1 hf => ?_)
  refine g_ifne (tgt := 68) X hf dX12_sherd_63 (by decide) (fun hf => ?_) (fun hf => ?_)
  · refine g_iconst (v := (-1)) X dX12_sherd_66 (by decide) ?_
    exact g_ireturn X (zW hf) (by decide) (by decide) dX12_sherd_67
  · refine g_aload_n X dX12_sherd_68 0 rfl ?_
    refine g_getR X hf (T := TX12) rfl (by decide) (by decide) in_RX12 tb_1135 rfl dX12_sherd_69 (fun v2 hf => ?_)
    refine g_iconst (v := 5) X dX12_sherd_72 (by decide) ?_
    refine g_iaload X hf dX12_sherd_73 (fun v3 hf => ?_)
    refine g_bipush (v := 40) X dX12_sherd_74 (by decide) ?_
    refine g_icmpne (tgt := 82) X hf dX12_sherd_76 (by decide) (fun hf => ?_) (fun hf => ?_)
    · refine g_bipush (v := (-2)) X dX12_sherd_79 (by decide) ?_
      exact g_ireturn X (zW hf) (by decide) (by decide) dX12_sherd_81
    · refine g_aload_n X dX12_sherd_82 0 rfl ?_
      refine g_iload_n X dX12_sherd_83 1 rfl ?_
      refine g_iload_n X dX12_sherd_84 2 rfl ?_
      refine g_iload_n X dX12_sherd_85 3 rfl ?_
      refine g_iload X dX12_sherd_86 4 rfl ?_
      refine g_iload X dX12_sherd_88 5 rfl ?_
      refine g_iload X dX12_sherd_90 6 rfl ?_
      refine g_callV (n := 6) (av := [tI x1, tI x2, tI x3, tI x4, tI x5, tI x6]) (rest := []) (k := 12) X hf (fun h4 => (none, h4)) (fun _ q => m_X12_makes q) (gdV tb_1332 tb_1333 tb_1697 tb_12 tb_1334) rfl (by decide +kernel) rfl (by decide) rfl (by decide) (by decide) rfl (Nat.le_of_ble_eq_true rfl) dX12_sherd_92 (fun h4 hf => ?_)
      refine g_aload_n X dX12_sherd_95 0 rfl ?_
      refine g_getR X hf (T := TX12) rfl (by decide) (by decide) in_RX12 tb_1135 rfl dX12_sherd_96 (fun v5 hf => ?_)
      refine g_iconst (v := 5) X dX12_sherd_99 (by decide) ?_
      refine g_iaload X hf dX12_sherd_100 (fun v6 hf => ?_)
      refine g_iconst (v := 1) X dX12_sherd_101 (by decide) ?_
      refine g_isub X dX12_sherd_102 ?_
      exact g_ireturn X (zW hf) (by decide) (by decide) dX12_sherd_103
def b_X12_sherd_31   (x0 : Option Nat) (x1 : Int32) (x2 : Int32) (x3 : Int32) (x4 : Int32) (x5 : Int32) (x6 : Int32) (h : AH) : Option (Int32 × AH) :=
  (f_X12_in x4 (-1) 4 h).bind fun v1 =>
  if v1 = 0 then
    some ((-1), h)
  else
    if x5 = 0 then
      b_X12_sherd_54 x0 x1 x2 x3 x4 x5 x6 h
    else
      (f_X12_isName x5 h).bind fun v2 =>
      if v2 = 0 then
        some ((-1), h)
      else
        b_X12_sherd_54 x0 x1 x2 x3 x4 x5 x6 h
set_option maxRecDepth 20000 in
theorem w_X12_sherd_31 {K : KT} {w : (Int32 × AH)}   (X : CX K cX12_sherd RX12 TB (some .int) "sherd" (rmD 3 0 0) 7 0 0)  (x0 : Option Nat) (x1 : Int32) (x2 : Int32) (x3 : Int32) (x4 : Int32) (x5 : Int32) (x6 : Int32) (h : AH) (hf : b_X12_sherd_31 x0 x1 x2 x3 x4 x5 x6 h = some w) : GG K (some (tI w.1), w.2) 0 0 31 [(0, tR x0), (1, tI x1), (2, tI x2), (3, tI x3), (4, tI x4), (5, tI x5), (6, tI x6)] [] h := by
  unfold b_X12_sherd_31 at hf
  refine g_iload X dX12_sherd_31 4 rfl ?_
  refine g_iconst (v := (-1)) X dX12_sherd_33 (by decide) ?_
  refine g_iconst (v := 4) X dX12_sherd_34 (by decide) ?_
  refine g_callS (n := 3) (av := [tI x4, tI (-1), tI 4]) (rest := []) X hf (fun v1 => (some (tI v1), h)) (fun _ q => m_X12_in q) (gdS tb_1226 tb_1227 tb_12 tb_1228) rfl (by decide +kernel) rfl (by decide) (by decide) rfl (Nat.le_of_ble_eq_true rfl) dX12_sherd_35 (fun v1 hf => ?_)
  refine g_ifeq (tgt := 66) X hf dX12_sherd_38 (by decide) (fun hf => ?_) (fun hf => ?_)
  · refine g_iconst (v := (-1)) X dX12_sherd_66 (by decide) ?_
    exact g_ireturn X (zW hf) (by decide) (by decide) dX12_sherd_67
  · refine g_iload X dX12_sherd_41 5 rfl ?_
    refine g_ifeq (tgt := 54) X hf dX12_sherd_43 (by decide) (fun hf => ?_) (fun hf => ?_)
    · exact w_X12_sherd_54 X x0 x1 x2 x3 x4 x5 x6 h hf
    · refine g_iload X dX12_sherd_46 5 rfl ?_
      refine g_callS (n := 1) (av := [tI x5]) (rest := []) X hf (fun v2 => (some (tI v2), h)) (fun _ q => m_X12_isName q) (gdS tb_1260 tb_1261 tb_12 tb_1262) rfl (by decide +kernel) rfl (by decide) (by decide) rfl (Nat.le_of_ble_eq_true rfl) dX12_sherd_48 (fun v2 hf => ?_)
      refine g_ifeq (tgt := 66) X hf dX12_sherd_51 (by decide) (fun hf => ?_) (fun hf => ?_)
      · refine g_iconst (v := (-1)) X dX12_sherd_66 (by decide) ?_
        exact g_ireturn X (zW hf) (by decide) (by decide) dX12_sherd_67
      · exact w_X12_sherd_54 X x0 x1 x2 x3 x4 x5 x6 h hf
def b_X12_sherd_18   (x0 : Option Nat) (x1 : Int32) (x2 : Int32) (x3 : Int32) (x4 : Int32) (x5 : Int32) (x6 : Int32) (h : AH) : Option (Int32 × AH) :=
  if x3 = (-1) then
    b_X12_sherd_31 x0 x1 x2 x3 x4 x5 x6 h
  else
    (ck 12 h x0 (f_X12_isWard x0 x3 h)).bind fun v1 =>
    if v1 = 0 then
      some ((-1), h)
    else
      b_X12_sherd_31 x0 x1 x2 x3 x4 x5 x6 h
set_option maxRecDepth 20000 in
theorem w_X12_sherd_18 {K : KT} {w : (Int32 × AH)}   (X : CX K cX12_sherd RX12 TB (some .int) "sherd" (rmD 3 0 0) 7 0 0)  (x0 : Option Nat) (x1 : Int32) (x2 : Int32) (x3 : Int32) (x4 : Int32) (x5 : Int32) (x6 : Int32) (h : AH) (hf : b_X12_sherd_18 x0 x1 x2 x3 x4 x5 x6 h = some w) : GG K (some (tI w.1), w.2) 0 0 18 [(0, tR x0), (1, tI x1), (2, tI x2), (3, tI x3), (4, tI x4), (5, tI x5), (6, tI x6)] [] h := by
  unfold b_X12_sherd_18 at hf
  refine g_iload_n X dX12_sherd_18 3 rfl ?_
  refine g_iconst (v := (-1)) X dX12_sherd_19 (by decide) ?_
  refine g_icmpeq (tgt := 31) X hf dX12_sherd_20 (by decide) (fun hf => ?_) (fun hf => ?_)
  · exact w_X12_sherd_31 X x0 x1 x2 x3 x4 x5 x6 h hf
  · refine g_aload_n X dX12_sherd_23 0 rfl ?_
    refine g_iload_n X dX12_sherd_24 3 rfl ?_
    refine g_callV (n := 1) (av := [tI x3]) (rest := []) (k := 12) X hf (fun v1 => (some (tI v1), h)) (fun _ q => m_X12_isWard q) (gdV tb_1253 tb_1254 tb_1690 tb_12 tb_1255) rfl (by decide +kernel) rfl (by decide) rfl (by decide) (by decide) rfl (Nat.le_of_ble_eq_true rfl) dX12_sherd_25 (fun v1 hf => ?_)
    refine g_ifeq (tgt := 66) X hf dX12_sherd_28 (by decide) (fun hf => ?_) (fun hf => ?_)
    · refine g_iconst (v := (-1)) X dX12_sherd_66 (by decide) ?_
      exact g_ireturn X (zW hf) (by decide) (by decide) dX12_sherd_67
    · exact w_X12_sherd_31 X x0 x1 x2 x3 x4 x5 x6 h hf
def f_X12_sherd  (a0 : Option Nat) (a1 : Int32) (a2 : Int32) (a3 : Int32) (a4 : Int32) (a5 : Int32) (a6 : Int32) (h : AH) : Option (Int32 × AH) :=
  (f_X12_isName a1 h).bind fun v1 =>
  if v1 = 0 then
    some ((-1), h)
  else
    if a2 = 0 then
      b_X12_sherd_18 a0 a1 a2 a3 a4 a5 a6 h
    else
      (f_X12_isName a2 h).bind fun v2 =>
      if v2 = 0 then
        some ((-1), h)
      else
        b_X12_sherd_18 a0 a1 a2 a3 a4 a5 a6 h
set_option maxRecDepth 20000 in
theorem m_X12_sherd  {a0 : Option Nat} {a1 : Int32} {a2 : Int32} {a3 : Int32} {a4 : Int32} {a5 : Int32} {a6 : Int32} {h : AH} {w : (Int32 × AH)} (hf : f_X12_sherd a0 a1 a2 a3 a4 a5 a6 h = some w) : CT yX12_sherd (wU yX12_sherd cX12_sherd 7 (some .int)) (rmD 3 0 0) 0 0 [tR a0, tI a1, tI a2, tI a3, tI a4, tI a5, tI a6] h (some (tI w.1), w.2) := by
  refine CT.of (cc := cX12_sherd) (nL := 7) (ret := (some .int)) (by decide) (by simp [lg_sl, vOf_cat, wOf]) ?_
  intro K X
  refine g_locs (lv' := [(0, tR a0), (1, tI a1), (2, tI a2), (3, tI a3), (4, tI a4), (5, tI a5), (6, tI a6)]) (fun q hq => hq) ?_
  unfold f_X12_sherd at hf
  refine g_iload_n X dX12_sherd_0 1 rfl ?_
  refine g_callS (n := 1) (av := [tI a1]) (rest := []) X hf (fun v1 => (some (tI v1), h)) (fun _ q => m_X12_isName q) (gdS tb_1260 tb_1261 tb_12 tb_1262) rfl (by decide +kernel) rfl (by decide) (by decide) rfl (Nat.le_of_ble_eq_true rfl) dX12_sherd_1 (fun v1 hf => ?_)
  refine g_ifeq (tgt := 66) X hf dX12_sherd_4 (by decide) (fun hf => ?_) (fun hf => ?_)
  · refine g_iconst (v := (-1)) X dX12_sherd_66 (by decide) ?_
    exact g_ireturn X (zW hf) (by decide) (by decide) dX12_sherd_67
  · refine g_iload_n X dX12_sherd_7 2 rfl ?_
    refine g_ifeq (tgt := 18) X hf dX12_sherd_8 (by decide) (fun hf => ?_) (fun hf => ?_)
    · exact w_X12_sherd_18 X a0 a1 a2 a3 a4 a5 a6 h hf
    · refine g_iload_n X dX12_sherd_11 2 rfl ?_
      refine g_callS (n := 1) (av := [tI a2]) (rest := []) X hf (fun v2 => (some (tI v2), h)) (fun _ q => m_X12_isName q) (gdS tb_1260 tb_1261 tb_12 tb_1262) rfl (by decide +kernel) rfl (by decide) (by decide) rfl (Nat.le_of_ble_eq_true rfl) dX12_sherd_12 (fun v2 hf => ?_)
      refine g_ifeq (tgt := 66) X hf dX12_sherd_15 (by decide) (fun hf => ?_) (fun hf => ?_)
      · refine g_iconst (v := (-1)) X dX12_sherd_66 (by decide) ?_
        exact g_ireturn X (zW hf) (by decide) (by decide) dX12_sherd_67
      · exact w_X12_sherd_18 X a0 a1 a2 a3 a4 a5 a6 h hf
def b_X12_vote_184  (k75 : Option Nat → Int32 → Int32 → AH → Option (Int32 × AH)) (x0 : Option Nat) (x1 : Int32) (x2 : Int32) (s0 : Option Nat) (s1 : Int32) (s2 : Int32) (s3 : Int32) (h : AH) : Option (Int32 × AH) :=
  (gR 12 0 h x0).bind fun v1 =>
  (gR 12 0 h x0).bind fun v2 =>
  (aI h v2 (75 + x2)).bind fun v3 =>
  (aI h v1 (23 + v3)).bind fun v4 =>
  (gR 12 0 h x0).bind fun v5 =>
  (aI h v5 (139 + x2)).bind fun v6 =>
  (ck 12 h s0 (f_X12_makes s0 s1 s2 s3 v4 0 v6 h)).bind fun h7 =>
  k75 x0 x1 (x2 + 1) h7
set_option maxRecDepth 20000 in
theorem w_X12_vote_184 {K : KT} {w : (Int32 × AH)} {k75 : Option Nat → Int32 → Int32 → AH → Option (Int32 × AH)}  (X : CX K cX12_vote RX12 TB (some .int) "vote" (rmD 4 0 0) 5 0 0) (hk75 : ∀ (x0 : Option Nat) (x1 : Int32) (x2 : Int32) (h : AH), k75 x0 x1 x2 h = some w → GG K (some (tI w.1), w.2) 0 0 75 [(0, tR x0), (1, tI x1), (2, tI x2)] [] h) (x0 : Option Nat) (x1 : Int32) (x2 : Int32) (s0 : Option Nat) (s1 : Int32) (s2 : Int32) (s3 : Int32) (h : AH) (hf : b_X12_vote_184 k75 x0 x1 x2 s0 s1 s2 s3 h = some w) : GG K (some (tI w.1), w.2) 0 0 184 [(0, tR x0), (1, tI x1), (2, tI x2)] [tI s3, tI s2, tI s1, tR s0] h := by
  unfold b_X12_vote_184 at hf
  refine g_aload_n X dX12_vote_184 0 rfl ?_
  refine g_getR X hf (T := TX12) rfl (by decide) (by decide) in_RX12 tb_1135 rfl dX12_vote_185 (fun v1 hf => ?_)
  refine g_bipush (v := 23) X dX12_vote_188 (by decide) ?_
  refine g_aload_n X dX12_vote_190 0 rfl ?_
  refine g_getR X hf (T := TX12) rfl (by decide) (by decide) in_RX12 tb_1135 rfl dX12_vote_191 (fun v2 hf => ?_)
  refine g_bipush (v := 75) X dX12_vote_194 (by decide) ?_
  refine g_iload_n X dX12_vote_196 2 rfl ?_
  refine g_iadd X dX12_vote_197 ?_
  refine g_iaload X hf dX12_vote_198 (fun v3 hf => ?_)
  refine g_iadd X dX12_vote_199 ?_
  refine g_iaload X hf dX12_vote_200 (fun v4 hf => ?_)
  refine g_iconst (v := 0) X dX12_vote_201 (by decide) ?_
  refine g_aload_n X dX12_vote_202 0 rfl ?_
  refine g_getR X hf (T := TX12) rfl (by decide) (by decide) in_RX12 tb_1135 rfl dX12_vote_203 (fun v5 hf => ?_)
  refine g_sipush (v := 139) X dX12_vote_206 (by decide) ?_
  refine g_iload_n X dX12_vote_209 2 rfl ?_
  refine g_iadd X dX12_vote_210 ?_
  refine g_iaload X hf dX12_vote_211 (fun v6 hf => ?_)
  refine g_callV (n := 6) (av := [tI s1, tI s2, tI s3, tI v4, tI 0, tI v6]) (rest := []) (k := 12) X hf (fun h7 => (none, h7)) (fun _ q => m_X12_makes q) (gdV tb_1332 tb_1333 tb_1697 tb_12 tb_1334) rfl (by decide +kernel) rfl (by decide) rfl (by decide) (by decide) rfl (Nat.le_of_ble_eq_true rfl) dX12_vote_212 (fun h7 hf => ?_)
  refine g_iinc (v := (x2 + 1)) (lv' := [(0, tR x0), (1, tI x1), (2, tI (x2 + 1))]) X dX12_vote_215 2 rfl (by rfl) (by decide) (in_pick [1, 2, 0] rfl) ?_
  refine g_goto (tgt := 75) X dX12_vote_218 (by decide) ?_
  exact hk75 x0 x1 (x2 + 1) h7 hf
def b_X12_vote_163  (k75 : Option Nat → Int32 → Int32 → AH → Option (Int32 × AH)) (x0 : Option Nat) (x1 : Int32) (x2 : Int32) (x3 : Int32) (x4 : Int32) (s0 : Option Nat) (s1 : Int32) (s2 : Int32) (h : AH) : Option (Int32 × AH) :=
  if (x4 / 2) = 1 then
    (gR 12 0 h x0).bind fun v1 =>
    (aI h v1 (75 + x3)).bind fun v2 =>
    b_X12_vote_184 k75 x0 x1 x2 s0 s1 s2 v2 h
  else
    b_X12_vote_184 k75 x0 x1 x2 s0 s1 s2 (-1) h
set_option maxRecDepth 20000 in
theorem w_X12_vote_163 {K : KT} {w : (Int32 × AH)} {k75 : Option Nat → Int32 → Int32 → AH → Option (Int32 × AH)}  (X : CX K cX12_vote RX12 TB (some .int) "vote" (rmD 4 0 0) 5 0 0) (hk75 : ∀ (x0 : Option Nat) (x1 : Int32) (x2 : Int32) (h : AH), k75 x0 x1 x2 h = some w → GG K (some (tI w.1), w.2) 0 0 75 [(0, tR x0), (1, tI x1), (2, tI x2)] [] h) (x0 : Option Nat) (x1 : Int32) (x2 : Int32) (x3 : Int32) (x4 : Int32) (s0 : Option Nat) (s1 : Int32) (s2 : Int32) (h : AH) (hf : b_X12_vote_163 k75 x0 x1 x2 x3 x4 s0 s1 s2 h = some w) : GG K (some (tI w.1), w.2) 0 0 163 [(0, tR x0), (1, tI x1), (2, tI x2), (3, tI x3), (4, tI x4)] [tI s2, tI s1, tR s0] h := by
  unfold b_X12_vote_163 at hf
  refine g_iload X dX12_vote_163 4 rfl ?_
  refine g_iconst (v := 2) X dX12_vote_165 (by decide) ?_
  refine g_idivc X dX12_vote_166 (by decide) ?_
  refine g_iconst (v := 1) X dX12_vote_167 (by decide) ?_
  refine g_icmpne (tgt := 183) X hf dX12_vote_168 (by decide) (fun hf => ?_) (fun hf => ?_)
  · refine g_aload_n X dX12_vote_171 0 rfl ?_
    refine g_getR X hf (T := TX12) rfl (by decide) (by decide) in_RX12 tb_1135 rfl dX12_vote_172 (fun v1 hf => ?_)
    refine g_bipush (v := 75) X dX12_vote_175 (by decide) ?_
    refine g_iload_n X dX12_vote_177 3 rfl ?_
    refine g_iadd X dX12_vote_178 ?_
    refine g_iaload X hf dX12_vote_179 (fun v2 hf => ?_)
    refine g_goto (tgt := 184) X dX12_vote_180 (by decide) ?_
    refine g_locs (lv' := [(0, tR x0), (1, tI x1), (2, tI x2)]) (in_pick [0, 1, 2] rfl) ?_
    exact w_X12_vote_184 X hk75 x0 x1 x2 s0 s1 s2 v2 h hf
  · refine g_iconst (v := (-1)) X dX12_vote_183 (by decide) ?_
    refine g_locs (lv' := [(0, tR x0), (1, tI x1), (2, tI x2)]) (in_pick [0, 1, 2] rfl) ?_
    exact w_X12_vote_184 X hk75 x0 x1 x2 s0 s1 s2 (-1) h hf
def b_X12_vote_115  (k75 : Option Nat → Int32 → Int32 → AH → Option (Int32 × AH)) (x0 : Option Nat) (x1 : Int32) (x2 : Int32) (s0 : Int32) (h : AH) : Option (Int32 × AH) :=
  if s0 < 0 then
    k75 x0 x1 (x2 + 1) h
  else
    (gR 12 0 h x0).bind fun v1 =>
    (aI h v1 (155 + x2)).bind fun v2 =>
    (gR 12 0 h x0).bind fun v3 =>
    (aI h v3 (107 + s0)).bind fun v4 =>
    if (iRem v2 2) = 1 then
      (gR 12 0 h x0).bind fun v5 =>
      (aI h v5 (123 + s0)).bind fun v6 =>
      b_X12_vote_163 k75 x0 x1 x2 s0 v2 x0 v4 v6 h
    else
      b_X12_vote_163 k75 x0 x1 x2 s0 v2 x0 v4 0 h
set_option maxRecDepth 20000 in
theorem w_X12_vote_115 {K : KT} {w : (Int32 × AH)} {k75 : Option Nat → Int32 → Int32 → AH → Option (Int32 × AH)}  (X : CX K cX12_vote RX12 TB (some .int) "vote" (rmD 4 0 0) 5 0 0) (hk75 : ∀ (x0 : Option Nat) (x1 : Int32) (x2 : Int32) (h : AH), k75 x0 x1 x2 h = some w → GG K (some (tI w.1), w.2) 0 0 75 [(0, tR x0), (1, tI x1), (2, tI x2)] [] h) (x0 : Option Nat) (x1 : Int32) (x2 : Int32) (s0 : Int32) (h : AH) (hf : b_X12_vote_115 k75 x0 x1 x2 s0 h = some w) : GG K (some (tI w.1), w.2) 0 0 115 [(0, tR x0), (1, tI x1), (2, tI x2)] [tI s0] h := by
  unfold b_X12_vote_115 at hf
  refine g_istore_n (lv' := [(0, tR x0), (1, tI x1), (2, tI x2), (3, tI s0)]) X dX12_vote_115 (by decide) (in_pick [1, 2, 3, 0] rfl) ?_
  refine g_iload_n X dX12_vote_116 3 rfl ?_
  refine g_iflt (tgt := 215) X hf dX12_vote_117 (by decide) (fun hf => ?_) (fun hf => ?_)
  · refine g_iinc (v := (x2 + 1)) (lv' := [(0, tR x0), (1, tI x1), (2, tI (x2 + 1)), (3, tI s0)]) X dX12_vote_215 2 rfl (by rfl) (by decide) (in_pick [1, 2, 0, 3] rfl) ?_
    refine g_goto (tgt := 75) X dX12_vote_218 (by decide) ?_
    refine g_locs (lv' := [(0, tR x0), (1, tI x1), (2, tI (x2 + 1))]) (in_pick [0, 1, 2] rfl) ?_
    exact hk75 x0 x1 (x2 + 1) h hf
  · refine g_aload_n X dX12_vote_120 0 rfl ?_
    refine g_getR X hf (T := TX12) rfl (by decide) (by decide) in_RX12 tb_1135 rfl dX12_vote_121 (fun v1 hf => ?_)
    refine g_sipush (v := 155) X dX12_vote_124 (by decide) ?_
    refine g_iload_n X dX12_vote_127 2 rfl ?_
    refine g_iadd X dX12_vote_128 ?_
    refine g_iaload X hf dX12_vote_129 (fun v2 hf => ?_)
    refine g_istore (lv' := [(0, tR x0), (1, tI x1), (2, tI x2), (3, tI s0), (4, tI v2)]) X dX12_vote_130 (by decide) (in_pick [1, 2, 3, 4, 0] rfl) ?_
    refine g_aload_n X dX12_vote_132 0 rfl ?_
    refine g_aload_n X dX12_vote_133 0 rfl ?_
    refine g_getR X hf (T := TX12) rfl (by decide) (by decide) in_RX12 tb_1135 rfl dX12_vote_134 (fun v3 hf => ?_)
    refine g_bipush (v := 107) X dX12_vote_137 (by decide) ?_
    refine g_iload_n X dX12_vote_139 3 rfl ?_
    refine g_iadd X dX12_vote_140 ?_
    refine g_iaload X hf dX12_vote_141 (fun v4 hf => ?_)
    refine g_iload X dX12_vote_142 4 rfl ?_
    refine g_iconst (v := 2) X dX12_vote_144 (by decide) ?_
    refine g_iremc X dX12_vote_145 (by decide) ?_
    refine g_iconst (v := 1) X dX12_vote_146 (by decide) ?_
    refine g_icmpne (tgt := 162) X hf dX12_vote_147 (by decide) (fun hf => ?_) (fun hf => ?_)
    · refine g_aload_n X dX12_vote_150 0 rfl ?_
      refine g_getR X hf (T := TX12) rfl (by decide) (by decide) in_RX12 tb_1135 rfl dX12_vote_151 (fun v5 hf => ?_)
      refine g_bipush (v := 123) X dX12_vote_154 (by decide) ?_
      refine g_iload_n X dX12_vote_156 3 rfl ?_
      refine g_iadd X dX12_vote_157 ?_
      refine g_iaload X hf dX12_vote_158 (fun v6 hf => ?_)
      refine g_goto (tgt := 163) X dX12_vote_159 (by decide) ?_
      exact w_X12_vote_163 X hk75 x0 x1 x2 s0 v2 x0 v4 v6 h hf
    · refine g_iconst (v := 0) X dX12_vote_162 (by decide) ?_
      exact w_X12_vote_163 X hk75 x0 x1 x2 s0 v2 x0 v4 0 h hf
def b_X12_vote_75    : Nat → Option Nat → Int32 → Int32 → AH → Option (Int32 × AH)
  | 0 => fun _ _ _ _ => none
  | n + 1 => fun x0 x1 x2 h =>
    (gR 12 0 h x0).bind fun v1 =>
    (aI h v1 2).bind fun v2 =>
    if x2 < v2 then
      (gR 12 0 h x0).bind fun v3 =>
      (aI h v3 0).bind fun v4 =>
      (ck 12 h x0 (f_X12_doesCome x0 x2 v4 h)).bind fun v5 =>
      if v5 = 0 then
        b_X12_vote_115 (b_X12_vote_75 n) x0 x1 x2 (-1) h
      else
        (gR 12 0 h x0).bind fun v6 =>
        (aI h v6 0).bind fun v7 =>
        (ck 12 h x0 (f_X12_castOf x0 x2 v7 (-1) h)).bind fun v8 =>
        b_X12_vote_115 (b_X12_vote_75 n) x0 x1 x2 v8 h
    else
      some (x1, h)
set_option maxRecDepth 20000 in
theorem w_X12_vote_75 {K : KT} {w : (Int32 × AH)}   (X : CX K cX12_vote RX12 TB (some .int) "vote" (rmD 4 0 0) 5 0 0)  : ∀ (n : Nat) (x0 : Option Nat) (x1 : Int32) (x2 : Int32) (h : AH), b_X12_vote_75 n x0 x1 x2 h = some w → GG K (some (tI w.1), w.2) 0 0 75 [(0, tR x0), (1, tI x1), (2, tI x2)] [] h := by
  intro n
  induction n with
  | zero =>
    intro x0 x1 x2 h hf
    cases (show none = some w from hf)
  | succ n ih =>
    intro x0 x1 x2 h hf
    rw [b_X12_vote_75] at hf
    refine g_iload_n X dX12_vote_75 2 rfl ?_
    refine g_aload_n X dX12_vote_76 0 rfl ?_
    refine g_getR X hf (T := TX12) rfl (by decide) (by decide) in_RX12 tb_1135 rfl dX12_vote_77 (fun v1 hf => ?_)
    refine g_iconst (v := 2) X dX12_vote_80 (by decide) ?_
    refine g_iaload X hf dX12_vote_81 (fun v2 hf => ?_)
    refine g_icmpge (tgt := 221) X hf dX12_vote_82 (by decide) (fun hf => ?_) (fun hf => ?_)
    · refine g_aload_n X dX12_vote_85 0 rfl ?_
      refine g_iload_n X dX12_vote_86 2 rfl ?_
      refine g_aload_n X dX12_vote_87 0 rfl ?_
      refine g_getR X hf (T := TX12) rfl (by decide) (by decide) in_RX12 tb_1135 rfl dX12_vote_88 (fun v3 hf => ?_)
      refine g_iconst (v := 0) X dX12_vote_91 (by decide) ?_
      refine g_iaload X hf dX12_vote_92 (fun v4 hf => ?_)
      refine g_callV (n := 2) (av := [tI x2, tI v4]) (rest := []) (k := 12) X hf (fun v5 => (some (tI v5), h)) (fun _ q => m_X12_doesCome q) (gdV tb_1315 tb_1316 tb_1694 tb_12 tb_1317) rfl (by decide +kernel) rfl (by decide) rfl (by decide) (by decide) rfl (Nat.le_of_ble_eq_true rfl) dX12_vote_93 (fun v5 hf => ?_)
      refine g_ifeq (tgt := 114) X hf dX12_vote_96 (by decide) (fun hf => ?_) (fun hf => ?_)
      · refine g_iconst (v := (-1)) X dX12_vote_114 (by decide) ?_
        exact w_X12_vote_115 X ih x0 x1 x2 (-1) h hf
      · refine g_aload_n X dX12_vote_99 0 rfl ?_
        refine g_iload_n X dX12_vote_100 2 rfl ?_
        refine g_aload_n X dX12_vote_101 0 rfl ?_
        refine g_getR X hf (T := TX12) rfl (by decide) (by decide) in_RX12 tb_1135 rfl dX12_vote_102 (fun v6 hf => ?_)
        refine g_iconst (v := 0) X dX12_vote_105 (by decide) ?_
        refine g_iaload X hf dX12_vote_106 (fun v7 hf => ?_)
        refine g_iconst (v := (-1)) X dX12_vote_107 (by decide) ?_
        refine g_callV (n := 3) (av := [tI x2, tI v7, tI (-1)]) (rest := []) (k := 12) X hf (fun v8 => (some (tI v8), h)) (fun _ q => m_X12_castOf q) (gdV tb_1325 tb_1326 tb_1696 tb_12 tb_1327) rfl (by decide +kernel) rfl (by decide) rfl (by decide) (by decide) rfl (Nat.le_of_ble_eq_true rfl) dX12_vote_108 (fun v8 hf => ?_)
        refine g_goto (tgt := 115) X dX12_vote_111 (by decide) ?_
        exact w_X12_vote_115 X ih x0 x1 x2 v8 h hf
    · refine g_iload_n X dX12_vote_221 1 rfl ?_
      exact g_ireturn X (zW hf) (by decide) (by decide) dX12_vote_222
def b_X12_vote_49  (k4 : Option Nat → Int32 → Int32 → AH → Option (Int32 × AH)) (x0 : Option Nat) (x2 : Int32) (s0 : Int32) (s1 : Int32) (h : AH) : Option (Int32 × AH) :=
  k4 x0 (s0 + s1) (x2 + 1) h
set_option maxRecDepth 20000 in
theorem w_X12_vote_49 {K : KT} {w : (Int32 × AH)} {k4 : Option Nat → Int32 → Int32 → AH → Option (Int32 × AH)}  (X : CX K cX12_vote RX12 TB (some .int) "vote" (rmD 4 0 0) 5 0 0) (hk4 : ∀ (x0 : Option Nat) (x1 : Int32) (x2 : Int32) (h : AH), k4 x0 x1 x2 h = some w → GG K (some (tI w.1), w.2) 0 0 4 [(0, tR x0), (1, tI x1), (2, tI x2)] [] h) (x0 : Option Nat) (x2 : Int32) (s0 : Int32) (s1 : Int32) (h : AH) (hf : b_X12_vote_49 k4 x0 x2 s0 s1 h = some w) : GG K (some (tI w.1), w.2) 0 0 49 [(0, tR x0), (2, tI x2)] [tI s1, tI s0] h := by
  unfold b_X12_vote_49 at hf
  refine g_iadd X dX12_vote_49 ?_
  refine g_istore_n (lv' := [(0, tR x0), (1, tI (s0 + s1)), (2, tI x2)]) X dX12_vote_50 (by decide) (in_pick [1, 0, 2] rfl) ?_
  refine g_iinc (v := (x2 + 1)) (lv' := [(0, tR x0), (1, tI (s0 + s1)), (2, tI (x2 + 1))]) X dX12_vote_51 2 rfl (by rfl) (by decide) (in_pick [1, 2, 0] rfl) ?_
  refine g_goto (tgt := 4) X dX12_vote_54 (by decide) ?_
  exact hk4 x0 (s0 + s1) (x2 + 1) h hf
def b_X12_vote_4    : Nat → Option Nat → Int32 → Int32 → AH → Option (Int32 × AH)
  | 0 => fun _ _ _ _ => none
  | n + 1 => fun x0 x1 x2 h =>
    (gR 12 0 h x0).bind fun v1 =>
    (aI h v1 2).bind fun v2 =>
    if x2 < v2 then
      (gR 12 0 h x0).bind fun v3 =>
      (aI h v3 0).bind fun v4 =>
      (ck 12 h x0 (f_X12_doesCome x0 x2 v4 h)).bind fun v5 =>
      if v5 = 0 then
        b_X12_vote_49 (b_X12_vote_4 n) x0 x2 x1 0 h
      else
        (gR 12 0 h x0).bind fun v6 =>
        (aI h v6 0).bind fun v7 =>
        (ck 12 h x0 (f_X12_castOf x0 x2 v7 (-1) h)).bind fun v8 =>
        if v8 < 0 then
          b_X12_vote_49 (b_X12_vote_4 n) x0 x2 x1 0 h
        else
          b_X12_vote_49 (b_X12_vote_4 n) x0 x2 x1 1 h
    else
      (gR 12 0 h x0).bind fun v9 =>
      (aI h v9 5).bind fun v10 =>
      if 40 < (v10 + x1) then
        some ((-2), h)
      else
        b_X12_vote_75 FU x0 x1 0 h
set_option maxRecDepth 20000 in
theorem w_X12_vote_4 {K : KT} {w : (Int32 × AH)}   (X : CX K cX12_vote RX12 TB (some .int) "vote" (rmD 4 0 0) 5 0 0)  : ∀ (n : Nat) (x0 : Option Nat) (x1 : Int32) (x2 : Int32) (h : AH), b_X12_vote_4 n x0 x1 x2 h = some w → GG K (some (tI w.1), w.2) 0 0 4 [(0, tR x0), (1, tI x1), (2, tI x2)] [] h := by
  intro n
  induction n with
  | zero =>
    intro x0 x1 x2 h hf
    cases (show none = some w from hf)
  | succ n ih =>
    intro x0 x1 x2 h hf
    rw [b_X12_vote_4] at hf
    refine g_iload_n X dX12_vote_4 2 rfl ?_
    refine g_aload_n X dX12_vote_5 0 rfl ?_
    refine g_getR X hf (T := TX12) rfl (by decide) (by decide) in_RX12 tb_1135 rfl dX12_vote_6 (fun v1 hf => ?_)
    refine g_iconst (v := 2) X dX12_vote_9 (by decide) ?_
    refine g_iaload X hf dX12_vote_10 (fun v2 hf => ?_)
    refine g_icmpge (tgt := 57) X hf dX12_vote_11 (by decide) (fun hf => ?_) (fun hf => ?_)
    · refine g_iload_n X dX12_vote_14 1 rfl ?_
      refine g_aload_n X dX12_vote_15 0 rfl ?_
      refine g_iload_n X dX12_vote_16 2 rfl ?_
      refine g_aload_n X dX12_vote_17 0 rfl ?_
      refine g_getR X hf (T := TX12) rfl (by decide) (by decide) in_RX12 tb_1135 rfl dX12_vote_18 (fun v3 hf => ?_)
      refine g_iconst (v := 0) X dX12_vote_21 (by decide) ?_
      refine g_iaload X hf dX12_vote_22 (fun v4 hf => ?_)
      refine g_callV (n := 2) (av := [tI x2, tI v4]) (rest := [tI x1]) (k := 12) X hf (fun v5 => (some (tI v5), h)) (fun _ q => m_X12_doesCome q) (gdV tb_1315 tb_1316 tb_1694 tb_12 tb_1317) rfl (by decide +kernel) rfl (by decide) rfl (by decide) (by decide) rfl (Nat.le_of_ble_eq_true rfl) dX12_vote_23 (fun v5 hf => ?_)
      refine g_ifeq (tgt := 48) X hf dX12_vote_26 (by decide) (fun hf => ?_) (fun hf => ?_)
      · refine g_iconst (v := 0) X dX12_vote_48 (by decide) ?_
        refine g_locs (lv' := [(0, tR x0), (2, tI x2)]) (in_pick [0, 2] rfl) ?_
        exact w_X12_vote_49 X ih x0 x2 x1 0 h hf
      · refine g_aload_n X dX12_vote_29 0 rfl ?_
        refine g_iload_n X dX12_vote_30 2 rfl ?_
        refine g_aload_n X dX12_vote_31 0 rfl ?_
        refine g_getR X hf (T := TX12) rfl (by decide) (by decide) in_RX12 tb_1135 rfl dX12_vote_32 (fun v6 hf => ?_)
        refine g_iconst (v := 0) X dX12_vote_35 (by decide) ?_
        refine g_iaload X hf dX12_vote_36 (fun v7 hf => ?_)
        refine g_iconst (v := (-1)) X dX12_vote_37 (by decide) ?_
        refine g_callV (n := 3) (av := [tI x2, tI v7, tI (-1)]) (rest := [tI x1]) (k := 12) X hf (fun v8 => (some (tI v8), h)) (fun _ q => m_X12_castOf q) (gdV tb_1325 tb_1326 tb_1696 tb_12 tb_1327) rfl (by decide +kernel) rfl (by decide) rfl (by decide) (by decide) rfl (Nat.le_of_ble_eq_true rfl) dX12_vote_38 (fun v8 hf => ?_)
        refine g_iflt (tgt := 48) X hf dX12_vote_41 (by decide) (fun hf => ?_) (fun hf => ?_)
        · refine g_iconst (v := 0) X dX12_vote_48 (by decide) ?_
          refine g_locs (lv' := [(0, tR x0), (2, tI x2)]) (in_pick [0, 2] rfl) ?_
          exact w_X12_vote_49 X ih x0 x2 x1 0 h hf
        · refine g_iconst (v := 1) X dX12_vote_44 (by decide) ?_
          refine g_goto (tgt := 49) X dX12_vote_45 (by decide) ?_
          refine g_locs (lv' := [(0, tR x0), (2, tI x2)]) (in_pick [0, 2] rfl) ?_
          exact w_X12_vote_49 X ih x0 x2 x1 1 h hf
    · refine g_aload_n X dX12_vote_57 0 rfl ?_
      refine g_getR X hf (T := TX12) rfl (by decide) (by decide) in_RX12 tb_1135 rfl dX12_vote_58 (fun v9 hf => ?_)
      refine g_iconst (v := 5) X dX12_vote_61 (by decide) ?_
      refine g_iaload X hf dX12_vote_62 (fun v10 hf => ?_)
      refine g_iload_n X dX12_vote_63 1 rfl ?_
      refine g_iadd X dX12_vote_64 ?_
      refine g_bipush (v := 40) X dX12_vote_65 (by decide) ?_
      refine g_icmple (tgt := 73) X hf dX12_vote_67 (by decide) (fun hf => ?_) (fun hf => ?_)
      · refine g_bipush (v := (-2)) X dX12_vote_70 (by decide) ?_
        exact g_ireturn X (zW hf) (by decide) (by decide) dX12_vote_72
      · refine g_iconst (v := 0) X dX12_vote_73 (by decide) ?_
        refine g_istore_n (lv' := [(0, tR x0), (1, tI x1), (2, tI 0)]) X dX12_vote_74 (by decide) (in_pick [1, 2, 0] rfl) ?_
        exact w_X12_vote_75 X FU x0 x1 0 h hf
def f_X12_vote  (a0 : Option Nat) (h : AH) : Option (Int32 × AH) :=
  b_X12_vote_4 FU a0 0 0 h
set_option maxRecDepth 20000 in
theorem m_X12_vote  {a0 : Option Nat} {h : AH} {w : (Int32 × AH)} (hf : f_X12_vote a0 h = some w) : CT yX12_vote (wU yX12_vote cX12_vote 5 (some .int)) (rmD 4 0 0) 0 0 [tR a0] h (some (tI w.1), w.2) := by
  refine CT.of (cc := cX12_vote) (nL := 5) (ret := (some .int)) (by decide) (by simp [lg_sl, vOf_cat, wOf]) ?_
  intro K X
  refine g_locs (lv' := [(0, tR a0)]) (fun q hq => hq) ?_
  unfold f_X12_vote at hf
  refine g_iconst (v := 0) X dX12_vote_0 (by decide) ?_
  refine g_istore_n (lv' := [(0, tR a0), (1, tI 0)]) X dX12_vote_1 (by decide) (in_pick [1, 0] rfl) ?_
  refine g_iconst (v := 0) X dX12_vote_2 (by decide) ?_
  refine g_istore_n (lv' := [(0, tR a0), (1, tI 0), (2, tI 0)]) X dX12_vote_3 (by decide) (in_pick [1, 2, 0] rfl) ?_
  exact w_X12_vote_4 X FU a0 0 0 h hf
def f_X12_thrown  (a0 : Option Nat) (a1 : Int32) (h : AH) : Option (Int32 × AH) :=
  (ck 12 h a0 (f_X12_isSherd a0 a1 h)).bind fun v1 =>
  if v1 = 0 then
    some ((-1), h)
  else
    (gR 12 0 h a0).bind fun v2 =>
    (aI h v2 (971 + a1)).bind fun v3 =>
    if v3 < 0 then
      (gR 12 0 h a0).bind fun v4 =>
      (gR 12 0 h a0).bind fun v5 =>
      (aI h v5 0).bind fun v6 =>
      (sI h v4 (971 + a1) v6).bind fun h7 =>
      some (1, h7)
    else
      some ((-4), h)
set_option maxRecDepth 20000 in
theorem m_X12_thrown  {a0 : Option Nat} {a1 : Int32} {h : AH} {w : (Int32 × AH)} (hf : f_X12_thrown a0 a1 h = some w) : CT yX12_thrown (wU yX12_thrown cX12_thrown 2 (some .int)) (rmD 3 0 0) 0 0 [tR a0, tI a1] h (some (tI w.1), w.2) := by
  refine CT.of (cc := cX12_thrown) (nL := 2) (ret := (some .int)) (by decide) (by simp [lg_sl, vOf_cat, wOf]) ?_
  intro K X
  refine g_locs (lv' := [(0, tR a0), (1, tI a1)]) (fun q hq => hq) ?_
  unfold f_X12_thrown at hf
  refine g_aload_n X dX12_thrown_0 0 rfl ?_
  refine g_iload_n X dX12_thrown_1 1 rfl ?_
  refine g_callV (n := 1) (av := [tI a1]) (rest := []) (k := 12) X hf (fun v1 => (some (tI v1), h)) (fun _ q => m_X12_isSherd q) (gdV tb_1343 tb_1344 tb_1698 tb_12 tb_1345) rfl (by decide +kernel) rfl (by decide) rfl (by decide) (by decide) rfl (Nat.le_of_ble_eq_true rfl) dX12_thrown_2 (fun v1 hf => ?_)
  refine g_ifne (tgt := 10) X hf dX12_thrown_5 (by decide) (fun hf => ?_) (fun hf => ?_)
  · refine g_iconst (v := (-1)) X dX12_thrown_8 (by decide) ?_
    exact g_ireturn X (zW hf) (by decide) (by decide) dX12_thrown_9
  · refine g_aload_n X dX12_thrown_10 0 rfl ?_
    refine g_getR X hf (T := TX12) rfl (by decide) (by decide) in_RX12 tb_1135 rfl dX12_thrown_11 (fun v2 hf => ?_)
    refine g_sipush (v := 971) X dX12_thrown_14 (by decide) ?_
    refine g_iload_n X dX12_thrown_17 1 rfl ?_
    refine g_iadd X dX12_thrown_18 ?_
    refine g_iaload X hf dX12_thrown_19 (fun v3 hf => ?_)
    refine g_iflt (tgt := 26) X hf dX12_thrown_20 (by decide) (fun hf => ?_) (fun hf => ?_)
    · refine g_aload_n X dX12_thrown_26 0 rfl ?_
      refine g_getR X hf (T := TX12) rfl (by decide) (by decide) in_RX12 tb_1135 rfl dX12_thrown_27 (fun v4 hf => ?_)
      refine g_sipush (v := 971) X dX12_thrown_30 (by decide) ?_
      refine g_iload_n X dX12_thrown_33 1 rfl ?_
      refine g_iadd X dX12_thrown_34 ?_
      refine g_aload_n X dX12_thrown_35 0 rfl ?_
      refine g_getR X hf (T := TX12) rfl (by decide) (by decide) in_RX12 tb_1135 rfl dX12_thrown_36 (fun v5 hf => ?_)
      refine g_iconst (v := 0) X dX12_thrown_39 (by decide) ?_
      refine g_iaload X hf dX12_thrown_40 (fun v6 hf => ?_)
      refine g_iastore X hf dX12_thrown_41 (fun h7 hf => ?_)
      refine g_iconst (v := 1) X dX12_thrown_42 (by decide) ?_
      exact g_ireturn X (zW hf) (by decide) (by decide) dX12_thrown_43
    · refine g_bipush (v := (-4)) X dX12_thrown_23 (by decide) ?_
      exact g_ireturn X (zW hf) (by decide) (by decide) dX12_thrown_25
def b_X12_letters_4    : Nat → Option Nat → Int32 → Int32 → AH → Option (Int32 × AH)
  | 0 => fun _ _ _ _ => none
  | n + 1 => fun x1 x2 x3 h =>
    if 0 < x3 then
      (sI h x1 x2 (iRem x3 27)).bind fun h1 =>
      b_X12_letters_4 n x1 (x2 + 1) (x3 / 27) h1
    else
      some (x2, h)
set_option maxRecDepth 20000 in
theorem w_X12_letters_4 {K : KT} {w : (Int32 × AH)}   (X : CX K cX12_letters RX12 TB (some .int) "letters" (rmD 1 0 0) 4 0 0)  : ∀ (n : Nat) (x1 : Option Nat) (x2 : Int32) (x3 : Int32) (h : AH), b_X12_letters_4 n x1 x2 x3 h = some w → GG K (some (tI w.1), w.2) 0 0 4 [(1, tR x1), (2, tI x2), (3, tI x3)] [] h := by
  intro n
  induction n with
  | zero =>
    intro x1 x2 x3 h hf
    cases (show none = some w from hf)
  | succ n ih =>
    intro x1 x2 x3 h hf
    rw [b_X12_letters_4] at hf
    refine g_iload_n X dX12_letters_4 2 rfl ?_
    refine g_ifle (tgt := 26) X hf dX12_letters_5 (by decide) (fun hf => ?_) (fun hf => ?_)
    · refine g_aload_n X dX12_letters_8 0 rfl ?_
      refine g_iload_n X dX12_letters_9 1 rfl ?_
      refine g_iload_n X dX12_letters_10 2 rfl ?_
      refine g_bipush (v := 27) X dX12_letters_11 (by decide) ?_
      refine g_iremc X dX12_letters_13 (by decide) ?_
      refine g_iastore X hf dX12_letters_14 (fun h1 hf => ?_)
      refine g_iinc (v := (x2 + 1)) (lv' := [(1, tR x1), (2, tI (x2 + 1)), (3, tI x3)]) X dX12_letters_15 1 rfl (by rfl) (by decide) (in_pick [1, 0, 2] rfl) ?_
      refine g_iload_n X dX12_letters_18 2 rfl ?_
      refine g_bipush (v := 27) X dX12_letters_19 (by decide) ?_
      refine g_idivc X dX12_letters_21 (by decide) ?_
      refine g_istore_n (lv' := [(1, tR x1), (2, tI (x2 + 1)), (3, tI (x3 / 27))]) X dX12_letters_22 (by decide) (in_pick [1, 2, 0] rfl) ?_
      refine g_goto (tgt := 4) X dX12_letters_23 (by decide) ?_
      exact ih x1 (x2 + 1) (x3 / 27) h1 hf
    · refine g_iload_n X dX12_letters_26 1 rfl ?_
      exact g_ireturn X (zW hf) (by decide) (by decide) dX12_letters_27
def f_X12_letters  (a0 : Int32) (a1 : Option Nat) (h : AH) : Option (Int32 × AH) :=
  b_X12_letters_4 FU a1 0 a0 h
set_option maxRecDepth 20000 in
theorem m_X12_letters  {a0 : Int32} {a1 : Option Nat} {h : AH} {w : (Int32 × AH)} (hf : f_X12_letters a0 a1 h = some w) : CT yX12_letters (wU yX12_letters cX12_letters 4 (some .int)) (rmD 1 0 0) 0 0 [tI a0, tR a1] h (some (tI w.1), w.2) := by
  refine CT.of (cc := cX12_letters) (nL := 4) (ret := (some .int)) (by decide) (by simp [lg_sl, vOf_cat, wOf]) ?_
  intro K X
  refine g_locs (lv' := [(0, tI a0), (1, tR a1)]) (fun q hq => hq) ?_
  unfold f_X12_letters at hf
  refine g_iconst (v := 0) X dX12_letters_0 (by decide) ?_
  refine g_istore_n (lv' := [(0, tI a0), (1, tR a1), (2, tI 0)]) X dX12_letters_1 (by decide) (in_pick [1, 2, 0] rfl) ?_
  refine g_iload_n X dX12_letters_2 0 rfl ?_
  refine g_istore_n (lv' := [(0, tI a0), (1, tR a1), (2, tI 0), (3, tI a0)]) X dX12_letters_3 (by decide) (in_pick [1, 2, 3, 0] rfl) ?_
  refine g_locs (lv' := [(1, tR a1), (2, tI 0), (3, tI a0)]) (in_pick [1, 2, 3] rfl) ?_
  exact w_X12_letters_4 X FU a1 0 a0 h hf
def b_X12_apartBy_206  (k22 : Option Nat → Int32 → Int32 → Int32 → AH → Option (Int32 × AH)) (k31 : Option Nat → Int32 → Int32 → Int32 → Int32 → AH → Option (Int32 × AH)) (x0 : Option Nat) (x3 : Int32) (x4 : Int32) (x5 : Int32) (x6 : Int32) (x7 : Int32) (h : AH) : Option (Int32 × AH) :=
  (gR 12 7 h x0).bind fun v1 =>
  (sI h v1 ((7 * x5) + x6) x7).bind fun h2 =>
  k31 x0 x3 x4 x5 (x6 + 1) h2
set_option maxRecDepth 20000 in
theorem w_X12_apartBy_206 {K : KT} {w : (Int32 × AH)} {k22 : Option Nat → Int32 → Int32 → Int32 → AH → Option (Int32 × AH)} {k31 : Option Nat → Int32 → Int32 → Int32 → Int32 → AH → Option (Int32 × AH)}  (X : CX K cX12_apartBy RX12 TB (some .int) "apartBy" (rmD 2 0 0) 8 0 0) (hk22 : ∀ (x0 : Option Nat) (x3 : Int32) (x4 : Int32) (x5 : Int32) (h : AH), k22 x0 x3 x4 x5 h = some w → GG K (some (tI w.1), w.2) 0 0 22 [(0, tR x0), (3, tI x3), (4, tI x4), (5, tI x5)] [] h) (hk31 : ∀ (x0 : Option Nat) (x3 : Int32) (x4 : Int32) (x5 : Int32) (x6 : Int32) (h : AH), k31 x0 x3 x4 x5 x6 h = some w → GG K (some (tI w.1), w.2) 0 0 31 [(0, tR x0), (3, tI x3), (4, tI x4), (5, tI x5), (6, tI x6)] [] h) (x0 : Option Nat) (x3 : Int32) (x4 : Int32) (x5 : Int32) (x6 : Int32) (x7 : Int32) (h : AH) (hf : b_X12_apartBy_206 k22 k31 x0 x3 x4 x5 x6 x7 h = some w) : GG K (some (tI w.1), w.2) 0 0 206 [(0, tR x0), (3, tI x3), (4, tI x4), (5, tI x5), (6, tI x6), (7, tI x7)] [] h := by
  unfold b_X12_apartBy_206 at hf
  refine g_aload_n X dX12_apartBy_206 0 rfl ?_
  refine g_getR X hf (T := TX12) rfl (by decide) (by decide) in_RX12 tb_1142 rfl dX12_apartBy_207 (fun v1 hf => ?_)
  refine g_bipush (v := 7) X dX12_apartBy_210 (by decide) ?_
  refine g_iload X dX12_apartBy_212 3 rfl ?_
  refine g_imul X dX12_apartBy_214 ?_
  refine g_iload X dX12_apartBy_215 4 rfl ?_
  refine g_iadd X dX12_apartBy_217 ?_
  refine g_iload X dX12_apartBy_218 5 rfl ?_
  refine g_iastore X hf dX12_apartBy_220 (fun h2 hf => ?_)
  refine g_iinc (v := (x6 + 1)) (lv' := [(0, tR x0), (3, tI x3), (4, tI x4), (5, tI x5), (6, tI (x6 + 1)), (7, tI x7)]) X dX12_apartBy_221 4 rfl (by rfl) (by decide) (in_pick [1, 2, 3, 4, 0, 5] rfl) ?_
  refine g_goto (tgt := 31) X dX12_apartBy_224 (by decide) ?_
  refine g_locs (lv' := [(0, tR x0), (3, tI x3), (4, tI x4), (5, tI x5), (6, tI (x6 + 1))]) (in_pick [0, 1, 2, 3, 4] rfl) ?_
  exact hk31 x0 x3 x4 x5 (x6 + 1) h2 hf
def b_X12_apartBy_158  (k22 : Option Nat → Int32 → Int32 → Int32 → AH → Option (Int32 × AH)) (k31 : Option Nat → Int32 → Int32 → Int32 → Int32 → AH → Option (Int32 × AH)) (x0 : Option Nat) (x3 : Int32) (x4 : Int32) (x5 : Int32) (x6 : Int32) (s0 : Int32) (h : AH) : Option (Int32 × AH) :=
  (gR 12 7 h x0).bind fun v1 =>
  (aI h v1 (((7 * x5) + x6) - 1)).bind fun v2 =>
  if (v2 + 1) < s0 then
    (gR 12 7 h x0).bind fun v3 =>
    (aI h v3 (((7 * x5) + x6) - 1)).bind fun v4 =>
    b_X12_apartBy_206 k22 k31 x0 x3 x4 x5 x6 (v4 + 1) h
  else
    b_X12_apartBy_206 k22 k31 x0 x3 x4 x5 x6 s0 h
set_option maxRecDepth 20000 in
theorem w_X12_apartBy_158 {K : KT} {w : (Int32 × AH)} {k22 : Option Nat → Int32 → Int32 → Int32 → AH → Option (Int32 × AH)} {k31 : Option Nat → Int32 → Int32 → Int32 → Int32 → AH → Option (Int32 × AH)}  (X : CX K cX12_apartBy RX12 TB (some .int) "apartBy" (rmD 2 0 0) 8 0 0) (hk22 : ∀ (x0 : Option Nat) (x3 : Int32) (x4 : Int32) (x5 : Int32) (h : AH), k22 x0 x3 x4 x5 h = some w → GG K (some (tI w.1), w.2) 0 0 22 [(0, tR x0), (3, tI x3), (4, tI x4), (5, tI x5)] [] h) (hk31 : ∀ (x0 : Option Nat) (x3 : Int32) (x4 : Int32) (x5 : Int32) (x6 : Int32) (h : AH), k31 x0 x3 x4 x5 x6 h = some w → GG K (some (tI w.1), w.2) 0 0 31 [(0, tR x0), (3, tI x3), (4, tI x4), (5, tI x5), (6, tI x6)] [] h) (x0 : Option Nat) (x3 : Int32) (x4 : Int32) (x5 : Int32) (x6 : Int32) (s0 : Int32) (h : AH) (hf : b_X12_apartBy_158 k22 k31 x0 x3 x4 x5 x6 s0 h = some w) : GG K (some (tI w.1), w.2) 0 0 158 [(0, tR x0), (3, tI x3), (4, tI x4), (5, tI x5), (6, tI x6)] [tI s0] h := by
  unfold b_X12_apartBy_158 at hf
  refine g_istore (lv' := [(0, tR x0), (3, tI x3), (4, tI x4), (5, tI x5), (6, tI x6), (7, tI s0)]) X dX12_apartBy_158 (by decide) (in_pick [1, 2, 3, 4, 5, 0] rfl) ?_
  refine g_aload_n X dX12_apartBy_160 0 rfl ?_
  refine g_getR X hf (T := TX12) rfl (by decide) (by decide) in_RX12 tb_1142 rfl dX12_apartBy_161 (fun v1 hf => ?_)
  refine g_bipush (v := 7) X dX12_apartBy_164 (by decide) ?_
  refine g_iload X dX12_apartBy_166 3 rfl ?_
  refine g_imul X dX12_apartBy_168 ?_
  refine g_iload X dX12_apartBy_169 4 rfl ?_
  refine g_iadd X dX12_apartBy_171 ?_
  refine g_iconst (v := 1) X dX12_apartBy_172 (by decide) ?_
  refine g_isub X dX12_apartBy_173 ?_
  refine g_iaload X hf dX12_apartBy_174 (fun v2 hf => ?_)
  refine g_iconst (v := 1) X dX12_apartBy_175 (by decide) ?_
  refine g_iadd X dX12_apartBy_176 ?_
  refine g_iload X dX12_apartBy_177 5 rfl ?_
  refine g_icmpge (tgt := 202) X hf dX12_apartBy_179 (by decide) (fun hf => ?_) (fun hf => ?_)
  · refine g_aload_n X dX12_apartBy_182 0 rfl ?_
    refine g_getR X hf (T := TX12) rfl (by decide) (by decide) in_RX12 tb_1142 rfl dX12_apartBy_183 (fun v3 hf => ?_)
    refine g_bipush (v := 7) X dX12_apartBy_186 (by decide) ?_
    refine g_iload X dX12_apartBy_188 3 rfl ?_
    refine g_imul X dX12_apartBy_190 ?_
    refine g_iload X dX12_apartBy_191 4 rfl ?_
    refine g_iadd X dX12_apartBy_193 ?_
    refine g_iconst (v := 1) X dX12_apartBy_194 (by decide) ?_
    refine g_isub X dX12_apartBy_195 ?_
    refine g_iaload X hf dX12_apartBy_196 (fun v4 hf => ?_)
    refine g_iconst (v := 1) X dX12_apartBy_197 (by decide) ?_
    refine g_iadd X dX12_apartBy_198 ?_
    refine g_goto (tgt := 204) X dX12_apartBy_199 (by decide) ?_
    refine g_istore (lv' := [(0, tR x0), (3, tI x3), (4, tI x4), (5, tI x5), (6, tI x6), (7, tI (v4 + 1))]) X dX12_apartBy_204 (by decide) (in_pick [1, 2, 3, 4, 5, 0] rfl) ?_
    exact w_X12_apartBy_206 X hk22 hk31 x0 x3 x4 x5 x6 (v4 + 1) h hf
  · refine g_iload X dX12_apartBy_202 5 rfl ?_
    refine g_istore (lv' := [(0, tR x0), (3, tI x3), (4, tI x4), (5, tI x5), (6, tI x6), (7, tI s0)]) X dX12_apartBy_204 (by decide) (in_pick [1, 2, 3, 4, 5, 0] rfl) ?_
    exact w_X12_apartBy_206 X hk22 hk31 x0 x3 x4 x5 x6 s0 h hf
def b_X12_apartBy_102  (k22 : Option Nat → Int32 → Int32 → Int32 → AH → Option (Int32 × AH)) (k31 : Option Nat → Int32 → Int32 → Int32 → Int32 → AH → Option (Int32 × AH)) (x0 : Option Nat) (x3 : Int32) (x4 : Int32) (x5 : Int32) (x6 : Int32) (s0 : Int32) (h : AH) : Option (Int32 × AH) :=
  if 0 < x5 then
    if 0 < x6 then
      (gR 12 7 h x0).bind fun v1 =>
      (aI h v1 ((7 * (x5 - 1)) + x6)).bind fun v2 =>
      if (v2 + 1) < s0 then
        (gR 12 7 h x0).bind fun v3 =>
        (aI h v3 ((7 * (x5 - 1)) + x6)).bind fun v4 =>
        b_X12_apartBy_158 k22 k31 x0 x3 x4 x5 x6 (v4 + 1) h
      else
        b_X12_apartBy_158 k22 k31 x0 x3 x4 x5 x6 s0 h
    else
      b_X12_apartBy_206 k22 k31 x0 x3 x4 x5 x6 s0 h
  else
    b_X12_apartBy_206 k22 k31 x0 x3 x4 x5 x6 s0 h
set_option maxRecDepth 20000 in
theorem w_X12_apartBy_102 {K : KT} {w : (Int32 × AH)} {k22 : Option Nat → Int32 → Int32 → Int32 → AH → Option (Int32 × AH)} {k31 : Option Nat → Int32 → Int32 → Int32 → Int32 → AH → Option (Int32 × AH)}  (X : CX K cX12_apartBy RX12 TB (some .int) "apartBy" (rmD 2 0 0) 8 0 0) (hk22 : ∀ (x0 : Option Nat) (x3 : Int32) (x4 : Int32) (x5 : Int32) (h : AH), k22 x0 x3 x4 x5 h = some w → GG K (some (tI w.1), w.2) 0 0 22 [(0, tR x0), (3, tI x3), (4, tI x4), (5, tI x5)] [] h) (hk31 : ∀ (x0 : Option Nat) (x3 : Int32) (x4 : Int32) (x5 : Int32) (x6 : Int32) (h : AH), k31 x0 x3 x4 x5 x6 h = some w → GG K (some (tI w.1), w.2) 0 0 31 [(0, tR x0), (3, tI x3), (4, tI x4), (5, tI x5), (6, tI x6)] [] h) (x0 : Option Nat) (x3 : Int32) (x4 : Int32) (x5 : Int32) (x6 : Int32) (s0 : Int32) (h : AH) (hf : b_X12_apartBy_102 k22 k31 x0 x3 x4 x5 x6 s0 h = some w) : GG K (some (tI w.1), w.2) 0 0 102 [(0, tR x0), (3, tI x3), (4, tI x4), (5, tI x5), (6, tI x6)] [tI s0] h := by
  unfold b_X12_apartBy_102 at hf
  refine g_istore (lv' := [(0, tR x0), (3, tI x3), (4, tI x4), (5, tI x5), (6, tI x6), (7, tI s0)]) X dX12_apartBy_102 (by decide) (in_pick [1, 2, 3, 4, 5, 0] rfl) ?_
  refine g_iload X dX12_apartBy_104 3 rfl ?_
  refine g_ifle (tgt := 206) X hf dX12_apartBy_106 (by decide) (fun hf => ?_) (fun hf => ?_)
  · refine g_iload X dX12_apartBy_109 4 rfl ?_
    refine g_ifle (tgt := 206) X hf dX12_apartBy_111 (by decide) (fun hf => ?_) (fun hf => ?_)
    · refine g_aload_n X dX12_apartBy_114 0 rfl ?_
      refine g_getR X hf (T := TX12) rfl (by decide) (by decide) in_RX12 tb_1142 rfl dX12_apartBy_115 (fun v1 hf => ?_)
      refine g_bipush (v := 7) X dX12_apartBy_118 (by decide) ?_
      refine g_iload X dX12_apartBy_120 3 rfl ?_
      refine g_iconst (v := 1) X dX12_apartBy_122 (by decide) ?_
      refine g_isub X dX12_apartBy_123 ?_
      refine g_imul X dX12_apartBy_124 ?_
      refine g_iload X dX12_apartBy_125 4 rfl ?_
      refine g_iadd X dX12_apartBy_127 ?_
      refine g_iaload X hf dX12_apartBy_128 (fun v2 hf => ?_)
      refine g_iconst (v := 1) X dX12_apartBy_129 (by decide) ?_
      refine g_iadd X dX12_apartBy_130 ?_
      refine g_iload X dX12_apartBy_131 5 rfl ?_
      refine g_icmpge (tgt := 156) X hf dX12_apartBy_133 (by decide) (fun hf => ?_) (fun hf => ?_)
      · refine g_aload_n X dX12_apartBy_136 0 rfl ?_
        refine g_getR X hf (T := TX12) rfl (by decide) (by decide) in_RX12 tb_1142 rfl dX12_apartBy_137 (fun v3 hf => ?_)
        refine g_bipush (v := 7) X dX12_apartBy_140 (by decide) ?_
        refine g_iload X dX12_apartBy_142 3 rfl ?_
        refine g_iconst (v := 1) X dX12_apartBy_144 (by decide) ?_
        refine g_isub X dX12_apartBy_145 ?_
        refine g_imul X dX12_apartBy_146 ?_
        refine g_iload X dX12_apartBy_147 4 rfl ?_
        refine g_iadd X dX12_apartBy_149 ?_
        refine g_iaload X hf dX12_apartBy_150 (fun v4 hf => ?_)
        refine g_iconst (v := 1) X dX12_apartBy_151 (by decide) ?_
        refine g_iadd X dX12_apartBy_152 ?_
        refine g_goto (tgt := 158) X dX12_apartBy_153 (by decide) ?_
        refine g_locs (lv' := [(0, tR x0), (3, tI x3), (4, tI x4), (5, tI x5), (6, tI x6)]) (in_pick [0, 1, 2, 3, 4] rfl) ?_
        exact w_X12_apartBy_158 X hk22 hk31 x0 x3 x4 x5 x6 (v4 + 1) h hf
      · refine g_iload X dX12_apartBy_156 5 rfl ?_
        refine g_locs (lv' := [(0, tR x0), (3, tI x3), (4, tI x4), (5, tI x5), (6, tI x6)]) (in_pick [0, 1, 2, 3, 4] rfl) ?_
        exact w_X12_apartBy_158 X hk22 hk31 x0 x3 x4 x5 x6 s0 h hf
    · exact w_X12_apartBy_206 X hk22 hk31 x0 x3 x4 x5 x6 s0 h hf
  · exact w_X12_apartBy_206 X hk22 hk31 x0 x3 x4 x5 x6 s0 h hf
def b_X12_apartBy_31  (k22 : Option Nat → Int32 → Int32 → Int32 → AH → Option (Int32 × AH))  : Nat → Option Nat → Int32 → Int32 → Int32 → Int32 → AH → Option (Int32 × AH)
  | 0 => fun _ _ _ _ _ _ => none
  | n + 1 => fun x0 x3 x4 x5 x6 h =>
    if x4 < x6 then
      k22 x0 x3 x4 (x5 + 1) h
    else
      if x5 = 0 then
        b_X12_apartBy_102 k22 (b_X12_apartBy_31 k22 n) x0 x3 x4 x5 x6 x6 h
      else
        if x6 = 0 then
          b_X12_apartBy_102 k22 (b_X12_apartBy_31 k22 n) x0 x3 x4 x5 x6 x5 h
        else
          (gR 12 7 h x0).bind fun v1 =>
          (aI h v1 (((7 * (x5 - 1)) + x6) - 1)).bind fun v2 =>
          (gR 12 5 h x0).bind fun v3 =>
          (aI h v3 (x5 - 1)).bind fun v4 =>
          (gR 12 6 h x0).bind fun v5 =>
          (aI h v5 (x6 - 1)).bind fun v6 =>
          if v4 = v6 then
            b_X12_apartBy_102 k22 (b_X12_apartBy_31 k22 n) x0 x3 x4 x5 x6 (v2 + 0) h
          else
            b_X12_apartBy_102 k22 (b_X12_apartBy_31 k22 n) x0 x3 x4 x5 x6 (v2 + 1) h
set_option maxRecDepth 20000 in
theorem w_X12_apartBy_31 {K : KT} {w : (Int32 × AH)} {k22 : Option Nat → Int32 → Int32 → Int32 → AH → Option (Int32 × AH)}  (X : CX K cX12_apartBy RX12 TB (some .int) "apartBy" (rmD 2 0 0) 8 0 0) (hk22 : ∀ (x0 : Option Nat) (x3 : Int32) (x4 : Int32) (x5 : Int32) (h : AH), k22 x0 x3 x4 x5 h = some w → GG K (some (tI w.1), w.2) 0 0 22 [(0, tR x0), (3, tI x3), (4, tI x4), (5, tI x5)] [] h) : ∀ (n : Nat) (x0 : Option Nat) (x3 : Int32) (x4 : Int32) (x5 : Int32) (x6 : Int32) (h : AH), b_X12_apartBy_31 k22 n x0 x3 x4 x5 x6 h = some w → GG K (some (tI w.1), w.2) 0 0 31 [(0, tR x0), (3, tI x3), (4, tI x4), (5, tI x5), (6, tI x6)] [] h := by
  intro n
  induction n with
  | zero =>
    intro x0 x3 x4 x5 x6 h hf
    cases (show none = some w from hf)
  | succ n ih =>
    intro x0 x3 x4 x5 x6 h hf
    rw [b_X12_apartBy_31] at hf
    refine g_iload X dX12_apartBy_31 4 rfl ?_
    refine g_iload X dX12_apartBy_33 2 rfl ?_
    refine g_icmpgt (tgt := 227) X hf dX12_apartBy_35 (by decide) (fun hf => ?_) (fun hf => ?_)
    · refine g_iinc (v := (x5 + 1)) (lv' := [(0, tR x0), (3, tI x3), (4, tI x4), (5, tI (x5 + 1)), (6, tI x6)]) X dX12_apartBy_227 3 rfl (by rfl) (by decide) (in_pick [1, 2, 3, 0, 4] rfl) ?_
      refine g_goto (tgt := 22) X dX12_apartBy_230 (by decide) ?_
      refine g_locs (lv' := [(0, tR x0), (3, tI x3), (4, tI x4), (5, tI (x5 + 1))]) (in_pick [0, 1, 2, 3] rfl) ?_
      exact hk22 x0 x3 x4 (x5 + 1) h hf
    · refine g_iload X dX12_apartBy_38 3 rfl ?_
      refine g_ifne (tgt := 48) X hf dX12_apartBy_40 (by decide) (fun hf => ?_) (fun hf => ?_)
      · refine g_iload X dX12_apartBy_43 4 rfl ?_
        refine g_goto (tgt := 102) X dX12_apartBy_45 (by decide) ?_
        exact w_X12_apartBy_102 X hk22 ih x0 x3 x4 x5 x6 x6 h hf
      · refine g_iload X dX12_apartBy_48 4 rfl ?_
        refine g_ifne (tgt := 58) X hf dX12_apartBy_50 (by decide) (fun hf => ?_) (fun hf => ?_)
        · refine g_iload X dX12_apartBy_53 3 rfl ?_
          refine g_goto (tgt := 102) X dX12_apartBy_55 (by decide) ?_
          exact w_X12_apartBy_102 X hk22 ih x0 x3 x4 x5 x6 x5 h hf
        · refine g_aload_n X dX12_apartBy_58 0 rfl ?_
          refine g_getR X hf (T := TX12) rfl (by decide) (by decide) in_RX12 tb_1142 rfl dX12_apartBy_59 (fun v1 hf => ?_)
          refine g_bipush (v := 7) X dX12_apartBy_62 (by decide) ?_
          refine g_iload X dX12_apartBy_64 3 rfl ?_
          refine g_iconst (v := 1) X dX12_apartBy_66 (by decide) ?_
          refine g_isub X dX12_apartBy_67 ?_
          refine g_imul X dX12_apartBy_68 ?_
          refine g_iload X dX12_apartBy_69 4 rfl ?_
          refine g_iadd X dX12_apartBy_71 ?_
          refine g_iconst (v := 1) X dX12_apartBy_72 (by decide) ?_
          refine g_isub X dX12_apartBy_73 ?_
          refine g_iaload X hf dX12_apartBy_74 (fun v2 hf => ?_)
          refine g_aload_n X dX12_apartBy_75 0 rfl ?_
          refine g_getR X hf (T := TX12) rfl (by decide) (by decide) in_RX12 tb_1140 rfl dX12_apartBy_76 (fun v3 hf => ?_)
          refine g_iload X dX12_apartBy_79 3 rfl ?_
          refine g_iconst (v := 1) X dX12_apartBy_81 (by decide) ?_
          refine g_isub X dX12_apartBy_82 ?_
          refine g_iaload X hf dX12_apartBy_83 (fun v4 hf => ?_)
          refine g_aload_n X dX12_apartBy_84 0 rfl ?_
          refine g_getR X hf (T := TX12) rfl (by decide) (by decide) in_RX12 tb_1141 rfl dX12_apartBy_85 (fun v5 hf => ?_)
          refine g_iload X dX12_apartBy_88 4 rfl ?_
          refine g_iconst (v := 1) X dX12_apartBy_90 (by decide) ?_
          refine g_isub X dX12_apartBy_91 ?_
          refine g_iaload X hf dX12_apartBy_92 (fun v6 hf => ?_)
          refine g_icmpne (tgt := 100) X hf dX12_apartBy_93 (by decide) (fun hf => ?_) (fun hf => ?_)
          · refine g_iconst (v := 0) X dX12_apartBy_96 (by decide) ?_
            refine g_goto (tgt := 101) X dX12_apartBy_97 (by decide) ?_
            refine g_iadd X dX12_apartBy_101 ?_
            exact w_X12_apartBy_102 X hk22 ih x0 x3 x4 x5 x6 (v2 + 0) h hf
          · refine g_iconst (v := 1) X dX12_apartBy_100 (by decide) ?_
            refine g_iadd X dX12_apartBy_101 ?_
            exact w_X12_apartBy_102 X hk22 ih x0 x3 x4 x5 x6 (v2 + 1) h hf
def b_X12_apartBy_22    : Nat → Option Nat → Int32 → Int32 → Int32 → AH → Option (Int32 × AH)
  | 0 => fun _ _ _ _ _ => none
  | n + 1 => fun x0 x3 x4 x5 h =>
    if x3 < x5 then
      (gR 12 7 h x0).bind fun v1 =>
      (aI h v1 ((7 * x3) + x4)).bind fun v2 =>
      some (v2, h)
    else
      b_X12_apartBy_31 (b_X12_apartBy_22 n) FU x0 x3 x4 x5 0 h
set_option maxRecDepth 20000 in
theorem w_X12_apartBy_22 {K : KT} {w : (Int32 × AH)}   (X : CX K cX12_apartBy RX12 TB (some .int) "apartBy" (rmD 2 0 0) 8 0 0)  : ∀ (n : Nat) (x0 : Option Nat) (x3 : Int32) (x4 : Int32) (x5 : Int32) (h : AH), b_X12_apartBy_22 n x0 x3 x4 x5 h = some w → GG K (some (tI w.1), w.2) 0 0 22 [(0, tR x0), (3, tI x3), (4, tI x4), (5, tI x5)] [] h := by
  intro n
  induction n with
  | zero =>
    intro x0 x3 x4 x5 h hf
    cases (show none = some w from hf)
  | succ n ih =>
    intro x0 x3 x4 x5 h hf
    rw [b_X12_apartBy_22] at hf
    refine g_iload X dX12_apartBy_22 3 rfl ?_
    refine g_iload_n X dX12_apartBy_24 1 rfl ?_
    refine g_icmpgt (tgt := 233) X hf dX12_apartBy_25 (by decide) (fun hf => ?_) (fun hf => ?_)
    · refine g_aload_n X dX12_apartBy_233 0 rfl ?_
      refine g_getR X hf (T := TX12) rfl (by decide) (by decide) in_RX12 tb_1142 rfl dX12_apartBy_234 (fun v1 hf => ?_)
      refine g_bipush (v := 7) X dX12_apartBy_237 (by decide) ?_
      refine g_iload_n X dX12_apartBy_239 1 rfl ?_
      refine g_imul X dX12_apartBy_240 ?_
      refine g_iload X dX12_apartBy_241 2 rfl ?_
      refine g_iadd X dX12_apartBy_243 ?_
      refine g_iaload X hf dX12_apartBy_244 (fun v2 hf => ?_)
      exact g_ireturn X (zW hf) (by decide) (by decide) dX12_apartBy_245
    · refine g_iconst (v := 0) X dX12_apartBy_28 (by decide) ?_
      refine g_istore (lv' := [(0, tR x0), (3, tI x3), (4, tI x4), (5, tI x5), (6, tI 0)]) X dX12_apartBy_29 (by decide) (in_pick [1, 2, 3, 4, 0] rfl) ?_
      exact w_X12_apartBy_31 X ih FU x0 x3 x4 x5 0 h hf
def f_X12_apartBy  (a0 : Option Nat) (a1 : Int32) (a2 : Int32) (h : AH) : Option (Int32 × AH) :=
  (gR 12 5 h a0).bind fun v1 =>
  (f_X12_letters a1 v1 h).bind fun p2 =>
  (gR 12 6 p2.2 a0).bind fun v3 =>
  (f_X12_letters a2 v3 p2.2).bind fun p4 =>
  b_X12_apartBy_22 FU a0 p2.1 p4.1 0 p4.2
set_option maxRecDepth 20000 in
theorem m_X12_apartBy  {a0 : Option Nat} {a1 : Int32} {a2 : Int32} {h : AH} {w : (Int32 × AH)} (hf : f_X12_apartBy a0 a1 a2 h = some w) : CT yX12_apartBy (wU yX12_apartBy cX12_apartBy 8 (some .int)) (rmD 2 0 0) 0 0 [tR a0, tI a1, tI a2] h (some (tI w.1), w.2) := by
  refine CT.of (cc := cX12_apartBy) (nL := 8) (ret := (some .int)) (by decide) (by simp [lg_sl, vOf_cat, wOf]) ?_
  intro K X
  refine g_locs (lv' := [(0, tR a0), (1, tI a1), (2, tI a2)]) (fun q hq => hq) ?_
  unfold f_X12_apartBy at hf
  refine g_iload_n X dX12_apartBy_0 1 rfl ?_
  refine g_aload_n X dX12_apartBy_1 0 rfl ?_
  refine g_getR X hf (T := TX12) rfl (by decide) (by decide) in_RX12 tb_1140 rfl dX12_apartBy_2 (fun v1 hf => ?_)
  refine g_callS (n := 2) (av := [tI a1, tR v1]) (rest := []) X hf (fun p2 => (some (tI p2.1), p2.2)) (fun _ q => m_X12_letters q) (gdS tb_1353 tb_1354 tb_12 tb_1355) rfl (by decide +kernel) rfl (by decide) (by decide) rfl (Nat.le_of_ble_eq_true rfl) dX12_apartBy_5 (fun p2 hf => ?_)
  refine g_istore_n (lv' := [(0, tR a0), (1, tI a1), (2, tI a2), (3, tI p2.1)]) X dX12_apartBy_8 (by decide) (in_pick [1, 2, 3, 0] rfl) ?_
  refine g_iload_n X dX12_apartBy_9 2 rfl ?_
  refine g_aload_n X dX12_apartBy_10 0 rfl ?_
  refine g_getR X hf (T := TX12) rfl (by decide) (by decide) in_RX12 tb_1141 rfl dX12_apartBy_11 (fun v3 hf => ?_)
  refine g_callS (n := 2) (av := [tI a2, tR v3]) (rest := []) X hf (fun p4 => (some (tI p4.1), p4.2)) (fun _ q => m_X12_letters q) (gdS tb_1353 tb_1354 tb_12 tb_1355) rfl (by decide +kernel) rfl (by decide) (by decide) rfl (Nat.le_of_ble_eq_true rfl) dX12_apartBy_14 (fun p4 hf => ?_)
  refine g_istore (lv' := [(0, tR a0), (1, tI a1), (2, tI a2), (3, tI p2.1), (4, tI p4.1)]) X dX12_apartBy_17 (by decide) (in_pick [1, 2, 3, 4, 0] rfl) ?_
  refine g_iconst (v := 0) X dX12_apartBy_19 (by decide) ?_
  refine g_istore (lv' := [(0, tR a0), (1, tI a1), (2, tI a2), (3, tI p2.1), (4, tI p4.1), (5, tI 0)]) X dX12_apartBy_20 (by decide) (in_pick [1, 2, 3, 4, 5, 0] rfl) ?_
  refine g_locs (lv' := [(0, tR a0), (3, tI p2.1), (4, tI p4.1), (5, tI 0)]) (in_pick [0, 3, 4, 5] rfl) ?_
  exact w_X12_apartBy_22 X FU a0 p2.1 p4.1 0 p4.2 hf
def f_X12_apart  (a0 : Option Nat) (a1 : Int32) (a2 : Int32) (h : AH) : Option (Int32 × AH) :=
  (f_X12_isName a1 h).bind fun v1 =>
  if v1 = 0 then
    some ((-1), h)
  else
    (f_X12_isName a2 h).bind fun v2 =>
    if v2 = 0 then
      some ((-1), h)
    else
      (ck 12 h a0 (f_X12_apartBy a0 a1 a2 h)).bind fun p3 =>
      some (p3.1, p3.2)
set_option maxRecDepth 20000 in
theorem m_X12_apart  {a0 : Option Nat} {a1 : Int32} {a2 : Int32} {h : AH} {w : (Int32 × AH)} (hf : f_X12_apart a0 a1 a2 h = some w) : CT yX12_apart (wU yX12_apart cX12_apart 3 (some .int)) (rmD 3 0 0) 0 0 [tR a0, tI a1, tI a2] h (some (tI w.1), w.2) := by
  refine CT.of (cc := cX12_apart) (nL := 3) (ret := (some .int)) (by decide) (by simp [lg_sl, vOf_cat, wOf]) ?_
  intro K X
  refine g_locs (lv' := [(0, tR a0), (1, tI a1), (2, tI a2)]) (fun q hq => hq) ?_
  unfold f_X12_apart at hf
  refine g_iload_n X dX12_apart_0 1 rfl ?_
  refine g_callS (n := 1) (av := [tI a1]) (rest := []) X hf (fun v1 => (some (tI v1), h)) (fun _ q => m_X12_isName q) (gdS tb_1260 tb_1261 tb_12 tb_1262) rfl (by decide +kernel) rfl (by decide) (by decide) rfl (Nat.le_of_ble_eq_true rfl) dX12_apart_1 (fun v1 hf => ?_)
  refine g_ifeq (tgt := 23) X hf dX12_apart_4 (by decide) (fun hf => ?_) (fun hf => ?_)
  · refine g_iconst (v := (-1)) X dX12_apart_23 (by decide) ?_
    exact g_ireturn X (zW hf) (by decide) (by decide) dX12_apart_24
  · refine g_iload_n X dX12_apart_7 2 rfl ?_
    refine g_callS (n := 1) (av := [tI a2]) (rest := []) X hf (fun v2 => (some (tI v2), h)) (fun _ q => m_X12_isName q) (gdS tb_1260 tb_1261 tb_12 tb_1262) rfl (by decide +kernel) rfl (by decide) (by decide) rfl (Nat.le_of_ble_eq_true rfl) dX12_apart_8 (fun v2 hf => ?_)
    refine g_ifeq (tgt := 23) X hf dX12_apart_11 (by decide) (fun hf => ?_) (fun hf => ?_)
    · refine g_iconst (v := (-1)) X dX12_apart_23 (by decide) ?_
      exact g_ireturn X (zW hf) (by decide) (by decide) dX12_apart_24
    · refine g_aload_n X dX12_apart_14 0 rfl ?_
      refine g_iload_n X dX12_apart_15 1 rfl ?_
      refine g_iload_n X dX12_apart_16 2 rfl ?_
      refine g_callV (n := 2) (av := [tI a1, tI a2]) (rest := []) (k := 12) X hf (fun p3 => (some (tI p3.1), p3.2)) (fun _ q => m_X12_apartBy q) (gdV tb_1350 tb_1351 tb_1699 tb_12 tb_1352) rfl (by decide +kernel) rfl (by decide) rfl (by decide) (by decide) rfl (Nat.le_of_ble_eq_true rfl) dX12_apart_17 (fun p3 hf => ?_)
      refine g_goto (tgt := 24) X dX12_apart_20 (by decide) ?_
      exact g_ireturn X (zW hf) (by decide) (by decide) dX12_apart_24
def b_X12_fits_184  (k5 : Option Nat → Int32 → Int32 → Int32 → Int32 → AH → Option (Int32 × AH)) (x0 : Option Nat) (x1 : Int32) (x2 : Int32) (x4 : Int32) (s0 : Int32) (s1 : Int32) (h : AH) : Option (Int32 × AH) :=
  k5 x0 x1 x2 (s0 ||| s1) (x4 + 1) h
set_option maxRecDepth 20000 in
theorem w_X12_fits_184 {K : KT} {w : (Int32 × AH)} {k5 : Option Nat → Int32 → Int32 → Int32 → Int32 → AH → Option (Int32 × AH)}  (X : CX K cX12_fits RX12 TB (some .int) "fits" (rmD 3 0 0) 7 0 0) (hk5 : ∀ (x0 : Option Nat) (x1 : Int32) (x2 : Int32) (x3 : Int32) (x4 : Int32) (h : AH), k5 x0 x1 x2 x3 x4 h = some w → GG K (some (tI w.1), w.2) 0 0 5 [(0, tR x0), (1, tI x1), (2, tI x2), (3, tI x3), (4, tI x4)] [] h) (x0 : Option Nat) (x1 : Int32) (x2 : Int32) (x4 : Int32) (s0 : Int32) (s1 : Int32) (h : AH) (hf : b_X12_fits_184 k5 x0 x1 x2 x4 s0 s1 h = some w) : GG K (some (tI w.1), w.2) 0 0 184 [(0, tR x0), (1, tI x1), (2, tI x2), (4, tI x4)] [tI s1, tI s0] h := by
  unfold b_X12_fits_184 at hf
  refine g_ior X dX12_fits_184 ?_
  refine g_istore_n (lv' := [(0, tR x0), (1, tI x1), (2, tI x2), (3, tI (s0 ||| s1)), (4, tI x4)]) X dX12_fits_185 (by decide) (in_pick [1, 2, 3, 0, 4] rfl) ?_
  refine g_iinc (v := (x4 + 1)) (lv' := [(0, tR x0), (1, tI x1), (2, tI x2), (3, tI (s0 ||| s1)), (4, tI (x4 + 1))]) X dX12_fits_186 4 rfl (by rfl) (by decide) (in_pick [1, 2, 3, 4, 0] rfl) ?_
  refine g_goto (tgt := 5) X dX12_fits_189 (by decide) ?_
  exact hk5 x0 x1 x2 (s0 ||| s1) (x4 + 1) h hf
def b_X12_fits_163  (k5 : Option Nat → Int32 → Int32 → Int32 → Int32 → AH → Option (Int32 × AH)) (x0 : Option Nat) (x1 : Int32) (x2 : Int32) (x3 : Int32) (x4 : Int32) (x5 : Int32) (s0 : Int32) (h : AH) : Option (Int32 × AH) :=
  if x5 = 0 then
    b_X12_fits_184 k5 x0 x1 x2 x4 x3 0 h
  else
    if s0 = 0 then
      b_X12_fits_184 k5 x0 x1 x2 x4 x3 0 h
    else
      b_X12_fits_184 k5 x0 x1 x2 x4 x3 (1 <<< (x4 &&& 31)) h
set_option maxRecDepth 20000 in
theorem w_X12_fits_163 {K : KT} {w : (Int32 × AH)} {k5 : Option Nat → Int32 → Int32 → Int32 → Int32 → AH → Option (Int32 × AH)}  (X : CX K cX12_fits RX12 TB (some .int) "fits" (rmD 3 0 0) 7 0 0) (hk5 : ∀ (x0 : Option Nat) (x1 : Int32) (x2 : Int32) (x3 : Int32) (x4 : Int32) (h : AH), k5 x0 x1 x2 x3 x4 h = some w → GG K (some (tI w.1), w.2) 0 0 5 [(0, tR x0), (1, tI x1), (2, tI x2), (3, tI x3), (4, tI x4)] [] h) (x0 : Option Nat) (x1 : Int32) (x2 : Int32) (x3 : Int32) (x4 : Int32) (x5 : Int32) (s0 : Int32) (h : AH) (hf : b_X12_fits_163 k5 x0 x1 x2 x3 x4 x5 s0 h = some w) : GG K (some (tI w.1), w.2) 0 0 163 [(0, tR x0), (1, tI x1), (2, tI x2), (3, tI x3), (4, tI x4), (5, tI x5)] [tI s0] h := by
  unfold b_X12_fits_163 at hf
  refine g_istore (lv' := [(0, tR x0), (1, tI x1), (2, tI x2), (3, tI x3), (4, tI x4), (5, tI x5), (6, tI s0)]) X dX12_fits_163 (by decide) (in_pick [1, 2, 3, 4, 5, 6, 0] rfl) ?_
  refine g_iload_n X dX12_fits_165 3 rfl ?_
  refine g_iload X dX12_fits_166 5 rfl ?_
  refine g_ifeq (tgt := 183) X hf dX12_fits_168 (by decide) (fun hf => ?_) (fun hf => ?_)
  · refine g_iconst (v := 0) X dX12_fits_183 (by decide) ?_
    refine g_locs (lv' := [(0, tR x0), (1, tI x1), (2, tI x2), (4, tI x4)]) (in_pick [0, 1, 2, 4] rfl) ?_
    exact w_X12_fits_184 X hk5 x0 x1 x2 x4 x3 0 h hf
  · refine g_iload X dX12_fits_171 6 rfl ?_
    refine g_ifeq (tgt := 183) X hf dX12_fits_173 (by decide) (fun hf => ?_) (fun hf => ?_)
    · refine g_iconst (v := 0) X dX12_fits_183 (by decide) ?_
      refine g_locs (lv' := [(0, tR x0), (1, tI x1), (2, tI x2), (4, tI x4)]) (in_pick [0, 1, 2, 4] rfl) ?_
      exact w_X12_fits_184 X hk5 x0 x1 x2 x4 x3 0 h hf
    · refine g_iconst (v := 1) X dX12_fits_176 (by decide) ?_
      refine g_iload X dX12_fits_177 4 rfl ?_
      refine g_ishl X dX12_fits_179 ?_
      refine g_goto (tgt := 184) X dX12_fits_180 (by decide) ?_
      refine g_locs (lv' := [(0, tR x0), (1, tI x1), (2, tI x2), (4, tI x4)]) (in_pick [0, 1, 2, 4] rfl) ?_
      exact w_X12_fits_184 X hk5 x0 x1 x2 x4 x3 (1 <<< (x4 &&& 31)) h hf
def b_X12_fits_122  (k5 : Option Nat → Int32 → Int32 → Int32 → Int32 → AH → Option (Int32 × AH)) (x0 : Option Nat) (x1 : Int32) (x2 : Int32) (x3 : Int32) (x4 : Int32) (x5 : Int32) (h : AH) : Option (Int32 × AH) :=
  (gR 12 0 h x0).bind fun v1 =>
  (aI h v1 (731 + x1)).bind fun v2 =>
  if v2 < 0 then
    b_X12_fits_163 k5 x0 x1 x2 x3 x4 x5 1 h
  else
    (gR 12 0 h x0).bind fun v3 =>
    (aI h v3 (731 + x1)).bind fun v4 =>
    (gR 12 0 h x0).bind fun v5 =>
    (aI h v5 (75 + x4)).bind fun v6 =>
    if v4 = v6 then
      b_X12_fits_163 k5 x0 x1 x2 x3 x4 x5 1 h
    else
      b_X12_fits_163 k5 x0 x1 x2 x3 x4 x5 0 h
set_option maxRecDepth 20000 in
theorem w_X12_fits_122 {K : KT} {w : (Int32 × AH)} {k5 : Option Nat → Int32 → Int32 → Int32 → Int32 → AH → Option (Int32 × AH)}  (X : CX K cX12_fits RX12 TB (some .int) "fits" (rmD 3 0 0) 7 0 0) (hk5 : ∀ (x0 : Option Nat) (x1 : Int32) (x2 : Int32) (x3 : Int32) (x4 : Int32) (h : AH), k5 x0 x1 x2 x3 x4 h = some w → GG K (some (tI w.1), w.2) 0 0 5 [(0, tR x0), (1, tI x1), (2, tI x2), (3, tI x3), (4, tI x4)] [] h) (x0 : Option Nat) (x1 : Int32) (x2 : Int32) (x3 : Int32) (x4 : Int32) (x5 : Int32) (h : AH) (hf : b_X12_fits_122 k5 x0 x1 x2 x3 x4 x5 h = some w) : GG K (some (tI w.1), w.2) 0 0 122 [(0, tR x0), (1, tI x1), (2, tI x2), (3, tI x3), (4, tI x4), (5, tI x5)] [] h := by
  unfold b_X12_fits_122 at hf
  refine g_aload_n X dX12_fits_122 0 rfl ?_
  refine g_getR X hf (T := TX12) rfl (by decide) (by decide) in_RX12 tb_1135 rfl dX12_fits_123 (fun v1 hf => ?_)
  refine g_sipush (v := 731) X dX12_fits_126 (by decide) ?_
  refine g_iload_n X dX12_fits_129 1 rfl ?_
  refine g_iadd X dX12_fits_130 ?_
  refine g_iaload X hf dX12_fits_131 (fun v2 hf => ?_)
  refine g_iflt (tgt := 158) X hf dX12_fits_132 (by decide) (fun hf => ?_) (fun hf => ?_)
  · refine g_iconst (v := 1) X dX12_fits_158 (by decide) ?_
    refine g_goto (tgt := 163) X dX12_fits_159 (by decide) ?_
    exact w_X12_fits_163 X hk5 x0 x1 x2 x3 x4 x5 1 h hf
  · refine g_aload_n X dX12_fits_135 0 rfl ?_
    refine g_getR X hf (T := TX12) rfl (by decide) (by decide) in_RX12 tb_1135 rfl dX12_fits_136 (fun v3 hf => ?_)
    refine g_sipush (v := 731) X dX12_fits_139 (by decide) ?_
    refine g_iload_n X dX12_fits_142 1 rfl ?_
    refine g_iadd X dX12_fits_143 ?_
    refine g_iaload X hf dX12_fits_144 (fun v4 hf => ?_)
    refine g_aload_n X dX12_fits_145 0 rfl ?_
    refine g_getR X hf (T := TX12) rfl (by decide) (by decide) in_RX12 tb_1135 rfl dX12_fits_146 (fun v5 hf => ?_)
    refine g_bipush (v := 75) X dX12_fits_149 (by decide) ?_
    refine g_iload X dX12_fits_151 4 rfl ?_
    refine g_iadd X dX12_fits_153 ?_
    refine g_iaload X hf dX12_fits_154 (fun v6 hf => ?_)
    refine g_icmpne (tgt := 162) X hf dX12_fits_155 (by decide) (fun hf => ?_) (fun hf => ?_)
    · refine g_iconst (v := 1) X dX12_fits_158 (by decide) ?_
      refine g_goto (tgt := 163) X dX12_fits_159 (by decide) ?_
      exact w_X12_fits_163 X hk5 x0 x1 x2 x3 x4 x5 1 h hf
    · refine g_iconst (v := 0) X dX12_fits_162 (by decide) ?_
      exact w_X12_fits_163 X hk5 x0 x1 x2 x3 x4 x5 0 h hf
def b_X12_fits_84  (k5 : Option Nat → Int32 → Int32 → Int32 → Int32 → AH → Option (Int32 × AH)) (x0 : Option Nat) (x1 : Int32) (x2 : Int32) (x3 : Int32) (x4 : Int32) (s0 : Int32) (h : AH) : Option (Int32 × AH) :=
  (gR 12 0 h x0).bind fun v1 =>
  (aI h v1 (691 + x1)).bind fun v2 =>
  if v2 = 0 then
    b_X12_fits_122 k5 x0 x1 x2 x3 x4 s0 h
  else
    (gR 12 0 h x0).bind fun v3 =>
    (aI h v3 (691 + x1)).bind fun v4 =>
    (gR 12 0 h x0).bind fun v5 =>
    (aI h v5 (123 + x4)).bind fun v6 =>
    if v4 = v6 then
      b_X12_fits_122 k5 x0 x1 x2 x3 x4 s0 h
    else
      b_X12_fits_163 k5 x0 x1 x2 x3 x4 s0 0 h
set_option maxRecDepth 20000 in
theorem w_X12_fits_84 {K : KT} {w : (Int32 × AH)} {k5 : Option Nat → Int32 → Int32 → Int32 → Int32 → AH → Option (Int32 × AH)}  (X : CX K cX12_fits RX12 TB (some .int) "fits" (rmD 3 0 0) 7 0 0) (hk5 : ∀ (x0 : Option Nat) (x1 : Int32) (x2 : Int32) (x3 : Int32) (x4 : Int32) (h : AH), k5 x0 x1 x2 x3 x4 h = some w → GG K (some (tI w.1), w.2) 0 0 5 [(0, tR x0), (1, tI x1), (2, tI x2), (3, tI x3), (4, tI x4)] [] h) (x0 : Option Nat) (x1 : Int32) (x2 : Int32) (x3 : Int32) (x4 : Int32) (s0 : Int32) (h : AH) (hf : b_X12_fits_84 k5 x0 x1 x2 x3 x4 s0 h = some w) : GG K (some (tI w.1), w.2) 0 0 84 [(0, tR x0), (1, tI x1), (2, tI x2), (3, tI x3), (4, tI x4)] [tI s0] h := by
  unfold b_X12_fits_84 at hf
  refine g_istore (lv' := [(0, tR x0), (1, tI x1), (2, tI x2), (3, tI x3), (4, tI x4), (5, tI s0)]) X dX12_fits_84 (by decide) (in_pick [1, 2, 3, 4, 5, 0] rfl) ?_
  refine g_aload_n X dX12_fits_86 0 rfl ?_
  refine g_getR X hf (T := TX12) rfl (by decide) (by decide) in_RX12 tb_1135 rfl dX12_fits_87 (fun v1 hf => ?_)
  refine g_sipush (v := 691) X dX12_fits_90 (by decide) ?_
  refine g_iload_n X dX12_fits_93 1 rfl ?_
  refine g_iadd X dX12_fits_94 ?_
  refine g_iaload X hf dX12_fits_95 (fun v2 hf => ?_)
  refine g_ifeq (tgt := 122) X hf dX12_fits_96 (by decide) (fun hf => ?_) (fun hf => ?_)
  · exact w_X12_fits_122 X hk5 x0 x1 x2 x3 x4 s0 h hf
  · refine g_aload_n X dX12_fits_99 0 rfl ?_
    refine g_getR X hf (T := TX12) rfl (by decide) (by decide) in_RX12 tb_1135 rfl dX12_fits_100 (fun v3 hf => ?_)
    refine g_sipush (v := 691) X dX12_fits_103 (by decide) ?_
    refine g_iload_n X dX12_fits_106 1 rfl ?_
    refine g_iadd X dX12_fits_107 ?_
    refine g_iaload X hf dX12_fits_108 (fun v4 hf => ?_)
    refine g_aload_n X dX12_fits_109 0 rfl ?_
    refine g_getR X hf (T := TX12) rfl (by decide) (by decide) in_RX12 tb_1135 rfl dX12_fits_110 (fun v5 hf => ?_)
    refine g_bipush (v := 123) X dX12_fits_113 (by decide) ?_
    refine g_iload X dX12_fits_115 4 rfl ?_
    refine g_iadd X dX12_fits_117 ?_
    refine g_iaload X hf dX12_fits_118 (fun v6 hf => ?_)
    refine g_icmpne (tgt := 162) X hf dX12_fits_119 (by decide) (fun hf => ?_) (fun hf => ?_)
    · exact w_X12_fits_122 X hk5 x0 x1 x2 x3 x4 s0 h hf
    · refine g_iconst (v := 0) X dX12_fits_162 (by decide) ?_
      exact w_X12_fits_163 X hk5 x0 x1 x2 x3 x4 s0 0 h hf
def b_X12_fits_5    : Nat → Option Nat → Int32 → Int32 → Int32 → Int32 → AH → Option (Int32 × AH)
  | 0 => fun _ _ _ _ _ _ => none
  | n + 1 => fun x0 x1 x2 x3 x4 h =>
    (gR 12 0 h x0).bind fun v1 =>
    (aI h v1 2).bind fun v2 =>
    if x4 < v2 then
      if x2 = 0 then
        (gR 12 0 h x0).bind fun v3 =>
        (aI h v3 (651 + x1)).bind fun v4 =>
        (gR 12 0 h x0).bind fun v5 =>
        (aI h v5 (107 + x4)).bind fun v6 =>
        (ck 12 h x0 (f_X12_apartBy x0 v4 v6 h)).bind fun p7 =>
        if 1 < p7.1 then
          b_X12_fits_84 (b_X12_fits_5 n) x0 x1 x2 x3 x4 0 p7.2
        else
          b_X12_fits_84 (b_X12_fits_5 n) x0 x1 x2 x3 x4 1 p7.2
      else
        (gR 12 0 h x0).bind fun v8 =>
        (aI h v8 (651 + x1)).bind fun v9 =>
        (gR 12 0 h x0).bind fun v10 =>
        (aI h v10 (107 + x4)).bind fun v11 =>
        if v9 = v11 then
          b_X12_fits_84 (b_X12_fits_5 n) x0 x1 x2 x3 x4 1 h
        else
          b_X12_fits_84 (b_X12_fits_5 n) x0 x1 x2 x3 x4 0 h
    else
      some (x3, h)
set_option maxRecDepth 20000 in
theorem w_X12_fits_5 {K : KT} {w : (Int32 × AH)}   (X : CX K cX12_fits RX12 TB (some .int) "fits" (rmD 3 0 0) 7 0 0)  : ∀ (n : Nat) (x0 : Option Nat) (x1 : Int32) (x2 : Int32) (x3 : Int32) (x4 : Int32) (h : AH), b_X12_fits_5 n x0 x1 x2 x3 x4 h = some w → GG K (some (tI w.1), w.2) 0 0 5 [(0, tR x0), (1, tI x1), (2, tI x2), (3, tI x3), (4, tI x4)] [] h := by
  intro n
  induction n with
  | zero =>
    intro x0 x1 x2 x3 x4 h hf
    cases (show none = some w from hf)
  | succ n ih =>
    intro x0 x1 x2 x3 x4 h hf
    rw [b_X12_fits_5] at hf
    refine g_iload X dX12_fits_5 4 rfl ?_
    refine g_aload_n X dX12_fits_7 0 rfl ?_
    refine g_getR X hf (T := TX12) rfl (by decide) (by decide) in_RX12 tb_1135 rfl dX12_fits_8 (fun v1 hf => ?_)
    refine g_iconst (v := 2) X dX12_fits_11 (by decide) ?_
    refine g_iaload X hf dX12_fits_12 (fun v2 hf => ?_)
    refine g_icmpge (tgt := 192) X hf dX12_fits_13 (by decide) (fun hf => ?_) (fun hf => ?_)
    · refine g_iload_n X dX12_fits_16 2 rfl ?_
      refine g_ifeq (tgt := 51) X hf dX12_fits_17 (by decide) (fun hf => ?_) (fun hf => ?_)
      · refine g_aload_n X dX12_fits_51 0 rfl ?_
        refine g_aload_n X dX12_fits_52 0 rfl ?_
        refine g_getR X hf (T := TX12) rfl (by decide) (by decide) in_RX12 tb_1135 rfl dX12_fits_53 (fun v3 hf => ?_)
        refine g_sipush (v := 651) X dX12_fits_56 (by decide) ?_
        refine g_iload_n X dX12_fits_59 1 rfl ?_
        refine g_iadd X dX12_fits_60 ?_
        refine g_iaload X hf dX12_fits_61 (fun v4 hf => ?_)
        refine g_aload_n X dX12_fits_62 0 rfl ?_
        refine g_getR X hf (T := TX12) rfl (by decide) (by decide) in_RX12 tb_1135 rfl dX12_fits_63 (fun v5 hf => ?_)
        refine g_bipush (v := 107) X dX12_fits_66 (by decide) ?_
        refine g_iload X dX12_fits_68 4 rfl ?_
        refine g_iadd X dX12_fits_70 ?_
        refine g_iaload X hf dX12_fits_71 (fun v6 hf => ?_)
        refine g_callV (n := 2) (av := [tI v4, tI v6]) (rest := []) (k := 12) X hf (fun p7 => (some (tI p7.1), p7.2)) (fun _ q => m_X12_apartBy q) (gdV tb_1350 tb_1351 tb_1699 tb_12 tb_1352) rfl (by decide +kernel) rfl (by decide) rfl (by decide) (by decide) rfl (Nat.le_of_ble_eq_true rfl) dX12_fits_72 (fun p7 hf => ?_)
        refine g_iconst (v := 1) X dX12_fits_75 (by decide) ?_
        refine g_icmpgt (tgt := 83) X hf dX12_fits_76 (by decide) (fun hf => ?_) (fun hf => ?_)
        · refine g_iconst (v := 0) X dX12_fits_83 (by decide) ?_
          exact w_X12_fits_84 X ih x0 x1 x2 x3 x4 0 p7.2 hf
        · refine g_iconst (v := 1) X dX12_fits_79 (by decide) ?_
          refine g_goto (tgt := 84) X dX12_fits_80 (by decide) ?_
          exact w_X12_fits_84 X ih x0 x1 x2 x3 x4 1 p7.2 hf
      · refine g_aload_n X dX12_fits_20 0 rfl ?_
        refine g_getR X hf (T := TX12) rfl (by decide) (by decide) in_RX12 tb_1135 rfl dX12_fits_21 (fun v8 hf => ?_)
        refine g_sipush (v := 651) X dX12_fits_24 (by decide) ?_
        refine g_iload_n X dX12_fits_27 1 rfl ?_
        refine g_iadd X dX12_fits_28 ?_
        refine g_iaload X hf dX12_fits_29 (fun v9 hf => ?_)
        refine g_aload_n X dX12_fits_30 0 rfl ?_
        refine g_getR X hf (T := TX12) rfl (by decide) (by decide) in_RX12 tb_1135 rfl dX12_fits_31 (fun v10 hf => ?_)
        refine g_bipush (v := 107) X dX12_fits_34 (by decide) ?_
        refine g_iload X dX12_fits_36 4 rfl ?_
        refine g_iadd X dX12_fits_38 ?_
        refine g_iaload X hf dX12_fits_39 (fun v11 hf => ?_)
        refine g_icmpne (tgt := 47) X hf dX12_fits_40 (by decide) (fun hf => ?_) (fun hf => ?_)
        · refine g_iconst (v := 1) X dX12_fits_43 (by decide) ?_
          refine g_goto (tgt := 84) X dX12_fits_44 (by decide) ?_
          exact w_X12_fits_84 X ih x0 x1 x2 x3 x4 1 h hf
        · refine g_iconst (v := 0) X dX12_fits_47 (by decide) ?_
          refine g_goto (tgt := 84) X dX12_fits_48 (by decide) ?_
          exact w_X12_fits_84 X ih x0 x1 x2 x3 x4 0 h hf
    · refine g_iload_n X dX12_fits_192 3 rfl ?_
      exact g_ireturn X (zW hf) (by decide) (by decide) dX12_fits_193
def f_X12_fits  (a0 : Option Nat) (a1 : Int32) (a2 : Int32) (h : AH) : Option (Int32 × AH) :=
  b_X12_fits_5 FU a0 a1 a2 0 0 h
set_option maxRecDepth 20000 in
theorem m_X12_fits  {a0 : Option Nat} {a1 : Int32} {a2 : Int32} {h : AH} {w : (Int32 × AH)} (hf : f_X12_fits a0 a1 a2 h = some w) : CT yX12_fits (wU yX12_fits cX12_fits 7 (some .int)) (rmD 3 0 0) 0 0 [tR a0, tI a1, tI a2] h (some (tI w.1), w.2) := by
  refine CT.of (cc := cX12_fits) (nL := 7) (ret := (some .int)) (by decide) (by simp [lg_sl, vOf_cat, wOf]) ?_
  intro K X
  refine g_locs (lv' := [(0, tR a0), (1, tI a1), (2, tI a2)]) (fun q hq => hq) ?_
  unfold f_X12_fits at hf
  refine g_iconst (v := 0) X dX12_fits_0 (by decide) ?_
  refine g_istore_n (lv' := [(0, tR a0), (1, tI a1), (2, tI a2), (3, tI 0)]) X dX12_fits_1 (by decide) (in_pick [1, 2, 3, 0] rfl) ?_
  refine g_iconst (v := 0) X dX12_fits_2 (by decide) ?_
  refine g_istore (lv' := [(0, tR a0), (1, tI a1), (2, tI a2), (3, tI 0), (4, tI 0)]) X dX12_fits_3 (by decide) (in_pick [1, 2, 3, 4, 0] rfl) ?_
  exact w_X12_fits_5 X FU a0 a1 a2 0 0 h hf
def f_X12_meant  (a0 : Option Nat) (a1 : Int32) (h : AH) : Option (Int32 × AH) :=
  (ck 12 h a0 (f_X12_fits a0 a1 1 h)).bind fun p1 =>
  if p1.1 = 0 then
    (ck 12 p1.2 a0 (f_X12_fits a0 a1 0 p1.2)).bind fun p2 =>
    some (p2.1, p2.2)
  else
    some (p1.1, p1.2)
set_option maxRecDepth 20000 in
theorem m_X12_meant  {a0 : Option Nat} {a1 : Int32} {h : AH} {w : (Int32 × AH)} (hf : f_X12_meant a0 a1 h = some w) : CT yX12_meant (wU yX12_meant cX12_meant 3 (some .int)) (rmD 4 0 0) 0 0 [tR a0, tI a1] h (some (tI w.1), w.2) := by
  refine CT.of (cc := cX12_meant) (nL := 3) (ret := (some .int)) (by decide) (by simp [lg_sl, vOf_cat, wOf]) ?_
  intro K X
  refine g_locs (lv' := [(0, tR a0), (1, tI a1)]) (fun q hq => hq) ?_
  unfold f_X12_meant at hf
  refine g_aload_n X dX12_meant_0 0 rfl ?_
  refine g_iload_n X dX12_meant_1 1 rfl ?_
  refine g_iconst (v := 1) X dX12_meant_2 (by decide) ?_
  refine g_callV (n := 2) (av := [tI a1, tI 1]) (rest := []) (k := 12) X hf (fun p1 => (some (tI p1.1), p1.2)) (fun _ q => m_X12_fits q) (gdV tb_1366 tb_1367 tb_1702 tb_12 tb_1368) rfl (by decide +kernel) rfl (by decide) rfl (by decide) (by decide) rfl (Nat.le_of_ble_eq_true rfl) dX12_meant_3 (fun p1 hf => ?_)
  refine g_istore_n (lv' := [(0, tR a0), (1, tI a1), (2, tI p1.1)]) X dX12_meant_6 (by decide) (in_pick [1, 2, 0] rfl) ?_
  refine g_iload_n X dX12_meant_7 2 rfl ?_
  refine g_ifeq (tgt := 15) X hf dX12_meant_8 (by decide) (fun hf => ?_) (fun hf => ?_)
  · refine g_aload_n X dX12_meant_15 0 rfl ?_
    refine g_iload_n X dX12_meant_16 1 rfl ?_
    refine g_iconst (v := 0) X dX12_meant_17 (by decide) ?_
    refine g_callV (n := 2) (av := [tI a1, tI 0]) (rest := []) (k := 12) X hf (fun p2 => (some (tI p2.1), p2.2)) (fun _ q => m_X12_fits q) (gdV tb_1366 tb_1367 tb_1702 tb_12 tb_1368) rfl (by decide +kernel) rfl (by decide) rfl (by decide) (by decide) rfl (Nat.le_of_ble_eq_true rfl) dX12_meant_18 (fun p2 hf => ?_)
    exact g_ireturn X (zW hf) (by decide) (by decide) dX12_meant_21
  · refine g_iload_n X dX12_meant_11 2 rfl ?_
    refine g_goto (tgt := 21) X dX12_meant_12 (by decide) ?_
    exact g_ireturn X (zW hf) (by decide) (by decide) dX12_meant_21
def b_X12_bits_4   (h : AH) : Nat → Int32 → Int32 → Int32 → Option Int32
  | 0 => fun _ _ _ => none
  | n + 1 => fun x0 x1 x2 =>
    if x2 < 16 then
      b_X12_bits_4 h n x0 (x1 + ((x0 >>> (x2 &&& 31)) &&& 1)) (x2 + 1)
    else
      some x1
set_option maxRecDepth 20000 in
theorem w_X12_bits_4 {K : KT} {w : Int32} {h : AH}   (X : CX K cX12_bits RX12 TB (some .int) "bits" (rmD 1 0 0) 3 0 0)  : ∀ (n : Nat) (x0 : Int32) (x1 : Int32) (x2 : Int32), b_X12_bits_4 h n x0 x1 x2 = some w → GG K (some (tI w), h) 0 0 4 [(0, tI x0), (1, tI x1), (2, tI x2)] [] h := by
  intro n
  induction n with
  | zero =>
    intro x0 x1 x2 hf
    cases (show none = some w from hf)
  | succ n ih =>
    intro x0 x1 x2 hf
    rw [b_X12_bits_4] at hf
    refine g_iload_n X dX12_bits_4 2 rfl ?_
    refine g_bipush (v := 16) X dX12_bits_5 (by decide) ?_
    refine g_icmpge (tgt := 24) X hf dX12_bits_7 (by decide) (fun hf => ?_) (fun hf => ?_)
    · refine g_iload_n X dX12_bits_10 1 rfl ?_
      refine g_iload_n X dX12_bits_11 0 rfl ?_
      refine g_iload_n X dX12_bits_12 2 rfl ?_
      refine g_ishr X dX12_bits_13 ?_
      refine g_iconst (v := 1) X dX12_bits_14 (by decide) ?_
      refine g_iand X dX12_bits_15 ?_
      refine g_iadd X dX12_bits_16 ?_
      refine g_istore_n (lv' := [(0, tI x0), (1, tI (x1 + ((x0 >>> (x2 &&& 31)) &&& 1))), (2, tI x2)]) X dX12_bits_17 (by decide) (in_pick [1, 0, 2] rfl) ?_
      refine g_iinc (v := (x2 + 1)) (lv' := [(0, tI x0), (1, tI (x1 + ((x0 >>> (x2 &&& 31)) &&& 1))), (2, tI (x2 + 1))]) X dX12_bits_18 2 rfl (by rfl) (by decide) (in_pick [1, 2, 0] rfl) ?_
      refine g_goto (tgt := 4) X dX12_bits_21 (by decide) ?_
      exact ih x0 (x1 + ((x0 >>> (x2 &&& 31)) &&& 1)) (x2 + 1) hf
    · refine g_iload_n X dX12_bits_24 1 rfl ?_
      exact g_ireturn X (zP hf) (by decide) (by decide) dX12_bits_25
def f_X12_bits  (a0 : Int32) (h : AH) : Option Int32 :=
  b_X12_bits_4 h FU a0 0 0
set_option maxRecDepth 20000 in
theorem m_X12_bits  {a0 : Int32} {h : AH} {w : Int32} (hf : f_X12_bits a0 h = some w) : CT yX12_bits (wU yX12_bits cX12_bits 3 (some .int)) (rmD 1 0 0) 0 0 [tI a0] h (some (tI w), h) := by
  refine CT.of (cc := cX12_bits) (nL := 3) (ret := (some .int)) (by decide) (by simp [lg_sl, vOf_cat, wOf]) ?_
  intro K X
  refine g_locs (lv' := [(0, tI a0)]) (fun q hq => hq) ?_
  unfold f_X12_bits at hf
  refine g_iconst (v := 0) X dX12_bits_0 (by decide) ?_
  refine g_istore_n (lv' := [(0, tI a0), (1, tI 0)]) X dX12_bits_1 (by decide) (in_pick [1, 0] rfl) ?_
  refine g_iconst (v := 0) X dX12_bits_2 (by decide) ?_
  refine g_istore_n (lv' := [(0, tI a0), (1, tI 0), (2, tI 0)]) X dX12_bits_3 (by decide) (in_pick [1, 2, 0] rfl) ?_
  exact w_X12_bits_4 X FU a0 0 0 hf
def f_X12_meaning  (a0 : Option Nat) (a1 : Int32) (h : AH) : Option (Int32 × AH) :=
  (ck 12 h a0 (f_X12_meant a0 a1 h)).bind fun p1 =>
  if p1.1 = 0 then
    some (0, p1.2)
  else
    (f_X12_bits p1.1 p1.2).bind fun v2 =>
    if 1 < v2 then
      some (3, p1.2)
    else
      (ck 12 p1.2 a0 (f_X12_fits a0 a1 1 p1.2)).bind fun p3 =>
      if p3.1 = 0 then
        some (2, p3.2)
      else
        some (1, p3.2)
set_option maxRecDepth 20000 in
theorem m_X12_meaning  {a0 : Option Nat} {a1 : Int32} {h : AH} {w : (Int32 × AH)} (hf : f_X12_meaning a0 a1 h = some w) : CT yX12_meaning (wU yX12_meaning cX12_meaning 3 (some .int)) (rmD 5 0 0) 0 0 [tR a0, tI a1] h (some (tI w.1), w.2) := by
  refine CT.of (cc := cX12_meaning) (nL := 3) (ret := (some .int)) (by decide) (by simp [lg_sl, vOf_cat, wOf]) ?_
  intro K X
  refine g_locs (lv' := [(0, tR a0), (1, tI a1)]) (fun q hq => hq) ?_
  unfold f_X12_meaning at hf
  refine g_aload_n X dX12_meaning_0 0 rfl ?_
  refine g_iload_n X dX12_meaning_1 1 rfl ?_
  refine g_callV (n := 1) (av := [tI a1]) (rest := []) (k := 12) X hf (fun p1 => (some (tI p1.1), p1.2)) (fun _ q => m_X12_meant q) (gdV tb_1363 tb_1364 tb_1701 tb_12 tb_1365) rfl (by decide +kernel) rfl (by decide) rfl (by decide) (by decide) rfl (Nat.le_of_ble_eq_true rfl) dX12_meaning_2 (fun p1 hf => ?_)
  refine g_istore_n (lv' := [(0, tR a0), (1, tI a1), (2, tI p1.1)]) X dX12_meaning_5 (by decide) (in_pick [1, 2, 0] rfl) ?_
  refine g_iload_n X dX12_meaning_6 2 rfl ?_
  refine g_ifne (tgt := 14) X hf dX12_meaning_7 (by decide) (fun hf => ?_) (fun hf => ?_)
  · refine g_iconst (v := 0) X dX12_meaning_10 (by decide) ?_
    refine g_goto (tgt := 40) X dX12_meaning_11 (by decide) ?_
    exact g_ireturn X (zW hf) (by decide) (by decide) dX12_meaning_40
  · refine g_iload_n X dX12_meaning_14 2 rfl ?_
    refine g_callS (n := 1) (av := [tI p1.1]) (rest := []) X hf (fun v2 => (some (tI v2), p1.2)) (fun _ q => m_X12_bits q) (gdS tb_1369 tb_1370 tb_12 tb_1371) rfl (by decide +kernel) rfl (by decide) (by decide) rfl (Nat.le_of_ble_eq_true rfl) dX12_meaning_15 (fun v2 hf => ?_)
    refine g_iconst (v := 1) X dX12_meaning_18 (by decide) ?_
    refine g_icmple (tgt := 26) X hf dX12_meaning_19 (by decide) (fun hf => ?_) (fun hf => ?_)
    · refine g_iconst (v := 3) X dX12_meaning_22 (by decide) ?_
      refine g_goto (tgt := 40) X dX12_meaning_23 (by decide) ?_
      exact g_ireturn X (zW hf) (by decide) (by decide) dX12_meaning_40
    · refine g_aload_n X dX12_meaning_26 0 rfl ?_
      refine g_iload_n X dX12_meaning_27 1 rfl ?_
      refine g_iconst (v := 1) X dX12_meaning_28 (by decide) ?_
      refine g_callV (n := 2) (av := [tI a1, tI 1]) (rest := []) (k := 12) X hf (fun p3 => (some (tI p3.1), p3.2)) (fun _ q => m_X12_fits q) (gdV tb_1366 tb_1367 tb_1702 tb_12 tb_1368) rfl (by decide +kernel) rfl (by decide) rfl (by decide) (by decide) rfl (Nat.le_of_ble_eq_true rfl) dX12_meaning_29 (fun p3 hf => ?_)
      refine g_ifeq (tgt := 39) X hf dX12_meaning_32 (by decide) (fun hf => ?_) (fun hf => ?_)
      · refine g_iconst (v := 2) X dX12_meaning_39 (by decide) ?_
        exact g_ireturn X (zW hf) (by decide) (by decide) dX12_meaning_40
      · refine g_iconst (v := 1) X dX12_meaning_35 (by decide) ?_
        refine g_goto (tgt := 40) X dX12_meaning_36 (by decide) ?_
        exact g_ireturn X (zW hf) (by decide) (by decide) dX12_meaning_40
def f_X12_byteAt  (a0 : Option Nat) (a1 : Int32) (h : AH) : Option Int32 :=
  (gI 12 12 h a0).bind fun v1 =>
  if a1 < v1 then
    (gI 12 11 h a0).bind fun v2 =>
    if v2 < 0 then
      (gR 12 3 h a0).bind fun v3 =>
      (aI h v3 a1).bind fun v4 =>
      some v4
    else
      (gR 12 0 h a0).bind fun v5 =>
      (gI 12 11 h a0).bind fun v6 =>
      (aI h v5 (v6 + a1)).bind fun v7 =>
      some v7
  else
    some (-1)
set_option maxRecDepth 20000 in
theorem m_X12_byteAt  {a0 : Option Nat} {a1 : Int32} {h : AH} {w : Int32} (hf : f_X12_byteAt a0 a1 h = some w) : CT yX12_byteAt (wU yX12_byteAt cX12_byteAt 2 (some .int)) (rmD 1 0 0) 0 0 [tR a0, tI a1] h (some (tI w), h) := by
  refine CT.of (cc := cX12_byteAt) (nL := 2) (ret := (some .int)) (by decide) (by simp [lg_sl, vOf_cat, wOf]) ?_
  intro K X
  refine g_locs (lv' := [(0, tR a0), (1, tI a1)]) (fun q hq => hq) ?_
  unfold f_X12_byteAt at hf
  refine g_iload_n X dX12_byteAt_0 1 rfl ?_
  refine g_aload_n X dX12_byteAt_1 0 rfl ?_
  refine g_getI X hf (T := TX12) rfl (by decide) (by decide) in_RX12 tb_1147 rfl dX12_byteAt_2 (fun v1 hf => ?_)
  refine g_icmplt (tgt := 12) X hf dX12_byteAt_5 (by decide) (fun hf => ?_) (fun hf => ?_)
  · refine g_aload_n X dX12_byteAt_12 0 rfl ?_
    refine g_getI X hf (T := TX12) rfl (by decide) (by decide) in_RX12 tb_1146 rfl dX12_byteAt_13 (fun v2 hf => ?_)
    refine g_ifge (tgt := 28) X hf dX12_byteAt_16 (by decide) (fun hf => ?_) (fun hf => ?_)
    · refine g_aload_n X dX12_byteAt_19 0 rfl ?_
      refine g_getR X hf (T := TX12) rfl (by decide) (by decide) in_RX12 tb_1138 rfl dX12_byteAt_20 (fun v3 hf => ?_)
      refine g_iload_n X dX12_byteAt_23 1 rfl ?_
      refine g_iaload X hf dX12_byteAt_24 (fun v4 hf => ?_)
      refine g_goto (tgt := 39) X dX12_byteAt_25 (by decide) ?_
      exact g_ireturn X (zP hf) (by decide) (by decide) dX12_byteAt_39
    · refine g_aload_n X dX12_byteAt_28 0 rfl ?_
      refine g_getR X hf (T := TX12) rfl (by decide) (by decide) in_RX12 tb_1135 rfl dX12_byteAt_29 (fun v5 hf => ?_)
      refine g_aload_n X dX12_byteAt_32 0 rfl ?_
      refine g_getI X hf (T := TX12) rfl (by decide) (by decide) in_RX12 tb_1146 rfl dX12_byteAt_33 (fun v6 hf => ?_)
      refine g_iload_n X dX12_byteAt_36 1 rfl ?_
      refine g_iadd X dX12_byteAt_37 ?_
      refine g_iaload X hf dX12_byteAt_38 (fun v7 hf => ?_)
      exact g_ireturn X (zP hf) (by decide) (by decide) dX12_byteAt_39
  · refine g_iconst (v := (-1)) X dX12_byteAt_8 (by decide) ?_
    refine g_goto (tgt := 39) X dX12_byteAt_9 (by decide) ?_
    exact g_ireturn X (zP hf) (by decide) (by decide) dX12_byteAt_39
def b_X12_word__101  (k17 : Option Nat → Int32 → Int32 → Int32 → Int32 → AH → Option AH) (x0 : Option Nat) (x1 : Int32) (x2 : Int32) (x4 : Int32) (s0 : Int32) (h : AH) : Option AH :=
  k17 x0 x1 (x2 + 1) s0 (x4 + 1) h
set_option maxRecDepth 20000 in
theorem w_X12_word__101 {K : KT} {w : AH} {k17 : Option Nat → Int32 → Int32 → Int32 → Int32 → AH → Option AH}  (X : CX K cX12_word_ RX12 TB none "word" (rmD 2 0 0) 5 0 0) (hk17 : ∀ (x0 : Option Nat) (x1 : Int32) (x2 : Int32) (x3 : Int32) (x4 : Int32) (h : AH), k17 x0 x1 x2 x3 x4 h = some w → GG K (none, w) 0 0 17 [(0, tR x0), (1, tI x1), (2, tI x2), (3, tI x3), (4, tI x4)] [] h) (x0 : Option Nat) (x1 : Int32) (x2 : Int32) (x4 : Int32) (s0 : Int32) (h : AH) (hf : b_X12_word__101 k17 x0 x1 x2 x4 s0 h = some w) : GG K (none, w) 0 0 101 [(0, tR x0), (1, tI x1), (2, tI x2), (4, tI x4)] [tI s0] h := by
  unfold b_X12_word__101 at hf
  refine g_istore_n (lv' := [(0, tR x0), (1, tI x1), (2, tI x2), (3, tI s0), (4, tI x4)]) X dX12_word__101 (by decide) (in_pick [1, 2, 3, 0, 4] rfl) ?_
  refine g_iinc (v := (x2 + 1)) (lv' := [(0, tR x0), (1, tI x1), (2, tI (x2 + 1)), (3, tI s0), (4, tI x4)]) X dX12_word__102 2 rfl (by rfl) (by decide) (in_pick [1, 2, 0, 3, 4] rfl) ?_
  refine g_iinc (v := (x4 + 1)) (lv' := [(0, tR x0), (1, tI x1), (2, tI (x2 + 1)), (3, tI s0), (4, tI (x4 + 1))]) X dX12_word__105 4 rfl (by rfl) (by decide) (in_pick [1, 2, 3, 4, 0] rfl) ?_
  refine g_goto (tgt := 17) X dX12_word__108 (by decide) ?_
  exact hk17 x0 x1 (x2 + 1) s0 (x4 + 1) h hf
def b_X12_word__57  (k17 : Option Nat → Int32 → Int32 → Int32 → Int32 → AH → Option AH) (x0 : Option Nat) (x1 : Int32) (x4 : Int32) (h : AH) : Option AH :=
  (gI 12 14 h x0).bind fun v1 =>
  k17 x0 (x1 + 1) v1 1 (x4 + 1) h
set_option maxRecDepth 20000 in
theorem w_X12_word__57 {K : KT} {w : AH} {k17 : Option Nat → Int32 → Int32 → Int32 → Int32 → AH → Option AH}  (X : CX K cX12_word_ RX12 TB none "word" (rmD 2 0 0) 5 0 0) (hk17 : ∀ (x0 : Option Nat) (x1 : Int32) (x2 : Int32) (x3 : Int32) (x4 : Int32) (h : AH), k17 x0 x1 x2 x3 x4 h = some w → GG K (none, w) 0 0 17 [(0, tR x0), (1, tI x1), (2, tI x2), (3, tI x3), (4, tI x4)] [] h) (x0 : Option Nat) (x1 : Int32) (x4 : Int32) (h : AH) (hf : b_X12_word__57 k17 x0 x1 x4 h = some w) : GG K (none, w) 0 0 57 [(0, tR x0), (1, tI x1), (4, tI x4)] [] h := by
  unfold b_X12_word__57 at hf
  refine g_iinc (v := (x1 + 1)) (lv' := [(0, tR x0), (1, tI (x1 + 1)), (4, tI x4)]) X dX12_word__57 1 rfl (by rfl) (by decide) (in_pick [1, 0, 2] rfl) ?_
  refine g_aload_n X dX12_word__60 0 rfl ?_
  refine g_getI X hf (T := TX12) rfl (by decide) (by decide) in_RX12 tb_1149 rfl dX12_word__61 (fun v1 hf => ?_)
  refine g_istore_n (lv' := [(0, tR x0), (1, tI (x1 + 1)), (2, tI v1), (4, tI x4)]) X dX12_word__64 (by decide) (in_pick [1, 2, 0, 3] rfl) ?_
  refine g_iconst (v := 1) X dX12_word__65 (by decide) ?_
  refine g_istore_n (lv' := [(0, tR x0), (1, tI (x1 + 1)), (2, tI v1), (3, tI 1), (4, tI x4)]) X dX12_word__66 (by decide) (in_pick [1, 2, 3, 0, 4] rfl) ?_
  refine g_goto (tgt := 105) X dX12_word__67 (by decide) ?_
  refine g_iinc (v := (x4 + 1)) (lv' := [(0, tR x0), (1, tI (x1 + 1)), (2, tI v1), (3, tI 1), (4, tI (x4 + 1))]) X dX12_word__105 4 rfl (by rfl) (by decide) (in_pick [1, 2, 3, 4, 0] rfl) ?_
  refine g_goto (tgt := 17) X dX12_word__108 (by decide) ?_
  exact hk17 x0 (x1 + 1) v1 1 (x4 + 1) h hf
def b_X12_word__17    : Nat → Option Nat → Int32 → Int32 → Int32 → Int32 → AH → Option AH
  | 0 => fun _ _ _ _ _ _ => none
  | n + 1 => fun x0 x1 x2 x3 x4 h =>
    (aL h (some (h.2.2 4))).bind fun v1 =>
    if x4 < v1 then
      (aI h (some (h.2.2 4)) x4).bind fun v2 =>
      if v2 = 0 then
        if x3 = 0 then
          b_X12_word__57 (b_X12_word__17 n) x0 x1 x4 h
        else
          (gI 12 13 h x0).bind fun v3 =>
          if x2 = v3 then
            (pI 12 15 h x0 2).bind fun h4 =>
            (pI 12 16 h4 x0 x1).bind fun h5 =>
            b_X12_word__57 (b_X12_word__17 n) x0 x1 x4 h5
          else
            b_X12_word__57 (b_X12_word__17 n) x0 x1 x4 h
      else
        if x3 = 0 then
          b_X12_word__101 (b_X12_word__17 n) x0 x1 x2 x4 0 h
        else
          (gI 12 13 h x0).bind fun v6 =>
          if x2 < v6 then
            (ck 12 h x0 (f_X12_byteAt x0 x2 h)).bind fun v7 =>
            (aI h (some (h.2.2 4)) x4).bind fun v8 =>
            if v7 = v8 then
              b_X12_word__101 (b_X12_word__17 n) x0 x1 x2 x4 1 h
            else
              b_X12_word__101 (b_X12_word__17 n) x0 x1 x2 x4 0 h
          else
            b_X12_word__101 (b_X12_word__17 n) x0 x1 x2 x4 0 h
    else
      some h
set_option maxRecDepth 20000 in
theorem w_X12_word__17 {K : KT} {w : AH}   (X : CX K cX12_word_ RX12 TB none "word" (rmD 2 0 0) 5 0 0)  : ∀ (n : Nat) (x0 : Option Nat) (x1 : Int32) (x2 : Int32) (x3 : Int32) (x4 : Int32) (h : AH), b_X12_word__17 n x0 x1 x2 x3 x4 h = some w → GG K (none, w) 0 0 17 [(0, tR x0), (1, tI x1), (2, tI x2), (3, tI x3), (4, tI x4)] [] h := by
  intro n
  induction n with
  | zero =>
    intro x0 x1 x2 x3 x4 h hf
    cases (show none = some w from hf)
  | succ n ih =>
    intro x0 x1 x2 x3 x4 h hf
    rw [b_X12_word__17] at hf
    refine g_iload X dX12_word__17 4 rfl ?_
    refine g_gets 4 (by decide) X tb_1390 dX12_word__19 ?_
    refine g_alen X hf dX12_word__22 (fun v1 hf => ?_)
    refine g_icmpge (tgt := 111) X hf dX12_word__23 (by decide) (fun hf => ?_) (fun hf => ?_)
    · refine g_gets 4 (by decide) X tb_1390 dX12_word__26 ?_
      refine g_iload X dX12_word__29 4 rfl ?_
      refine g_iaload X hf dX12_word__31 (fun v2 hf => ?_)
      refine g_ifne (tgt := 70) X hf dX12_word__32 (by decide) (fun hf => ?_) (fun hf => ?_)
      · refine g_iload_n X dX12_word__35 3 rfl ?_
        refine g_ifeq (tgt := 57) X hf dX12_word__36 (by decide) (fun hf => ?_) (fun hf => ?_)
        · refine g_locs (lv' := [(0, tR x0), (1, tI x1), (4, tI x4)]) (in_pick [0, 1, 4] rfl) ?_
          exact w_X12_word__57 X ih x0 x1 x4 h hf
        · refine g_iload_n X dX12_word__39 2 rfl ?_
          refine g_aload_n X dX12_word__40 0 rfl ?_
          refine g_getI X hf (T := TX12) rfl (by decide) (by decide) in_RX12 tb_1148 rfl dX12_word__41 (fun v3 hf => ?_)
          refine g_icmpne (tgt := 57) X hf dX12_word__44 (by decide) (fun hf => ?_) (fun hf => ?_)
          · refine g_aload_n X dX12_word__47 0 rfl ?_
            refine g_iconst (v := 2) X dX12_word__48 (by decide) ?_
            refine g_putI X hf (T := TX12) rfl (by decide) (by decide) in_RX12 tyX12 tyX12_ok nmX12 tb_1150 rfl rfl rfl dX12_word__49 (fun h4 hf => ?_)
            refine g_aload_n X dX12_word__52 0 rfl ?_
            refine g_iload_n X dX12_word__53 1 rfl ?_
            refine g_putI X hf (T := TX12) rfl (by decide) (by decide) in_RX12 tyX12 tyX12_ok nmX12 tb_1151 rfl rfl rfl dX12_word__54 (fun h5 hf => ?_)
            refine g_locs (lv' := [(0, tR x0), (1, tI x1), (4, tI x4)]) (in_pick [0, 1, 4] rfl) ?_
            exact w_X12_word__57 X ih x0 x1 x4 h5 hf
          · refine g_locs (lv' := [(0, tR x0), (1, tI x1), (4, tI x4)]) (in_pick [0, 1, 4] rfl) ?_
            exact w_X12_word__57 X ih x0 x1 x4 h hf
      · refine g_iload_n X dX12_word__70 3 rfl ?_
        refine g_ifeq (tgt := 100) X hf dX12_word__71 (by decide) (fun hf => ?_) (fun hf => ?_)
        · refine g_iconst (v := 0) X dX12_word__100 (by decide) ?_
          refine g_locs (lv' := [(0, tR x0), (1, tI x1), (2, tI x2), (4, tI x4)]) (in_pick [0, 1, 2, 4] rfl) ?_
          exact w_X12_word__101 X ih x0 x1 x2 x4 0 h hf
        · refine g_iload_n X dX12_word__74 2 rfl ?_
          refine g_aload_n X dX12_word__75 0 rfl ?_
          refine g_getI X hf (T := TX12) rfl (by decide) (by decide) in_RX12 tb_1148 rfl dX12_word__76 (fun v6 hf => ?_)
          refine g_icmpge (tgt := 100) X hf dX12_word__79 (by decide) (fun hf => ?_) (fun hf => ?_)
          · refine g_aload_n X dX12_word__82 0 rfl ?_
            refine g_iload_n X dX12_word__83 2 rfl ?_
            refine g_callV (n := 1) (av := [tI x2]) (rest := []) (k := 12) X hf (fun v7 => (some (tI v7), h)) (fun _ q => m_X12_byteAt q) (gdV tb_1384 tb_1385 tb_1707 tb_12 tb_1386) rfl (by decide +kernel) rfl (by decide) rfl (by decide) (by decide) rfl (Nat.le_of_ble_eq_true rfl) dX12_word__84 (fun v7 hf => ?_)
            refine g_gets 4 (by decide) X tb_1390 dX12_word__87 ?_
            refine g_iload X dX12_word__90 4 rfl ?_
            refine g_iaload X hf dX12_word__92 (fun v8 hf => ?_)
            refine g_icmpne (tgt := 100) X hf dX12_word__93 (by decide) (fun hf => ?_) (fun hf => ?_)
            · refine g_iconst (v := 1) X dX12_word__96 (by decide) ?_
              refine g_goto (tgt := 101) X dX12_word__97 (by decide) ?_
              refine g_locs (lv' := [(0, tR x0), (1, tI x1), (2, tI x2), (4, tI x4)]) (in_pick [0, 1, 2, 4] rfl) ?_
              exact w_X12_word__101 X ih x0 x1 x2 x4 1 h hf
            · refine g_iconst (v := 0) X dX12_word__100 (by decide) ?_
              refine g_locs (lv' := [(0, tR x0), (1, tI x1), (2, tI x2), (4, tI x4)]) (in_pick [0, 1, 2, 4] rfl) ?_
              exact w_X12_word__101 X ih x0 x1 x2 x4 0 h hf
          · refine g_iconst (v := 0) X dX12_word__100 (by decide) ?_
            refine g_locs (lv' := [(0, tR x0), (1, tI x1), (2, tI x2), (4, tI x4)]) (in_pick [0, 1, 2, 4] rfl) ?_
            exact w_X12_word__101 X ih x0 x1 x2 x4 0 h hf
    · exact g_vreturn X (zV hf) (by decide) (by decide) dX12_word__111
def f_X12_word_  (a0 : Option Nat) (h : AH) : Option AH :=
  (pI 12 15 h a0 1).bind fun h1 =>
  (gI 12 14 h1 a0).bind fun v2 =>
  b_X12_word__17 FU a0 0 v2 1 0 h1
set_option maxRecDepth 20000 in
theorem m_X12_word_  {a0 : Option Nat} {h : AH} {w : AH} (hf : f_X12_word_ a0 h = some w) : CT yX12_word_ (wU yX12_word_ cX12_word_ 5 none) (rmD 2 0 0) 0 0 [tR a0] h (none, w) := by
  refine CT.of (cc := cX12_word_) (nL := 5) (ret := none) (by decide) (by simp [lg_sl, vOf_cat, wOf]) ?_
  intro K X
  refine g_locs (lv' := [(0, tR a0)]) (fun q hq => hq) ?_
  unfold f_X12_word_ at hf
  refine g_aload_n X dX12_word__0 0 rfl ?_
  refine g_iconst (v := 1) X dX12_word__1 (by decide) ?_
  refine g_putI X hf (T := TX12) rfl (by decide) (by decide) in_RX12 tyX12 tyX12_ok nmX12 tb_1150 rfl rfl rfl dX12_word__2 (fun h1 hf => ?_)
  refine g_iconst (v := 0) X dX12_word__5 (by decide) ?_
  refine g_istore_n (lv' := [(0, tR a0), (1, tI 0)]) X dX12_word__6 (by decide) (in_pick [1, 0] rfl) ?_
  refine g_aload_n X dX12_word__7 0 rfl ?_
  refine g_getI X hf (T := TX12) rfl (by decide) (by decide) in_RX12 tb_1149 rfl dX12_word__8 (fun v2 hf => ?_)
  refine g_istore_n (lv' := [(0, tR a0), (1, tI 0), (2, tI v2)]) X dX12_word__11 (by decide) (in_pick [1, 2, 0] rfl) ?_
  refine g_iconst (v := 1) X dX12_word__12 (by decide) ?_
  refine g_istore_n (lv' := [(0, tR a0), (1, tI 0), (2, tI v2), (3, tI 1)]) X dX12_word__13 (by decide) (in_pick [1, 2, 3, 0] rfl) ?_
  refine g_iconst (v := 0) X dX12_word__14 (by decide) ?_
  refine g_istore (lv' := [(0, tR a0), (1, tI 0), (2, tI v2), (3, tI 1), (4, tI 0)]) X dX12_word__15 (by decide) (in_pick [1, 2, 3, 4, 0] rfl) ?_
  exact w_X12_word__17 X FU a0 0 v2 1 0 h1 hf
def b_X12_next_283   (s0 : Option Nat) (s1 : Int32) (h : AH) : Option AH :=
  (pI 12 15 h s0 s1).bind fun h1 =>
  some h1
set_option maxRecDepth 20000 in
theorem w_X12_next_283 {K : KT} {w : AH}   (X : CX K cX12_next RX12 TB none "next" (rmD 3 0 0) 2 0 0)  (s0 : Option Nat) (s1 : Int32) (h : AH) (hf : b_X12_next_283 s0 s1 h = some w) : GG K (none, w) 0 0 283 [] [tI s1, tR s0] h := by
  unfold b_X12_next_283 at hf
  refine g_putI X hf (T := TX12) rfl (by decide) (by decide) in_RX12 tyX12 tyX12_ok nmX12 tb_1150 rfl rfl rfl dX12_next_283 (fun h1 hf => ?_)
  exact g_vreturn X (zV hf) (by decide) (by decide) dX12_next_286
def b_X12_next_181    : Nat → Option Nat → AH → Option AH
  | 0 => fun _ _ => none
  | n + 1 => fun x0 h =>
    (gI 12 13 h x0).bind fun v1 =>
    (ck 12 h x0 (f_X12_byteAt x0 v1 h)).bind fun v2 =>
    (f_X12_in v2 97 122 h).bind fun v3 =>
    if v3 = 0 then
      (ck 12 h x0 (f_X12_word_ x0 h)).bind fun h4 =>
      some h4
    else
      (gI 12 13 h x0).bind fun v5 =>
      (pI 12 13 h x0 (v5 + 1)).bind fun h6 =>
      b_X12_next_181 n x0 h6
set_option maxRecDepth 20000 in
theorem w_X12_next_181 {K : KT} {w : AH}   (X : CX K cX12_next RX12 TB none "next" (rmD 3 0 0) 2 0 0)  : ∀ (n : Nat) (x0 : Option Nat) (h : AH), b_X12_next_181 n x0 h = some w → GG K (none, w) 0 0 181 [(0, tR x0)] [] h := by
  intro n
  induction n with
  | zero =>
    intro x0 h hf
    cases (show none = some w from hf)
  | succ n ih =>
    intro x0 h hf
    rw [b_X12_next_181] at hf
    refine g_aload_n X dX12_next_181 0 rfl ?_
    refine g_aload_n X dX12_next_182 0 rfl ?_
    refine g_getI X hf (T := TX12) rfl (by decide) (by decide) in_RX12 tb_1148 rfl dX12_next_183 (fun v1 hf => ?_)
    refine g_callV (n := 1) (av := [tI v1]) (rest := []) (k := 12) X hf (fun v2 => (some (tI v2), h)) (fun _ q => m_X12_byteAt q) (gdV tb_1384 tb_1385 tb_1707 tb_12 tb_1386) rfl (by decide +kernel) rfl (by decide) rfl (by decide) (by decide) rfl (Nat.le_of_ble_eq_true rfl) dX12_next_186 (fun v2 hf => ?_)
    refine g_bipush (v := 97) X dX12_next_189 (by decide) ?_
    refine g_bipush (v := 122) X dX12_next_191 (by decide) ?_
    refine g_callS (n := 3) (av := [tI v2, tI 97, tI 122]) (rest := []) X hf (fun v3 => (some (tI v3), h)) (fun _ q => m_X12_in q) (gdS tb_1226 tb_1227 tb_12 tb_1228) rfl (by decide +kernel) rfl (by decide) (by decide) rfl (Nat.le_of_ble_eq_true rfl) dX12_next_193 (fun v3 hf => ?_)
    refine g_ifeq (tgt := 212) X hf dX12_next_196 (by decide) (fun hf => ?_) (fun hf => ?_)
    · refine g_aload_n X dX12_next_212 0 rfl ?_
      refine g_callV (n := 0) (av := []) (rest := []) (k := 12) X hf (fun h4 => (none, h4)) (fun _ q => m_X12_word_ q) (gdV tb_1387 tb_1388 tb_1708 tb_12 tb_1389) rfl (by decide +kernel) rfl (by decide) rfl (by decide) (by decide) rfl (Nat.le_of_ble_eq_true rfl) dX12_next_213 (fun h4 hf => ?_)
      refine g_goto (tgt := 286) X dX12_next_216 (by decide) ?_
      exact g_vreturn X (zV hf) (by decide) (by decide) dX12_next_286
    · refine g_aload_n X dX12_next_199 0 rfl ?_
      refine g_dup X dX12_next_200 rfl ?_
      refine g_getI X hf (T := TX12) rfl (by decide) (by decide) in_RX12 tb_1148 rfl dX12_next_201 (fun v5 hf => ?_)
      refine g_iconst (v := 1) X dX12_next_204 (by decide) ?_
      refine g_iadd X dX12_next_205 ?_
      refine g_putI X hf (T := TX12) rfl (by decide) (by decide) in_RX12 tyX12 tyX12_ok nmX12 tb_1148 rfl rfl rfl dX12_next_206 (fun h6 hf => ?_)
      refine g_goto (tgt := 181) X dX12_next_209 (by decide) ?_
      exact ih x0 h6 hf
def b_X12_next_164   (s0 : Option Nat) (s1 : Int32) (h : AH) : Option AH :=
  (pI 12 15 h s0 s1).bind fun h1 =>
  some h1
set_option maxRecDepth 20000 in
theorem w_X12_next_164 {K : KT} {w : AH}   (X : CX K cX12_next RX12 TB none "next" (rmD 3 0 0) 2 0 0)  (s0 : Option Nat) (s1 : Int32) (h : AH) (hf : b_X12_next_164 s0 s1 h = some w) : GG K (none, w) 0 0 164 [] [tI s1, tR s0] h := by
  unfold b_X12_next_164 at hf
  refine g_putI X hf (T := TX12) rfl (by decide) (by decide) in_RX12 tyX12 tyX12_ok nmX12 tb_1150 rfl rfl rfl dX12_next_164 (fun h1 hf => ?_)
  refine g_goto (tgt := 286) X dX12_next_167 (by decide) ?_
  exact g_vreturn X (zV hf) (by decide) (by decide) dX12_next_286
def b_X12_next_129  (k71 : Option Nat → AH → Option AH) (x0 : Option Nat) (s0 : Option Nat) (s1 : Int32) (h : AH) : Option AH :=
  (pI 12 16 h s0 s1).bind fun h1 =>
  (gI 12 13 h1 x0).bind fun v2 =>
  (pI 12 13 h1 x0 (v2 + 1)).bind fun h3 =>
  k71 x0 h3
set_option maxRecDepth 20000 in
theorem w_X12_next_129 {K : KT} {w : AH} {k71 : Option Nat → AH → Option AH}  (X : CX K cX12_next RX12 TB none "next" (rmD 3 0 0) 2 0 0) (hk71 : ∀ (x0 : Option Nat) (h : AH), k71 x0 h = some w → GG K (none, w) 0 0 71 [(0, tR x0)] [] h) (x0 : Option Nat) (s0 : Option Nat) (s1 : Int32) (h : AH) (hf : b_X12_next_129 k71 x0 s0 s1 h = some w) : GG K (none, w) 0 0 129 [(0, tR x0)] [tI s1, tR s0] h := by
  unfold b_X12_next_129 at hf
  refine g_putI X hf (T := TX12) rfl (by decide) (by decide) in_RX12 tyX12 tyX12_ok nmX12 tb_1151 rfl rfl rfl dX12_next_129 (fun h1 hf => ?_)
  refine g_aload_n X dX12_next_132 0 rfl ?_
  refine g_dup X dX12_next_133 rfl ?_
  refine g_getI X hf (T := TX12) rfl (by decide) (by decide) in_RX12 tb_1148 rfl dX12_next_134 (fun v2 hf => ?_)
  refine g_iconst (v := 1) X dX12_next_137 (by decide) ?_
  refine g_iadd X dX12_next_138 ?_
  refine g_putI X hf (T := TX12) rfl (by decide) (by decide) in_RX12 tyX12 tyX12_ok nmX12 tb_1148 rfl rfl rfl dX12_next_139 (fun h3 hf => ?_)
  refine g_goto (tgt := 71) X dX12_next_142 (by decide) ?_
  exact hk71 x0 h3 hf
def b_X12_next_71    : Nat → Option Nat → AH → Option AH
  | 0 => fun _ _ => none
  | n + 1 => fun x0 h =>
    (gI 12 13 h x0).bind fun v1 =>
    (ck 12 h x0 (f_X12_byteAt x0 v1 h)).bind fun v2 =>
    (f_X12_in v2 48 57 h).bind fun v3 =>
    if v3 = 0 then
      (gI 12 13 h x0).bind fun v4 =>
      (gI 12 14 h x0).bind fun v5 =>
      if 4 < (v4 - v5) then
        b_X12_next_164 x0 1 h
      else
        b_X12_next_164 x0 3 h
    else
      (gI 12 13 h x0).bind fun v6 =>
      (gI 12 14 h x0).bind fun v7 =>
      if (v6 - v7) < 4 then
        (gI 12 16 h x0).bind fun v8 =>
        (gI 12 13 h x0).bind fun v9 =>
        (ck 12 h x0 (f_X12_byteAt x0 v9 h)).bind fun v10 =>
        b_X12_next_129 (b_X12_next_71 n) x0 x0 (((10 * v8) + v10) - 48) h
      else
        (gI 12 16 h x0).bind fun v11 =>
        b_X12_next_129 (b_X12_next_71 n) x0 x0 v11 h
set_option maxRecDepth 20000 in
theorem w_X12_next_71 {K : KT} {w : AH}   (X : CX K cX12_next RX12 TB none "next" (rmD 3 0 0) 2 0 0)  : ∀ (n : Nat) (x0 : Option Nat) (h : AH), b_X12_next_71 n x0 h = some w → GG K (none, w) 0 0 71 [(0, tR x0)] [] h := by
  intro n
  induction n with
  | zero =>
    intro x0 h hf
    cases (show none = some w from hf)
  | succ n ih =>
    intro x0 h hf
    rw [b_X12_next_71] at hf
    refine g_aload_n X dX12_next_71 0 rfl ?_
    refine g_aload_n X dX12_next_72 0 rfl ?_
    refine g_getI X hf (T := TX12) rfl (by decide) (by decide) in_RX12 tb_1148 rfl dX12_next_73 (fun v1 hf => ?_)
    refine g_callV (n := 1) (av := [tI v1]) (rest := []) (k := 12) X hf (fun v2 => (some (tI v2), h)) (fun _ q => m_X12_byteAt q) (gdV tb_1384 tb_1385 tb_1707 tb_12 tb_1386) rfl (by decide +kernel) rfl (by decide) rfl (by decide) (by decide) rfl (Nat.le_of_ble_eq_true rfl) dX12_next_76 (fun v2 hf => ?_)
    refine g_bipush (v := 48) X dX12_next_79 (by decide) ?_
    refine g_bipush (v := 57) X dX12_next_81 (by decide) ?_
    refine g_callS (n := 3) (av := [tI v2, tI 48, tI 57]) (rest := []) X hf (fun v3 => (some (tI v3), h)) (fun _ q => m_X12_in q) (gdS tb_1226 tb_1227 tb_12 tb_1228) rfl (by decide +kernel) rfl (by decide) (by decide) rfl (Nat.le_of_ble_eq_true rfl) dX12_next_83 (fun v3 hf => ?_)
    refine g_ifeq (tgt := 145) X hf dX12_next_86 (by decide) (fun hf => ?_) (fun hf => ?_)
    · refine g_aload_n X dX12_next_145 0 rfl ?_
      refine g_aload_n X dX12_next_146 0 rfl ?_
      refine g_getI X hf (T := TX12) rfl (by decide) (by decide) in_RX12 tb_1148 rfl dX12_next_147 (fun v4 hf => ?_)
      refine g_aload_n X dX12_next_150 0 rfl ?_
      refine g_getI X hf (T := TX12) rfl (by decide) (by decide) in_RX12 tb_1149 rfl dX12_next_151 (fun v5 hf => ?_)
      refine g_isub X dX12_next_154 ?_
      refine g_iconst (v := 4) X dX12_next_155 (by decide) ?_
      refine g_icmple (tgt := 163) X hf dX12_next_156 (by decide) (fun hf => ?_) (fun hf => ?_)
      · refine g_iconst (v := 1) X dX12_next_159 (by decide) ?_
        refine g_goto (tgt := 164) X dX12_next_160 (by decide) ?_
        refine g_locs (lv' := []) (in_pick [] rfl) ?_
        exact w_X12_next_164 X x0 1 h hf
      · refine g_iconst (v := 3) X dX12_next_163 (by decide) ?_
        refine g_locs (lv' := []) (in_pick [] rfl) ?_
        exact w_X12_next_164 X x0 3 h hf
    · refine g_aload_n X dX12_next_89 0 rfl ?_
      refine g_aload_n X dX12_next_90 0 rfl ?_
      refine g_getI X hf (T := TX12) rfl (by decide) (by decide) in_RX12 tb_1148 rfl dX12_next_91 (fun v6 hf => ?_)
      refine g_aload_n X dX12_next_94 0 rfl ?_
      refine g_getI X hf (T := TX12) rfl (by decide) (by decide) in_RX12 tb_1149 rfl dX12_next_95 (fun v7 hf => ?_)
      refine g_isub X dX12_next_98 ?_
      refine g_iconst (v := 4) X dX12_next_99 (by decide) ?_
      refine g_icmpge (tgt := 125) X hf dX12_next_100 (by decide) (fun hf => ?_) (fun hf => ?_)
      · refine g_bipush (v := 10) X dX12_next_103 (by decide) ?_
        refine g_aload_n X dX12_next_105 0 rfl ?_
        refine g_getI X hf (T := TX12) rfl (by decide) (by decide) in_RX12 tb_1151 rfl dX12_next_106 (fun v8 hf => ?_)
        refine g_imul X dX12_next_109 ?_
        refine g_aload_n X dX12_next_110 0 rfl ?_
        refine g_aload_n X dX12_next_111 0 rfl ?_
        refine g_getI X hf (T := TX12) rfl (by decide) (by decide) in_RX12 tb_1148 rfl dX12_next_112 (fun v9 hf => ?_)
        refine g_callV (n := 1) (av := [tI v9]) (rest := [tI (10 * v8), tR x0]) (k := 12) X hf (fun v10 => (some (tI v10), h)) (fun _ q => m_X12_byteAt q) (gdV tb_1384 tb_1385 tb_1707 tb_12 tb_1386) rfl (by decide +kernel) rfl (by decide) rfl (by decide) (by decide) rfl (Nat.le_of_ble_eq_true rfl) dX12_next_115 (fun v10 hf => ?_)
        refine g_iadd X dX12_next_118 ?_
        refine g_bipush (v := 48) X dX12_next_119 (by decide) ?_
        refine g_isub X dX12_next_121 ?_
        refine g_goto (tgt := 129) X dX12_next_122 (by decide) ?_
        exact w_X12_next_129 X ih x0 x0 (((10 * v8) + v10) - 48) h hf
      · refine g_aload_n X dX12_next_125 0 rfl ?_
        refine g_getI X hf (T := TX12) rfl (by decide) (by decide) in_RX12 tb_1151 rfl dX12_next_126 (fun v11 hf => ?_)
        exact w_X12_next_129 X ih x0 x0 v11 h hf
def b_X12_next_0    : Nat → Option Nat → AH → Option AH
  | 0 => fun _ _ => none
  | n + 1 => fun x0 h =>
    (gI 12 13 h x0).bind fun v1 =>
    (ck 12 h x0 (f_X12_byteAt x0 v1 h)).bind fun v2 =>
    if v2 = 32 then
      (gI 12 13 h x0).bind fun v3 =>
      (pI 12 13 h x0 (v3 + 1)).bind fun h4 =>
      b_X12_next_0 n x0 h4
    else
      (gI 12 13 h x0).bind fun v5 =>
      (pI 12 14 h x0 v5).bind fun h6 =>
      (gI 12 13 h6 x0).bind fun v7 =>
      (ck 12 h6 x0 (f_X12_byteAt x0 v7 h6)).bind fun v8 =>
      if v8 < 0 then
        (pI 12 15 h6 x0 0).bind fun h9 =>
        some h9
      else
        (f_X12_in v8 48 57 h6).bind fun v10 =>
        if v10 = 0 then
          (f_X12_in v8 97 122 h6).bind fun v11 =>
          if v11 = 0 then
            (gI 12 13 h6 x0).bind fun v12 =>
            (pI 12 13 h6 x0 (v12 + 1)).bind fun h13 =>
            if v8 = 59 then
              b_X12_next_283 x0 v8 h13
            else
              if v8 = 40 then
                b_X12_next_283 x0 v8 h13
              else
                if v8 = 41 then
                  b_X12_next_283 x0 v8 h13
                else
                  if v8 = 60 then
                    b_X12_next_283 x0 v8 h13
                  else
                    if v8 = 61 then
                      b_X12_next_283 x0 v8 h13
                    else
                      if v8 = 62 then
                        b_X12_next_283 x0 v8 h13
                      else
                        if v8 = 43 then
                          b_X12_next_283 x0 v8 h13
                        else
                          if v8 = 45 then
                            b_X12_next_283 x0 v8 h13
                          else
                            b_X12_next_283 x0 1 h13
          else
            b_X12_next_181 FU x0 h6
        else
          (pI 12 16 h6 x0 0).bind fun h14 =>
          b_X12_next_71 FU x0 h14
set_option maxRecDepth 20000 in
theorem w_X12_next_0 {K : KT} {w : AH}   (X : CX K cX12_next RX12 TB none "next" (rmD 3 0 0) 2 0 0)  : ∀ (n : Nat) (x0 : Option Nat) (h : AH), b_X12_next_0 n x0 h = some w → GG K (none, w) 0 0 0 [(0, tR x0)] [] h := by
  intro n
  induction n with
  | zero =>
    intro x0 h hf
    cases (show none = some w from hf)
  | succ n ih =>
    intro x0 h hf
    rw [b_X12_next_0] at hf
    refine g_aload_n X dX12_next_0 0 rfl ?_
    refine g_aload_n X dX12_next_1 0 rfl ?_
    refine g_getI X hf (T := TX12) rfl (by decide) (by decide) in_RX12 tb_1148 rfl dX12_next_2 (fun v1 hf => ?_)
    refine g_callV (n := 1) (av := [tI v1]) (rest := []) (k := 12) X hf (fun v2 => (some (tI v2), h)) (fun _ q => m_X12_byteAt q) (gdV tb_1384 tb_1385 tb_1707 tb_12 tb_1386) rfl (by decide +kernel) rfl (by decide) rfl (by decide) (by decide) rfl (Nat.le_of_ble_eq_true rfl) dX12_next_5 (fun v2 hf => ?_)
    refine g_bipush (v := 32) X dX12_next_8 (by decide) ?_
    refine g_icmpne (tgt := 26) X hf dX12_next_10 (by decide) (fun hf => ?_) (fun hf => ?_)
    · refine g_aload_n X dX12_next_13 0 rfl ?_
      refine g_dup X dX12_next_14 rfl ?_
      refine g_getI X hf (T := TX12) rfl (by decide) (by decide) in_RX12 tb_1148 rfl dX12_next_15 (fun v3 hf => ?_)
      refine g_iconst (v := 1) X dX12_next_18 (by decide) ?_
      refine g_iadd X dX12_next_19 ?_
      refine g_putI X hf (T := TX12) rfl (by decide) (by decide) in_RX12 tyX12 tyX12_ok nmX12 tb_1148 rfl rfl rfl dX12_next_20 (fun h4 hf => ?_)
      refine g_goto (tgt := 0) X dX12_next_23 (by decide) ?_
      exact ih x0 h4 hf
    · refine g_aload_n X dX12_next_26 0 rfl ?_
      refine g_aload_n X dX12_next_27 0 rfl ?_
      refine g_getI X hf (T := TX12) rfl (by decide) (by decide) in_RX12 tb_1148 rfl dX12_next_28 (fun v5 hf => ?_)
      refine g_putI X hf (T := TX12) rfl (by decide) (by decide) in_RX12 tyX12 tyX12_ok nmX12 tb_1149 rfl rfl rfl dX12_next_31 (fun h6 hf => ?_)
      refine g_aload_n X dX12_next_34 0 rfl ?_
      refine g_aload_n X dX12_next_35 0 rfl ?_
      refine g_getI X hf (T := TX12) rfl (by decide) (by decide) in_RX12 tb_1148 rfl dX12_next_36 (fun v7 hf => ?_)
      refine g_callV (n := 1) (av := [tI v7]) (rest := []) (k := 12) X hf (fun v8 => (some (tI v8), h6)) (fun _ q => m_X12_byteAt q) (gdV tb_1384 tb_1385 tb_1707 tb_12 tb_1386) rfl (by decide +kernel) rfl (by decide) rfl (by decide) (by decide) rfl (Nat.le_of_ble_eq_true rfl) dX12_next_39 (fun v8 hf => ?_)
      refine g_istore_n (lv' := [(0, tR x0), (1, tI v8)]) X dX12_next_42 (by decide) (in_pick [1, 0] rfl) ?_
      refine g_iload_n X dX12_next_43 1 rfl ?_
      refine g_ifge (tgt := 55) X hf dX12_next_44 (by decide) (fun hf => ?_) (fun hf => ?_)
      · refine g_aload_n X dX12_next_47 0 rfl ?_
        refine g_iconst (v := 0) X dX12_next_48 (by decide) ?_
        refine g_putI X hf (T := TX12) rfl (by decide) (by decide) in_RX12 tyX12 tyX12_ok nmX12 tb_1150 rfl rfl rfl dX12_next_49 (fun h9 hf => ?_)
        refine g_goto (tgt := 286) X dX12_next_52 (by decide) ?_
        exact g_vreturn X (zV hf) (by decide) (by decide) dX12_next_286
      · refine g_iload_n X dX12_next_55 1 rfl ?_
        refine g_bipush (v := 48) X dX12_next_56 (by decide) ?_
        refine g_bipush (v := 57) X dX12_next_58 (by decide) ?_
        refine g_callS (n := 3) (av := [tI v8, tI 48, tI 57]) (rest := []) X hf (fun v10 => (some (tI v10), h6)) (fun _ q => m_X12_in q) (gdS tb_1226 tb_1227 tb_12 tb_1228) rfl (by decide +kernel) rfl (by decide) (by decide) rfl (Nat.le_of_ble_eq_true rfl) dX12_next_60 (fun v10 hf => ?_)
        refine g_ifeq (tgt := 170) X hf dX12_next_63 (by decide) (fun hf => ?_) (fun hf => ?_)
        · refine g_iload_n X dX12_next_170 1 rfl ?_
          refine g_bipush (v := 97) X dX12_next_171 (by decide) ?_
          refine g_bipush (v := 122) X dX12_next_173 (by decide) ?_
          refine g_callS (n := 3) (av := [tI v8, tI 97, tI 122]) (rest := []) X hf (fun v11 => (some (tI v11), h6)) (fun _ q => m_X12_in q) (gdS tb_1226 tb_1227 tb_12 tb_1228) rfl (by decide +kernel) rfl (by decide) (by decide) rfl (Nat.le_of_ble_eq_true rfl) dX12_next_175 (fun v11 hf => ?_)
          refine g_ifeq (tgt := 219) X hf dX12_next_178 (by decide) (fun hf => ?_) (fun hf => ?_)
          · refine g_aload_n X dX12_next_219 0 rfl ?_
            refine g_dup X dX12_next_220 rfl ?_
            refine g_getI X hf (T := TX12) rfl (by decide) (by decide) in_RX12 tb_1148 rfl dX12_next_221 (fun v12 hf => ?_)
            refine g_iconst (v := 1) X dX12_next_224 (by decide) ?_
            refine g_iadd X dX12_next_225 ?_
            refine g_putI X hf (T := TX12) rfl (by decide) (by decide) in_RX12 tyX12 tyX12_ok nmX12 tb_1148 rfl rfl rfl dX12_next_226 (fun h13 hf => ?_)
            refine g_aload_n X dX12_next_229 0 rfl ?_
            refine g_iload_n X dX12_next_230 1 rfl ?_
            refine g_bipush (v := 59) X dX12_next_231 (by decide) ?_
            refine g_icmpeq (tgt := 278) X hf dX12_next_233 (by decide) (fun hf => ?_) (fun hf => ?_)
            · refine g_iload_n X dX12_next_278 1 rfl ?_
              refine g_goto (tgt := 283) X dX12_next_279 (by decide) ?_
              refine g_locs (lv' := []) (in_pick [] rfl) ?_
              exact w_X12_next_283 X x0 v8 h13 hf
            · refine g_iload_n X dX12_next_236 1 rfl ?_
              refine g_bipush (v := 40) X dX12_next_237 (by decide) ?_
              refine g_icmpeq (tgt := 278) X hf dX12_next_239 (by decide) (fun hf => ?_) (fun hf => ?_)
              · refine g_iload_n X dX12_next_278 1 rfl ?_
                refine g_goto (tgt := 283) X dX12_next_279 (by decide) ?_
                refine g_locs (lv' := []) (in_pick [] rfl) ?_
                exact w_X12_next_283 X x0 v8 h13 hf
              · refine g_iload_n X dX12_next_242 1 rfl ?_
                refine g_bipush (v := 41) X dX12_next_243 (by decide) ?_
                refine g_icmpeq (tgt := 278) X hf dX12_next_245 (by decide) (fun hf => ?_) (fun hf => ?_)
                · refine g_iload_n X dX12_next_278 1 rfl ?_
                  refine g_goto (tgt := 283) X dX12_next_279 (by decide) ?_
                  refine g_locs (lv' := []) (in_pick [] rfl) ?_
                  exact w_X12_next_283 X x0 v8 h13 hf
                · refine g_iload_n X dX12_next_248 1 rfl ?_
                  refine g_bipush (v := 60) X dX12_next_249 (by decide) ?_
                  refine g_icmpeq (tgt := 278) X hf dX12_next_251 (by decide) (fun hf => ?_) (fun hf => ?_)
                  · refine g_iload_n X dX12_next_278 1 rfl ?_
                    refine g_goto (tgt := 283) X dX12_next_279 (by decide) ?_
                    refine g_locs (lv' := []) (in_pick [] rfl) ?_
                    exact w_X12_next_283 X x0 v8 h13 hf
                  · refine g_iload_n X dX12_next_254 1 rfl ?_
                    refine g_bipush (v := 61) X dX12_next_255 (by decide) ?_
                    refine g_icmpeq (tgt := 278) X hf dX12_next_257 (by decide) (fun hf => ?_) (fun hf => ?_)
                    · refine g_iload_n X dX12_next_278 1 rfl ?_
                      refine g_goto (tgt := 283) X dX12_next_279 (by decide) ?_
                      refine g_locs (lv' := []) (in_pick [] rfl) ?_
                      exact w_X12_next_283 X x0 v8 h13 hf
                    · refine g_iload_n X dX12_next_260 1 rfl ?_
                      refine g_bipush (v := 62) X dX12_next_261 (by decide) ?_
                      refine g_icmpeq (tgt := 278) X hf dX12_next_263 (by decide) (fun hf => ?_) (fun hf => ?_)
                      · refine g_iload_n X dX12_next_278 1 rfl ?_
                        refine g_goto (tgt := 283) X dX12_next_279 (by decide) ?_
                        refine g_locs (lv' := []) (in_pick [] rfl) ?_
                        exact w_X12_next_283 X x0 v8 h13 hf
                      · refine g_iload_n X dX12_next_266 1 rfl ?_
                        refine g_bipush (v := 43) X dX12_next_267 (by decide) ?_
                        refine g_icmpeq (tgt := 278) X hf dX12_next_269 (by decide) (fun hf => ?_) (fun hf => ?_)
                        · refine g_iload_n X dX12_next_278 1 rfl ?_
                          refine g_goto (tgt := 283) X dX12_next_279 (by decide) ?_
                          refine g_locs (lv' := []) (in_pick [] rfl) ?_
                          exact w_X12_next_283 X x0 v8 h13 hf
                        · refine g_iload_n X dX12_next_272 1 rfl ?_
                          refine g_bipush (v := 45) X dX12_next_273 (by decide) ?_
                          refine g_icmpne (tgt := 282) X hf dX12_next_275 (by decide) (fun hf => ?_) (fun hf => ?_)
                          · refine g_iload_n X dX12_next_278 1 rfl ?_
                            refine g_goto (tgt := 283) X dX12_next_279 (by decide) ?_
                            refine g_locs (lv' := []) (in_pick [] rfl) ?_
                            exact w_X12_next_283 X x0 v8 h13 hf
                          · refine g_iconst (v := 1) X dX12_next_282 (by decide) ?_
                            refine g_locs (lv' := []) (in_pick [] rfl) ?_
                            exact w_X12_next_283 X x0 1 h13 hf
          · refine g_locs (lv' := [(0, tR x0)]) (in_pick [0] rfl) ?_
            exact w_X12_next_181 X FU x0 h6 hf
        · refine g_aload_n X dX12_next_66 0 rfl ?_
          refine g_iconst (v := 0) X dX12_next_67 (by decide) ?_
          refine g_putI X hf (T := TX12) rfl (by decide) (by decide) in_RX12 tyX12 tyX12_ok nmX12 tb_1151 rfl rfl rfl dX12_next_68 (fun h14 hf => ?_)
          refine g_locs (lv' := [(0, tR x0)]) (in_pick [0] rfl) ?_
          exact w_X12_next_71 X FU x0 h14 hf
def f_X12_next  (a0 : Option Nat) (h : AH) : Option AH :=
  b_X12_next_0 FU a0 h
set_option maxRecDepth 20000 in
theorem m_X12_next  {a0 : Option Nat} {h : AH} {w : AH} (hf : f_X12_next a0 h = some w) : CT yX12_next (wU yX12_next cX12_next 2 none) (rmD 3 0 0) 0 0 [tR a0] h (none, w) := by
  refine CT.of (cc := cX12_next) (nL := 2) (ret := none) (by decide) (by simp [lg_sl, vOf_cat, wOf]) ?_
  intro K X
  refine g_locs (lv' := [(0, tR a0)]) (fun q hq => hq) ?_
  unfold f_X12_next at hf
  exact w_X12_next_0 X FU a0 h hf
def b_X12_wrong_19   (s0 : Option Nat) (s1 : Int32) (h : AH) : Option AH :=
  (pI 12 17 h s0 s1).bind fun h1 =>
  some h1
set_option maxRecDepth 20000 in
theorem w_X12_wrong_19 {K : KT} {w : AH}   (X : CX K cX12_wrong RX12 TB none "wrong" (rmD 1 0 0) 1 0 0)  (s0 : Option Nat) (s1 : Int32) (h : AH) (hf : b_X12_wrong_19 s0 s1 h = some w) : GG K (none, w) 0 0 19 [] [tI s1, tR s0] h := by
  unfold b_X12_wrong_19 at hf
  refine g_putI X hf (T := TX12) rfl (by decide) (by decide) in_RX12 tyX12 tyX12_ok nmX12 tb_1152 rfl rfl rfl dX12_wrong_19 (fun h1 hf => ?_)
  exact g_vreturn X (zV hf) (by decide) (by decide) dX12_wrong_22
def f_X12_wrong  (a0 : Option Nat) (h : AH) : Option AH :=
  (gI 12 17 h a0).bind fun v1 =>
  if v1 < 0 then
    (gI 12 14 h a0).bind fun v2 =>
    b_X12_wrong_19 a0 v2 h
  else
    (gI 12 17 h a0).bind fun v3 =>
    b_X12_wrong_19 a0 v3 h
set_option maxRecDepth 20000 in
theorem m_X12_wrong  {a0 : Option Nat} {h : AH} {w : AH} (hf : f_X12_wrong a0 h = some w) : CT yX12_wrong (wU yX12_wrong cX12_wrong 1 none) (rmD 1 0 0) 0 0 [tR a0] h (none, w) := by
  refine CT.of (cc := cX12_wrong) (nL := 1) (ret := none) (by decide) (by simp [lg_sl, vOf_cat, wOf]) ?_
  intro K X
  refine g_locs (lv' := [(0, tR a0)]) (fun q hq => hq) ?_
  unfold f_X12_wrong at hf
  refine g_aload_n X dX12_wrong_0 0 rfl ?_
  refine g_aload_n X dX12_wrong_1 0 rfl ?_
  refine g_getI X hf (T := TX12) rfl (by decide) (by decide) in_RX12 tb_1152 rfl dX12_wrong_2 (fun v1 hf => ?_)
  refine g_ifge (tgt := 15) X hf dX12_wrong_5 (by decide) (fun hf => ?_) (fun hf => ?_)
  · refine g_aload_n X dX12_wrong_8 0 rfl ?_
    refine g_getI X hf (T := TX12) rfl (by decide) (by decide) in_RX12 tb_1149 rfl dX12_wrong_9 (fun v2 hf => ?_)
    refine g_goto (tgt := 19) X dX12_wrong_12 (by decide) ?_
    refine g_locs (lv' := []) (in_pick [] rfl) ?_
    exact w_X12_wrong_19 X a0 v2 h hf
  · refine g_aload_n X dX12_wrong_15 0 rfl ?_
    refine g_getI X hf (T := TX12) rfl (by decide) (by decide) in_RX12 tb_1152 rfl dX12_wrong_16 (fun v3 hf => ?_)
    refine g_locs (lv' := []) (in_pick [] rfl) ?_
    exact w_X12_wrong_19 X a0 v3 h hf
