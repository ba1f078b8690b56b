def f_X11_sherdOf  (a0 : Option Nat) (a1 : Int32) (a2 : Int32) (h : AH) : Option (Int32 × AH) :=
  (gR 11 0 h a0).bind fun v1 =>
  (ck 2 h v1 (f_X2_hasSherd v1 a1 h)).bind fun v2 =>
  if v2 = 0 then
    some ((-1), h)
  else
    (gR 11 0 h a0).bind fun v3 =>
    (gR 2 11 h v3).bind fun v4 =>
    (aR h v4 a1).bind fun v5 =>
    if a2 < 0 ∨ 11 < a2 then
      some ((-1), h)
    else if a2 = 0 then
      (gI 8 0 h v5).bind fun v6 =>
      some (v6, h)
    else if a2 = 1 then
      (gI 8 1 h v5).bind fun v7 =>
      some (v7, h)
    else if a2 = 2 then
      (gI 8 2 h v5).bind fun v8 =>
      if v8 < 0 then
        some ((-3), h)
      else
        (gI 8 2 h v5).bind fun v9 =>
        some (v9, h)
    else if a2 = 3 then
      (gI 8 3 h v5).bind fun v10 =>
      if v10 < 0 then
        some ((-3), h)
      else
        (gI 8 3 h v5).bind fun v11 =>
        some (v11, h)
    else if a2 = 4 then
      (gI 8 4 h v5).bind fun v12 =>
      some (v12, h)
    else if a2 = 5 then
      (gI 8 5 h v5).bind fun v13 =>
      (f_X11_asAnswer v13 h).bind fun v14 =>
      some (v14, h)
    else if a2 = 6 then
      (gI 8 6 h v5).bind fun v15 =>
      some (v15, h)
    else if a2 = 7 then
      (gI 8 7 h v5).bind fun v16 =>
      some (v16, h)
    else if a2 = 8 then
      (gI 8 8 h v5).bind fun v17 =>
      if v17 < 0 then
        some ((-3), h)
      else
        (gI 8 8 h v5).bind fun v18 =>
        some (v18, h)
    else if a2 = 9 then
      (ck 8 h v5 (f_X8_howMeant v5 h)).bind fun v19 =>
      some (v19, h)
    else if a2 = 10 then
      (ck 8 h v5 (f_X8_meant v5 h)).bind fun v20 =>
      some (v20, h)
    else if a2 = 11 then
      (gR 11 0 h a0).bind fun v21 =>
      (ck 2 h v21 (f_X2_lawNow v21 h)).bind fun v22 =>
      (ck 3 h v22 (f_X3_isGood v22 v5 h)).bind fun p23 =>
      (f_X11_asAnswer p23.1 p23.2).bind fun v24 =>
      some (v24, p23.2)
    else none
set_option maxRecDepth 20000 in
theorem m_X11_sherdOf  {a0 : Option Nat} {a1 : Int32} {a2 : Int32} {h : AH} {w : (Int32 × AH)} (hf : f_X11_sherdOf a0 a1 a2 h = some w) : CT yX11_sherdOf (wU yX11_sherdOf cX11_sherdOf 4 (some .int)) (rmD 4 0 0) 0 0 [tR a0, tI a1, tI a2] h (some (tI w.1), w.2) := by
  refine CT.of (cc := cX11_sherdOf) (nL := 4) (ret := (some .int)) (by decide) (by simp [lg_sl, vOf_cat, wOf]) ?_
  intro K X
  refine g_locs (lv' := [(0, tR a0), (1, tI a1), (2, tI a2)]) (fun q hq => hq) ?_
  unfold f_X11_sherdOf at hf
  refine g_aload_n X dX11_sherdOf_0 0 rfl ?_
  refine g_getR X hf (T := TX11) rfl (by decide) (by decide) in_RX11 tb_350 rfl dX11_sherdOf_1 (fun v1 hf => ?_)
  refine g_iload_n X dX11_sherdOf_4 1 rfl ?_
  refine g_callV (n := 1) (av := [tI a1]) (rest := []) (k := 2) X hf (fun v2 => (some (tI v2), h)) (fun _ q => m_X2_hasSherd q) (gdV tb_595 tb_596 tb_597 tb_2 tb_598) rfl (by decide +kernel) rfl (by decide) rfl (by decide) (by decide) rfl (Nat.le_of_ble_eq_true rfl) dX11_sherdOf_5 (fun v2 hf => ?_)
  refine g_ifne (tgt := 13) X hf dX11_sherdOf_8 (by decide) (fun hf => ?_) (fun hf => ?_)
  · refine g_iconst (v := (-1)) X dX11_sherdOf_11 (by decide) ?_
    exact g_ireturn X (zW hf) (by decide) (by decide) dX11_sherdOf_12
  · refine g_aload_n X dX11_sherdOf_13 0 rfl ?_
    refine g_getR X hf (T := TX11) rfl (by decide) (by decide) in_RX11 tb_350 rfl dX11_sherdOf_14 (fun v3 hf => ?_)
    refine g_getR X hf (T := TX2) rfl (by decide) (by decide) in_RX2 tb_234 rfl dX11_sherdOf_17 (fun v4 hf => ?_)
    refine g_iload_n X dX11_sherdOf_20 1 rfl ?_
    refine g_aaload X hf dX11_sherdOf_21 (fun v5 hf => ?_)
    refine g_astore_n (lv' := [(0, tR a0), (1, tI a1), (2, tI a2), (3, tR v5)]) X dX11_sherdOf_22 (by decide) (in_pick [1, 2, 3, 0] rfl) ?_
    refine g_iload_n X dX11_sherdOf_23 2 rfl ?_
    by_cases hsw : a2 < 0 ∨ 11 < a2
    · rw [if_pos hsw] at hf
      refine g_tabOut (tgt := 197) X dX11_sherdOf_24 (tab_out hsw) (by decide) ?_
      refine g_iconst (v := (-1)) X dX11_sherdOf_197 (by decide) ?_
      exact g_ireturn X (zW hf) (by decide) (by decide) dX11_sherdOf_198
    rw [if_neg hsw] at hf
    by_cases hs0 : a2 = 0
    · rw [if_pos hs0] at hf
      refine g_tabIn (off := 64) (tgt := 88) X 0 hs0 dX11_sherdOf_24 (by decide) (by decide) (by decide +kernel) (by decide) ?_
      refine g_aload_n X dX11_sherdOf_88 3 rfl ?_
      refine g_getI X hf (T := TX8) rfl (by decide) (by decide) in_RX8 tb_143 rfl dX11_sherdOf_89 (fun v6 hf => ?_)
      exact g_ireturn X (zW hf) (by decide) (by decide) dX11_sherdOf_92
    rw [if_neg hs0] at hf
    by_cases hs1 : a2 = 1
    · rw [if_pos hs1] at hf
      refine g_tabIn (off := 69) (tgt := 93) X 1 hs1 dX11_sherdOf_24 (by decide) (by decide) (by decide +kernel) (by decide) ?_
      refine g_aload_n X dX11_sherdOf_93 3 rfl ?_
      refine g_getI X hf (T := TX8) rfl (by decide) (by decide) in_RX8 tb_147 rfl dX11_sherdOf_94 (fun v7 hf => ?_)
      exact g_ireturn X (zW hf) (by decide) (by decide) dX11_sherdOf_97
    rw [if_neg hs1] at hf
    by_cases hs2 : a2 = 2
    · rw [if_pos hs2] at hf
      refine g_tabIn (off := 74) (tgt := 98) X 2 hs2 dX11_sherdOf_24 (by decide) (by decide) (by decide +kernel) (by decide) ?_
      refine g_aload_n X dX11_sherdOf_98 3 rfl ?_
      refine g_getI X hf (T := TX8) rfl (by decide) (by decide) in_RX8 tb_151 rfl dX11_sherdOf_99 (fun v8 hf => ?_)
      refine g_ifge (tgt := 110) X hf dX11_sherdOf_102 (by decide) (fun hf => ?_) (fun hf => ?_)
      · refine g_bipush (v := (-3)) X dX11_sherdOf_105 (by decide) ?_
        refine g_goto (tgt := 114) X dX11_sherdOf_107 (by decide) ?_
        exact g_ireturn X (zW hf) (by decide) (by decide) dX11_sherdOf_114
      · refine g_aload_n X dX11_sherdOf_110 3 rfl ?_
        refine g_getI X hf (T := TX8) rfl (by decide) (by decide) in_RX8 tb_151 rfl dX11_sherdOf_111 (fun v9 hf => ?_)
        exact g_ireturn X (zW hf) (by decide) (by decide) dX11_sherdOf_114
    rw [if_neg hs2] at hf
    by_cases hs3 : a2 = 3
    · rw [if_pos hs3] at hf
      refine g_tabIn (off := 91) (tgt := 115) X 3 hs3 dX11_sherdOf_24 (by decide) (by decide) (by decide +kernel) (by decide) ?_
      refine g_aload_n X dX11_sherdOf_115 3 rfl ?_
      refine g_getI X hf (T := TX8) rfl (by decide) (by decide) in_RX8 tb_155 rfl dX11_sherdOf_116 (fun v10 hf => ?_)
      refine g_ifge (tgt := 127) X hf dX11_sherdOf_119 (by decide) (fun hf => ?_) (fun hf => ?_)
      · refine g_bipush (v := (-3)) X dX11_sherdOf_122 (by decide) ?_
        refine g_goto (tgt := 131) X dX11_sherdOf_124 (by decide) ?_
        exact g_ireturn X (zW hf) (by decide) (by decide) dX11_sherdOf_131
      · refine g_aload_n X dX11_sherdOf_127 3 rfl ?_
        refine g_getI X hf (T := TX8) rfl (by decide) (by decide) in_RX8 tb_155 rfl dX11_sherdOf_128 (fun v11 hf => ?_)
        exact g_ireturn X (zW hf) (by decide) (by decide) dX11_sherdOf_131
    rw [if_neg hs3] at hf
    by_cases hs4 : a2 = 4
    · rw [if_pos hs4] at hf
      refine g_tabIn (off := 108) (tgt := 132) X 4 hs4 dX11_sherdOf_24 (by decide) (by decide) (by decide +kernel) (by decide) ?_
      refine g_aload_n X dX11_sherdOf_132 3 rfl ?_
      refine g_getI X hf (T := TX8) rfl (by decide) (by decide) in_RX8 tb_158 rfl dX11_sherdOf_133 (fun v12 hf => ?_)
      exact g_ireturn X (zW hf) (by decide) (by decide) dX11_sherdOf_136
    rw [if_neg hs4] at hf
    by_cases hs5 : a2 = 5
    · rw [if_pos hs5] at hf
      refine g_tabIn (off := 113) (tgt := 137) X 5 hs5 dX11_sherdOf_24 (by decide) (by decide) (by decide +kernel) (by decide) ?_
      refine g_aload_n X dX11_sherdOf_137 3 rfl ?_
      refine g_getI X hf (T := TX8) rfl (by decide) (by decide) in_RX8 tb_161 rfl dX11_sherdOf_138 (fun v13 hf => ?_)
      refine g_callS (n := 1) (av := [tI v13]) (rest := []) X hf (fun v14 => (some (tI v14), h)) (fun _ q => m_X11_asAnswer q) (gdS tb_507 tb_508 tb_1 tb_509) rfl (by decide +kernel) rfl (by decide) (by decide) rfl (Nat.le_of_ble_eq_true rfl) dX11_sherdOf_141 (fun v14 hf => ?_)
      exact g_ireturn X (zW hf) (by decide) (by decide) dX11_sherdOf_144
    rw [if_neg hs5] at hf
    by_cases hs6 : a2 = 6
    · rw [if_pos hs6] at hf
      refine g_tabIn (off := 121) (tgt := 145) X 6 hs6 dX11_sherdOf_24 (by decide) (by decide) (by decide +kernel) (by decide) ?_
      refine g_aload_n X dX11_sherdOf_145 3 rfl ?_
      refine g_getI X hf (T := TX8) rfl (by decide) (by decide) in_RX8 tb_163 rfl dX11_sherdOf_146 (fun v15 hf => ?_)
      exact g_ireturn X (zW hf) (by decide) (by decide) dX11_sherdOf_149
    rw [if_neg hs6] at hf
    by_cases hs7 : a2 = 7
    · rw [if_pos hs7] at hf
      refine g_tabIn (off := 126) (tgt := 150) X 7 hs7 dX11_sherdOf_24 (by decide) (by decide) (by decide +kernel) (by decide) ?_
      refine g_aload_n X dX11_sherdOf_150 3 rfl ?_
      refine g_getI X hf (T := TX8) rfl (by decide) (by decide) in_RX8 tb_167 rfl dX11_sherdOf_151 (fun v16 hf => ?_)
      exact g_ireturn X (zW hf) (by decide) (by decide) dX11_sherdOf_154
    rw [if_neg hs7] at hf
    by_cases hs8 : a2 = 8
    · rw [if_pos hs8] at hf
      refine g_tabIn (off := 131) (tgt := 155) X 8 hs8 dX11_sherdOf_24 (by decide) (by decide) (by decide +kernel) (by decide) ?_
      refine g_aload_n X dX11_sherdOf_155 3 rfl ?_
      refine g_getI X hf (T := TX8) rfl (by decide) (by decide) in_RX8 tb_169 rfl dX11_sherdOf_156 (fun v17 hf => ?_)
      refine g_ifge (tgt := 167) X hf dX11_sherdOf_159 (by decide) (fun hf => ?_) (fun hf => ?_)
      · refine g_bipush (v := (-3)) X dX11_sherdOf_162 (by decide) ?_
        refine g_goto (tgt := 171) X dX11_sherdOf_164 (by decide) ?_
        exact g_ireturn X (zW hf) (by decide) (by decide) dX11_sherdOf_171
      · refine g_aload_n X dX11_sherdOf_167 3 rfl ?_
        refine g_getI X hf (T := TX8) rfl (by decide) (by decide) in_RX8 tb_169 rfl dX11_sherdOf_168 (fun v18 hf => ?_)
        exact g_ireturn X (zW hf) (by decide) (by decide) dX11_sherdOf_171
    rw [if_neg hs8] at hf
    by_cases hs9 : a2 = 9
    · rw [if_pos hs9] at hf
      refine g_tabIn (off := 148) (tgt := 172) X 9 hs9 dX11_sherdOf_24 (by decide) (by decide) (by decide +kernel) (by decide) ?_
      refine g_aload_n X dX11_sherdOf_172 3 rfl ?_
      refine g_callV (n := 0) (av := []) (rest := []) (k := 8) X hf (fun v19 => (some (tI v19), h)) (fun _ q => m_X8_howMeant q) (gdV tb_603 tb_604 tb_605 tb_7 tb_606) rfl (by decide +kernel) rfl (by decide) rfl (by decide) (by decide) rfl (Nat.le_of_ble_eq_true rfl) dX11_sherdOf_173 (fun v19 hf => ?_)
      exact g_ireturn X (zW hf) (by decide) (by decide) dX11_sherdOf_176
    rw [if_neg hs9] at hf
    by_cases hs10 : a2 = 10
    · rw [if_pos hs10] at hf
      refine g_tabIn (off := 153) (tgt := 177) X 10 hs10 dX11_sherdOf_24 (by decide) (by decide) (by decide +kernel) (by decide) ?_
      refine g_aload_n X dX11_sherdOf_177 3 rfl ?_
      refine g_callV (n := 0) (av := []) (rest := []) (k := 8) X hf (fun v20 => (some (tI v20), h)) (fun _ q => m_X8_meant q) (gdV tb_621 tb_608 tb_609 tb_7 tb_610) rfl (by decide +kernel) rfl (by decide) rfl (by decide) (by decide) rfl (Nat.le_of_ble_eq_true rfl) dX11_sherdOf_178 (fun v20 hf => ?_)
      exact g_ireturn X (zW hf) (by decide) (by decide) dX11_sherdOf_181
    rw [if_neg hs10] at hf
    by_cases hs11 : a2 = 11
    · rw [if_pos hs11] at hf
      refine g_tabIn (off := 158) (tgt := 182) X 11 hs11 dX11_sherdOf_24 (by decide) (by decide) (by decide +kernel) (by decide) ?_
      refine g_aload_n X dX11_sherdOf_182 0 rfl ?_
      refine g_getR X hf (T := TX11) rfl (by decide) (by decide) in_RX11 tb_350 rfl dX11_sherdOf_183 (fun v21 hf => ?_)
      refine g_callV (n := 0) (av := []) (rest := []) (k := 2) X hf (fun v22 => (some (tR v22), h)) (fun _ q => m_X2_lawNow q) (gdV tb_622 tb_623 tb_624 tb_2 tb_625) rfl (by decide +kernel) rfl (by decide) rfl (by decide) (by decide) rfl (Nat.le_of_ble_eq_true rfl) dX11_sherdOf_186 (fun v22 hf => ?_)
      refine g_aload_n X dX11_sherdOf_189 3 rfl ?_
      refine g_callV (n := 1) (av := [tR v5]) (rest := []) (k := 3) X hf (fun p23 => (some (tI p23.1), p23.2)) (fun _ q => m_X3_isGood q) (gdV tb_626 tb_627 tb_628 tb_8 tb_629) rfl (by decide +kernel) rfl (by decide) rfl (by decide) (by decide) rfl (Nat.le_of_ble_eq_true rfl) dX11_sherdOf_190 (fun p23 hf => ?_)
      refine g_callS (n := 1) (av := [tI p23.1]) (rest := []) X hf (fun v24 => (some (tI v24), p23.2)) (fun _ q => m_X11_asAnswer q) (gdS tb_507 tb_508 tb_1 tb_509) rfl (by decide +kernel) rfl (by decide) (by decide) rfl (Nat.le_of_ble_eq_true rfl) dX11_sherdOf_193 (fun v24 hf => ?_)
      exact g_ireturn X (zW hf) (by decide) (by decide) dX11_sherdOf_196
    rw [if_neg hs11] at hf
    cases hf
def f_X11_apart  (a0 : Option Nat) (a1 : Int32) (a2 : Int32) (h : AH) : Option (Int32 × AH) :=
  (f_X11_isName a1 h).bind fun v1 =>
  if v1 = 0 then
    some ((-1), h)
  else
    (f_X11_isName a2 h).bind fun v2 =>
    if v2 = 0 then
      some ((-1), h)
    else
      (gR 11 0 h a0).bind fun v3 =>
      (gR 2 19 h v3).bind fun v4 =>
      (f_X11_lettersApart a1 a2 v4 h).bind fun p5 =>
      some (p5.1, p5.2)
set_option maxRecDepth 20000 in
theorem m_X11_apart  {a0 : Option Nat} {a1 : Int32} {a2 : Int32} {h : AH} {w : (Int32 × AH)} (hf : f_X11_apart a0 a1 a2 h = some w) : CT yX11_apart (wU yX11_apart cX11_apart 3 (some .int)) (rmD 2 0 0) 0 0 [tR a0, tI a1, tI a2] h (some (tI w.1), w.2) := by
  refine CT.of (cc := cX11_apart) (nL := 3) (ret := (some .int)) (by decide) (by simp [lg_sl, vOf_cat, wOf]) ?_
  intro K X
  refine g_locs (lv' := [(0, tR a0), (1, tI a1), (2, tI a2)]) (fun q hq => hq) ?_
  unfold f_X11_apart at hf
  refine g_iload_n X dX11_apart_0 1 rfl ?_
  refine g_callS (n := 1) (av := [tI a1]) (rest := []) X hf (fun v1 => (some (tI v1), h)) (fun _ q => m_X11_isName q) (gdS tb_433 tb_434 tb_1 tb_435) rfl (by decide +kernel) rfl (by decide) (by decide) rfl (Nat.le_of_ble_eq_true rfl) dX11_apart_1 (fun v1 hf => ?_)
  refine g_ifeq (tgt := 14) X hf dX11_apart_4 (by decide) (fun hf => ?_) (fun hf => ?_)
  · refine g_iconst (v := (-1)) X dX11_apart_14 (by decide) ?_
    exact g_ireturn X (zW hf) (by decide) (by decide) dX11_apart_15
  · refine g_iload_n X dX11_apart_7 2 rfl ?_
    refine g_callS (n := 1) (av := [tI a2]) (rest := []) X hf (fun v2 => (some (tI v2), h)) (fun _ q => m_X11_isName q) (gdS tb_433 tb_434 tb_1 tb_435) rfl (by decide +kernel) rfl (by decide) (by decide) rfl (Nat.le_of_ble_eq_true rfl) dX11_apart_8 (fun v2 hf => ?_)
    refine g_ifne (tgt := 16) X hf dX11_apart_11 (by decide) (fun hf => ?_) (fun hf => ?_)
    · refine g_iconst (v := (-1)) X dX11_apart_14 (by decide) ?_
      exact g_ireturn X (zW hf) (by decide) (by decide) dX11_apart_15
    · refine g_iload_n X dX11_apart_16 1 rfl ?_
      refine g_iload_n X dX11_apart_17 2 rfl ?_
      refine g_aload_n X dX11_apart_18 0 rfl ?_
      refine g_getR X hf (T := TX11) rfl (by decide) (by decide) in_RX11 tb_350 rfl dX11_apart_19 (fun v3 hf => ?_)
      refine g_getR X hf (T := TX2) rfl (by decide) (by decide) in_RX2 tb_250 rfl dX11_apart_22 (fun v4 hf => ?_)
      refine g_callS (n := 3) (av := [tI a1, tI a2, tR v4]) (rest := []) X hf (fun p5 => (some (tI p5.1), p5.2)) (fun _ q => m_X11_lettersApart q) (gdS tb_647 tb_448 tb_1 tb_449) rfl (by decide +kernel) rfl (by decide) (by decide) rfl (Nat.le_of_ble_eq_true rfl) dX11_apart_25 (fun p5 hf => ?_)
      exact g_ireturn X (zW hf) (by decide) (by decide) dX11_apart_28
def b_X11_feed_33    : Nat → Option Nat → Int64 → Int32 → Int32 → AH → Option (Int32 × AH)
  | 0 => fun _ _ _ _ _ => none
  | n + 1 => fun x0 x1 x3 x4 h =>
    if x4 < x3 then
      (gR 11 2 h x0).bind fun v1 =>
      (gR 4 0 h v1).bind fun v2 =>
      (gR 11 2 h x0).bind fun v3 =>
      (gI 4 1 h v3).bind fun v4 =>
      (sI h v2 (v4 + x4) ((((x1 >>> (((8 * x4) : Int32).toInt64 &&& 63)) : Int64).toInt32) &&& 255)).bind fun h5 =>
      b_X11_feed_33 n x0 x1 x3 (x4 + 1) h5
    else
      (gR 11 2 h x0).bind fun v6 =>
      (gI 4 1 h v6).bind fun v7 =>
      (pI 4 1 h v6 (v7 + x3)).bind fun h8 =>
      (gR 11 2 h8 x0).bind fun v9 =>
      (gI 4 1 h8 v9).bind fun v10 =>
      some (v10, h8)
set_option maxRecDepth 20000 in
theorem w_X11_feed_33 {K : KT} {w : (Int32 × AH)}   (X : CX K cX11_feed RX11 TB (some .int) "feed" (rmD 2 0 0) 5 0 0)  : ∀ (n : Nat) (x0 : Option Nat) (x1 : Int64) (x3 : Int32) (x4 : Int32) (h : AH), b_X11_feed_33 n x0 x1 x3 x4 h = some w → GG K (some (tI w.1), w.2) 0 0 33 [(0, tR x0), (1, tL x1), (3, tI x3), (4, tI x4)] [] h := by
  intro n
  induction n with
  | zero =>
    intro x0 x1 x3 x4 h hf
    cases (show none = some w from hf)
  | succ n ih =>
    intro x0 x1 x3 x4 h hf
    rw [b_X11_feed_33] at hf
    refine g_iload X dX11_feed_33 3 rfl ?_
    refine g_iload_n X dX11_feed_35 2 rfl ?_
    refine g_icmpge (tgt := 75) X hf dX11_feed_36 (by decide) (fun hf => ?_) (fun hf => ?_)
    · refine g_aload_n X dX11_feed_39 0 rfl ?_
      refine g_getR X hf (T := TX11) rfl (by decide) (by decide) in_RX11 tb_352 rfl dX11_feed_40 (fun v1 hf => ?_)
      refine g_getR X hf (T := TX4) rfl (by decide) (by decide) in_RX4 tb_278 rfl dX11_feed_43 (fun v2 hf => ?_)
      refine g_aload_n X dX11_feed_46 0 rfl ?_
      refine g_getR X hf (T := TX11) rfl (by decide) (by decide) in_RX11 tb_352 rfl dX11_feed_47 (fun v3 hf => ?_)
      refine g_getI X hf (T := TX4) rfl (by decide) (by decide) in_RX4 tb_280 rfl dX11_feed_50 (fun v4 hf => ?_)
      refine g_iload X dX11_feed_53 3 rfl ?_
      refine g_iadd X dX11_feed_55 ?_
      refine g_lload_n X dX11_feed_56 1 rfl ?_
      refine g_bipush (v := 8) X dX11_feed_57 (by decide) ?_
      refine g_iload X dX11_feed_59 3 rfl ?_
      refine g_imul X dX11_feed_61 ?_
      refine g_lshr X dX11_feed_62 ?_
      refine g_l2i X dX11_feed_63 ?_
      refine g_sipush (v := 255) X dX11_feed_64 (by decide) ?_
      refine g_iand X dX11_feed_67 ?_
      refine g_iastore X hf dX11_feed_68 (fun h5 hf => ?_)
      refine g_iinc (v := (x4 + 1)) (lv' := [(0, tR x0), (1, tL x1), (3, tI x3), (4, tI (x4 + 1))]) X dX11_feed_69 3 rfl (by rfl) (by decide) (in_pick [1, 2, 3, 0] rfl) ?_
      refine g_goto (tgt := 33) X dX11_feed_72 (by decide) ?_
      exact ih x0 x1 x3 (x4 + 1) h5 hf
    · refine g_aload_n X dX11_feed_75 0 rfl ?_
      refine g_getR X hf (T := TX11) rfl (by decide) (by decide) in_RX11 tb_352 rfl dX11_feed_76 (fun v6 hf => ?_)
      refine g_dup X dX11_feed_79 rfl ?_
      refine g_getI X hf (T := TX4) rfl (by decide) (by decide) in_RX4 tb_280 rfl dX11_feed_80 (fun v7 hf => ?_)
      refine g_iload_n X dX11_feed_83 2 rfl ?_
      refine g_iadd X dX11_feed_84 ?_
      refine g_putI X hf (T := TX4) rfl (by decide) (by decide) in_RX4 tyX4 tyX4_ok nmX4 tb_280 rfl rfl rfl dX11_feed_85 (fun h8 hf => ?_)
      refine g_aload_n X dX11_feed_88 0 rfl ?_
      refine g_getR X hf (T := TX11) rfl (by decide) (by decide) in_RX11 tb_352 rfl dX11_feed_89 (fun v9 hf => ?_)
      refine g_getI X hf (T := TX4) rfl (by decide) (by decide) in_RX4 tb_280 rfl dX11_feed_92 (fun v10 hf => ?_)
      exact g_ireturn X (zW hf) (by decide) (by decide) dX11_feed_95
def f_X11_feed  (a0 : Option Nat) (a1 : Int64) (a2 : Int32) (h : AH) : Option (Int32 × AH) :=
  (f_X11_within a2 1 8 h).bind fun v1 =>
  if v1 = 0 then
    some ((-1), h)
  else
    (gR 11 2 h a0).bind fun v2 =>
    (gI 4 1 h v2).bind fun v3 =>
    if (300 - a2) < v3 then
      some ((-2), h)
    else
      b_X11_feed_33 FU a0 a1 a2 0 h
set_option maxRecDepth 20000 in
theorem m_X11_feed  {a0 : Option Nat} {a1 : Int64} {a2 : Int32} {h : AH} {w : (Int32 × AH)} (hf : f_X11_feed a0 a1 a2 h = some w) : CT yX11_feed (wU yX11_feed cX11_feed 5 (some .int)) (rmD 2 0 0) 0 0 [tR a0, tL a1, tI a2] h (some (tI w.1), w.2) := by
  refine CT.of (cc := cX11_feed) (nL := 5) (ret := (some .int)) (by decide) (by simp [lg_sl, vOf_cat, wOf]) ?_
  intro K X
  refine g_locs (lv' := [(0, tR a0), (1, tL a1), (3, tI a2)]) (fun q hq => hq) ?_
  unfold f_X11_feed at hf
  refine g_iload_n X dX11_feed_0 2 rfl ?_
  refine g_iconst (v := 1) X dX11_feed_1 (by decide) ?_
  refine g_bipush (v := 8) X dX11_feed_2 (by decide) ?_
  refine g_callS (n := 3) (av := [tI a2, tI 1, tI 8]) (rest := []) X hf (fun v1 => (some (tI v1), h)) (fun _ q => m_X11_within q) (gdS tb_388 tb_389 tb_1 tb_390) rfl (by decide +kernel) rfl (by decide) (by decide) rfl (Nat.le_of_ble_eq_true rfl) dX11_feed_4 (fun v1 hf => ?_)
  refine g_ifne (tgt := 12) X hf dX11_feed_7 (by decide) (fun hf => ?_) (fun hf => ?_)
  · refine g_iconst (v := (-1)) X dX11_feed_10 (by decide) ?_
    exact g_ireturn X (zW hf) (by decide) (by decide) dX11_feed_11
  · refine g_aload_n X dX11_feed_12 0 rfl ?_
    refine g_getR X hf (T := TX11) rfl (by decide) (by decide) in_RX11 tb_352 rfl dX11_feed_13 (fun v2 hf => ?_)
    refine g_getI X hf (T := TX4) rfl (by decide) (by decide) in_RX4 tb_280 rfl dX11_feed_16 (fun v3 hf => ?_)
    refine g_sipush (v := 300) X dX11_feed_19 (by decide) ?_
    refine g_iload_n X dX11_feed_22 2 rfl ?_
    refine g_isub X dX11_feed_23 ?_
    refine g_icmple (tgt := 30) X hf dX11_feed_24 (by decide) (fun hf => ?_) (fun hf => ?_)
    · refine g_bipush (v := (-2)) X dX11_feed_27 (by decide) ?_
      exact g_ireturn X (zW hf) (by decide) (by decide) dX11_feed_29
    · refine g_iconst (v := 0) X dX11_feed_30 (by decide) ?_
      refine g_istore (lv' := [(0, tR a0), (1, tL a1), (3, tI a2), (4, tI 0)]) X dX11_feed_31 (by decide) (in_pick [1, 2, 3, 0] rfl) ?_
      exact w_X11_feed_33 X FU a0 a1 a2 0 h hf
def f_X11_read  (a0 : Option Nat) (a1 : Int32) (h : AH) : Option (Int32 × AH) :=
  (f_X11_within a1 0 3 h).bind fun v1 =>
  if v1 = 0 then
    some ((-1), h)
  else
    (gR 11 2 h a0).bind fun v2 =>
    (ck 4 h v2 (f_X4_useTape v2 h)).bind fun p3 =>
    if p3.1 < 0 then
      some (p3.1, p3.2)
    else
      (gR 11 0 p3.2 a0).bind fun v4 =>
      (gR 2 13 p3.2 v4).bind fun v5 =>
      (aR p3.2 v5 a1).bind fun v6 =>
      (gR 11 2 p3.2 a0).bind fun v7 =>
      (gR 4 2 p3.2 v7).bind fun v8 =>
      (ck 3 p3.2 v6 (f_X3_become v6 v8 p3.2)).bind fun h9 =>
      some (p3.1, h9)
set_option maxRecDepth 20000 in
theorem m_X11_read  {a0 : Option Nat} {a1 : Int32} {h : AH} {w : (Int32 × AH)} (hf : f_X11_read a0 a1 h = some w) : CT yX11_read (wU yX11_read cX11_read 3 (some .int)) (rmD 11 0 0) 0 0 [tR a0, tI a1] h (some (tI w.1), w.2) := by
  refine CT.of (cc := cX11_read) (nL := 3) (ret := (some .int)) (by decide) (by simp [lg_sl, vOf_cat, wOf]) ?_
  intro K X
  refine g_locs (lv' := [(0, tR a0), (1, tI a1)]) (fun q hq => hq) ?_
  unfold f_X11_read at hf
  refine g_iload_n X dX11_read_0 1 rfl ?_
  refine g_iconst (v := 0) X dX11_read_1 (by decide) ?_
  refine g_iconst (v := 3) X dX11_read_2 (by decide) ?_
  refine g_callS (n := 3) (av := [tI a1, tI 0, tI 3]) (rest := []) X hf (fun v1 => (some (tI v1), h)) (fun _ q => m_X11_within q) (gdS tb_388 tb_389 tb_1 tb_390) rfl (by decide +kernel) rfl (by decide) (by decide) rfl (Nat.le_of_ble_eq_true rfl) dX11_read_3 (fun v1 hf => ?_)
  refine g_ifne (tgt := 11) X hf dX11_read_6 (by decide) (fun hf => ?_) (fun hf => ?_)
  · refine g_iconst (v := (-1)) X dX11_read_9 (by decide) ?_
    exact g_ireturn X (zW hf) (by decide) (by decide) dX11_read_10
  · refine g_aload_n X dX11_read_11 0 rfl ?_
    refine g_getR X hf (T := TX11) rfl (by decide) (by decide) in_RX11 tb_352 rfl dX11_read_12 (fun v2 hf => ?_)
    refine g_callV (n := 0) (av := []) (rest := []) (k := 4) X hf (fun p3 => (some (tI p3.1), p3.2)) (fun _ q => m_X4_useTape q) (gdV tb_656 tb_657 tb_658 tb_9 tb_659) rfl (by decide +kernel) rfl (by decide) rfl (by decide) (by decide) rfl (Nat.le_of_ble_eq_true rfl) dX11_read_15 (fun p3 hf => ?_)
    refine g_istore_n (lv' := [(0, tR a0), (1, tI a1), (2, tI p3.1)]) X dX11_read_18 (by decide) (in_pick [1, 2, 0] rfl) ?_
    refine g_iload_n X dX11_read_19 2 rfl ?_
    refine g_iflt (tgt := 42) X hf dX11_read_20 (by decide) (fun hf => ?_) (fun hf => ?_)
    · refine g_iload_n X dX11_read_42 2 rfl ?_
      exact g_ireturn X (zW hf) (by decide) (by decide) dX11_read_43
    · refine g_aload_n X dX11_read_23 0 rfl ?_
      refine g_getR X hf (T := TX11) rfl (by decide) (by decide) in_RX11 tb_350 rfl dX11_read_24 (fun v4 hf => ?_)
      refine g_getR X hf (T := TX2) rfl (by decide) (by decide) in_RX2 tb_238 rfl dX11_read_27 (fun v5 hf => ?_)
      refine g_iload_n X dX11_read_30 1 rfl ?_
      refine g_aaload X hf dX11_read_31 (fun v6 hf => ?_)
      refine g_aload_n X dX11_read_32 0 rfl ?_
      refine g_getR X hf (T := TX11) rfl (by decide) (by decide) in_RX11 tb_352 rfl dX11_read_33 (fun v7 hf => ?_)
      refine g_getR X hf (T := TX4) rfl (by decide) (by decide) in_RX4 tb_282 rfl dX11_read_36 (fun v8 hf => ?_)
      refine g_callV (n := 1) (av := [tR v8]) (rest := []) (k := 3) X hf (fun h9 => (none, h9)) (fun _ q => m_X3_become q) (gdV tb_764 tb_765 tb_766 tb_8 tb_767) rfl (by decide +kernel) rfl (by decide) rfl (by decide) (by decide) rfl (Nat.le_of_ble_eq_true rfl) dX11_read_39 (fun h9 hf => ?_)
      refine g_iload_n X dX11_read_42 2 rfl ?_
      exact g_ireturn X (zW hf) (by decide) (by decide) dX11_read_43
def b_X11_force_34   (x0 : Option Nat) (x1 : Int32) (h : AH) : Option (Int32 × AH) :=
  (gR 11 0 h x0).bind fun v1 =>
  (gI 2 14 h v1).bind fun v2 =>
  (gR 11 0 h x0).bind fun v3 =>
  (pI 2 14 h v3 x1).bind fun h4 =>
  some (v2, h4)
set_option maxRecDepth 20000 in
theorem w_X11_force_34 {K : KT} {w : (Int32 × AH)}   (X : CX K cX11_force RX11 TB (some .int) "force" (rmD 2 0 0) 3 0 0)  (x0 : Option Nat) (x1 : Int32) (h : AH) (hf : b_X11_force_34 x0 x1 h = some w) : GG K (some (tI w.1), w.2) 0 0 34 [(0, tR x0), (1, tI x1)] [] h := by
  unfold b_X11_force_34 at hf
  refine g_aload_n X dX11_force_34 0 rfl ?_
  refine g_getR X hf (T := TX11) rfl (by decide) (by decide) in_RX11 tb_350 rfl dX11_force_35 (fun v1 hf => ?_)
  refine g_getI X hf (T := TX2) rfl (by decide) (by decide) in_RX2 tb_240 rfl dX11_force_38 (fun v2 hf => ?_)
  refine g_istore_n (lv' := [(0, tR x0), (1, tI x1), (2, tI v2)]) X dX11_force_41 (by decide) (in_pick [1, 2, 0] rfl) ?_
  refine g_aload_n X dX11_force_42 0 rfl ?_
  refine g_getR X hf (T := TX11) rfl (by decide) (by decide) in_RX11 tb_350 rfl dX11_force_43 (fun v3 hf => ?_)
  refine g_iload_n X dX11_force_46 1 rfl ?_
  refine g_putI X hf (T := TX2) rfl (by decide) (by decide) in_RX2 tyX2 tyX2_ok nmX2 tb_240 rfl rfl rfl dX11_force_47 (fun h4 hf => ?_)
  refine g_iload_n X dX11_force_50 2 rfl ?_
  exact g_ireturn X (zW hf) (by decide) (by decide) dX11_force_51
def f_X11_force  (a0 : Option Nat) (a1 : Int32) (h : AH) : Option (Int32 × AH) :=
  (f_X11_within a1 (-1) 3 h).bind fun v1 =>
  if v1 = 0 then
    some ((-9), h)
  else
    if a1 < 0 then
      b_X11_force_34 a0 a1 h
    else
      (gR 11 0 h a0).bind fun v2 =>
      (gR 2 13 h v2).bind fun v3 =>
      (aR h v3 a1).bind fun v4 =>
      (gI 3 0 h v4).bind fun v5 =>
      if v5 = 0 then
        some ((-8), h)
      else
        b_X11_force_34 a0 a1 h
set_option maxRecDepth 20000 in
theorem m_X11_force  {a0 : Option Nat} {a1 : Int32} {h : AH} {w : (Int32 × AH)} (hf : f_X11_force a0 a1 h = some w) : CT yX11_force (wU yX11_force cX11_force 3 (some .int)) (rmD 2 0 0) 0 0 [tR a0, tI a1] h (some (tI w.1), w.2) := by
  refine CT.of (cc := cX11_force) (nL := 3) (ret := (some .int)) (by decide) (by simp [lg_sl, vOf_cat, wOf]) ?_
  intro K X
  refine g_locs (lv' := [(0, tR a0), (1, tI a1)]) (fun q hq => hq) ?_
  unfold f_X11_force at hf
  refine g_iload_n X dX11_force_0 1 rfl ?_
  refine g_iconst (v := (-1)) X dX11_force_1 (by decide) ?_
  refine g_iconst (v := 3) X dX11_force_2 (by decide) ?_
  refine g_callS (n := 3) (av := [tI a1, tI (-1), tI 3]) (rest := []) X hf (fun v1 => (some (tI v1), h)) (fun _ q => m_X11_within q) (gdS tb_388 tb_389 tb_1 tb_390) rfl (by decide +kernel) rfl (by decide) (by decide) rfl (Nat.le_of_ble_eq_true rfl) dX11_force_3 (fun v1 hf => ?_)
  refine g_ifne (tgt := 12) X hf dX11_force_6 (by decide) (fun hf => ?_) (fun hf => ?_)
  · refine g_bipush (v := (-9)) X dX11_force_9 (by decide) ?_
    exact g_ireturn X (zW hf) (by decide) (by decide) dX11_force_11
  · refine g_iload_n X dX11_force_12 1 rfl ?_
    refine g_iflt (tgt := 34) X hf dX11_force_13 (by decide) (fun hf => ?_) (fun hf => ?_)
    · exact w_X11_force_34 X a0 a1 h hf
    · refine g_aload_n X dX11_force_16 0 rfl ?_
      refine g_getR X hf (T := TX11) rfl (by decide) (by decide) in_RX11 tb_350 rfl dX11_force_17 (fun v2 hf => ?_)
      refine g_getR X hf (T := TX2) rfl (by decide) (by decide) in_RX2 tb_238 rfl dX11_force_20 (fun v3 hf => ?_)
      refine g_iload_n X dX11_force_23 1 rfl ?_
      refine g_aaload X hf dX11_force_24 (fun v4 hf => ?_)
      refine g_getI X hf (T := TX3) rfl (by decide) (by decide) in_RX3 tb_190 rfl dX11_force_25 (fun v5 hf => ?_)
      refine g_ifne (tgt := 34) X hf dX11_force_28 (by decide) (fun hf => ?_) (fun hf => ?_)
      · refine g_bipush (v := (-8)) X dX11_force_31 (by decide) ?_
        exact g_ireturn X (zW hf) (by decide) (by decide) dX11_force_33
      · exact w_X11_force_34 X a0 a1 h hf
def f_X11_law  (a0 : Option Nat) (a1 : Int32) (h : AH) : Option Int32 :=
  if a1 = 0 then
    (gR 11 0 h a0).bind fun v1 =>
    (ck 2 h v1 (f_X2_lawNow v1 h)).bind fun v2 =>
    (gI 3 1 h v2).bind fun v3 =>
    some v3
  else
    (f_X11_within a1 1 4 h).bind fun v4 =>
    if v4 = 0 then
      some (-1)
    else
      (gR 11 0 h a0).bind fun v5 =>
      (ck 2 h v5 (f_X2_lawNow v5 h)).bind fun v6 =>
      (ck 3 h v6 (f_X3_tells v6 (a1 - 1) h)).bind fun v7 =>
      (f_X11_asAnswer v7 h).bind fun v8 =>
      some v8
set_option maxRecDepth 20000 in
theorem m_X11_law  {a0 : Option Nat} {a1 : Int32} {h : AH} {w : Int32} (hf : f_X11_law a0 a1 h = some w) : CT yX11_law (wU yX11_law cX11_law 2 (some .int)) (rmD 2 0 0) 0 0 [tR a0, tI a1] h (some (tI w), h) := by
  refine CT.of (cc := cX11_law) (nL := 2) (ret := (some .int)) (by decide) (by simp [lg_sl, vOf_cat, wOf]) ?_
  intro K X
  refine g_locs (lv' := [(0, tR a0), (1, tI a1)]) (fun q hq => hq) ?_
  unfold f_X11_law at hf
  refine g_iload_n X dX11_law_0 1 rfl ?_
  refine g_ifne (tgt := 15) X hf dX11_law_1 (by decide) (fun hf => ?_) (fun hf => ?_)
  · refine g_aload_n X dX11_law_4 0 rfl ?_
    refine g_getR X hf (T := TX11) rfl (by decide) (by decide) in_RX11 tb_350 rfl dX11_law_5 (fun v1 hf => ?_)
    refine g_callV (n := 0) (av := []) (rest := []) (k := 2) X hf (fun v2 => (some (tR v2), h)) (fun _ q => m_X2_lawNow q) (gdV tb_622 tb_623 tb_624 tb_2 tb_625) rfl (by decide +kernel) rfl (by decide) rfl (by decide) (by decide) rfl (Nat.le_of_ble_eq_true rfl) dX11_law_8 (fun v2 hf => ?_)
    refine g_getI X hf (T := TX3) rfl (by decide) (by decide) in_RX3 tb_193 rfl dX11_law_11 (fun v3 hf => ?_)
    exact g_ireturn X (zP hf) (by decide) (by decide) dX11_law_14
  · refine g_iload_n X dX11_law_15 1 rfl ?_
    refine g_iconst (v := 1) X dX11_law_16 (by decide) ?_
    refine g_iconst (v := 4) X dX11_law_17 (by decide) ?_
    refine g_callS (n := 3) (av := [tI a1, tI 1, tI 4]) (rest := []) X hf (fun v4 => (some (tI v4), h)) (fun _ q => m_X11_within q) (gdS tb_388 tb_389 tb_1 tb_390) rfl (by decide +kernel) rfl (by decide) (by decide) rfl (Nat.le_of_ble_eq_true rfl) dX11_law_18 (fun v4 hf => ?_)
    refine g_ifne (tgt := 26) X hf dX11_law_21 (by decide) (fun hf => ?_) (fun hf => ?_)
    · refine g_iconst (v := (-1)) X dX11_law_24 (by decide) ?_
      exact g_ireturn X (zP hf) (by decide) (by decide) dX11_law_25
    · refine g_aload_n X dX11_law_26 0 rfl ?_
      refine g_getR X hf (T := TX11) rfl (by decide) (by decide) in_RX11 tb_350 rfl dX11_law_27 (fun v5 hf => ?_)
      refine g_callV (n := 0) (av := []) (rest := []) (k := 2) X hf (fun v6 => (some (tR v6), h)) (fun _ q => m_X2_lawNow q) (gdV tb_622 tb_623 tb_624 tb_2 tb_625) rfl (by decide +kernel) rfl (by decide) rfl (by decide) (by decide) rfl (Nat.le_of_ble_eq_true rfl) dX11_law_30 (fun v6 hf => ?_)
      refine g_iload_n X dX11_law_33 1 rfl ?_
      refine g_iconst (v := 1) X dX11_law_34 (by decide) ?_
      refine g_isub X dX11_law_35 ?_
      refine g_callV (n := 1) (av := [tI (a1 - 1)]) (rest := []) (k := 3) X hf (fun v7 => (some (tI v7), h)) (fun _ q => m_X3_tells q) (gdV tb_779 tb_632 tb_633 tb_8 tb_634) rfl (by decide +kernel) rfl (by decide) rfl (by decide) (by decide) rfl (Nat.le_of_ble_eq_true rfl) dX11_law_36 (fun v7 hf => ?_)
      refine g_callS (n := 1) (av := [tI v7]) (rest := []) X hf (fun v8 => (some (tI v8), h)) (fun _ q => m_X11_asAnswer q) (gdS tb_507 tb_508 tb_1 tb_509) rfl (by decide +kernel) rfl (by decide) (by decide) rfl (Nat.le_of_ble_eq_true rfl) dX11_law_39 (fun v8 hf => ?_)
      exact g_ireturn X (zP hf) (by decide) (by decide) dX11_law_42
def f_X11_count  (a0 : Option Nat) (a1 : Int32) (a2 : Int32) (h : AH) : Option (Int32 × AH) :=
  (gR 11 0 h a0).bind fun v1 =>
  (gI 2 0 h v1).bind fun v2 =>
  (f_X11_within a1 0 v2 h).bind fun v3 =>
  if v3 = 0 then
    some ((-1), h)
  else
    (gR 11 0 h a0).bind fun v4 =>
    (gR 11 3 h a0).bind fun v5 =>
    (ck 2 h v4 (f_X2_countKnown v4 a1 v5 h)).bind fun h6 =>
    (gR 11 3 h6 a0).bind fun v7 =>
    (ck 6 h6 v7 (f_X6_firstMan v7 h6)).bind fun v8 =>
    if a2 < 0 ∨ 6 < a2 then
      some ((-1), h6)
    else if a2 = 0 then
      (gR 11 3 h6 a0).bind fun v9 =>
      (gI 6 1 h6 v9).bind fun v10 =>
      some (v10, h6)
    else if a2 = 1 then
      if v8 < 0 then
        some ((-3), h6)
      else
        some (v8, h6)
    else if a2 = 2 then
      (gR 11 3 h6 a0).bind fun v11 =>
      (ck 6 h6 v11 (f_X6_leastOf v11 v8 h6)).bind fun v12 =>
      some (v12, h6)
    else if a2 = 3 then
      (gR 11 3 h6 a0).bind fun v13 =>
      (ck 6 h6 v13 (f_X6_secondTo v13 v8 h6)).bind fun v14 =>
      some (v14, h6)
    else if a2 = 4 then
      (gR 11 3 h6 a0).bind fun v15 =>
      (ck 6 h6 v15 (f_X6_tribesFor v15 v8 h6)).bind fun v16 =>
      some (v16, h6)
    else if a2 = 5 then
      (gR 11 3 h6 a0).bind fun v17 =>
      (gR 11 0 h6 a0).bind fun v18 =>
      (ck 2 h6 v18 (f_X2_lawNow v18 h6)).bind fun v19 =>
      (ck 6 h6 v17 (f_X6_whoGoes v17 v19 h6)).bind fun p20 =>
      some (p20.1, p20.2)
    else if a2 = 6 then
      (gR 11 3 h6 a0).bind fun v21 =>
      (gR 11 0 h6 a0).bind fun v22 =>
      (ck 2 h6 v22 (f_X2_lawNow v22 h6)).bind fun v23 =>
      (ck 6 h6 v21 (f_X6_isCertain v21 v23 h6)).bind fun p24 =>
      (f_X11_asAnswer p24.1 p24.2).bind fun v25 =>
      some (v25, p24.2)
    else none
set_option maxRecDepth 20000 in
theorem m_X11_count  {a0 : Option Nat} {a1 : Int32} {a2 : Int32} {h : AH} {w : (Int32 × AH)} (hf : f_X11_count a0 a1 a2 h = some w) : CT yX11_count (wU yX11_count cX11_count 4 (some .int)) (rmD 6 0 0) 0 0 [tR a0, tI a1, tI a2] h (some (tI w.1), w.2) := by
  refine CT.of (cc := cX11_count) (nL := 4) (ret := (some .int)) (by decide) (by simp [lg_sl, vOf_cat, wOf]) ?_
  intro K X
  refine g_locs (lv' := [(0, tR a0), (1, tI a1), (2, tI a2)]) (fun q hq => hq) ?_
  unfold f_X11_count at hf
  refine g_iload_n X dX11_count_0 1 rfl ?_
  refine g_iconst (v := 0) X dX11_count_1 (by decide) ?_
  refine g_aload_n X dX11_count_2 0 rfl ?_
  refine g_getR X hf (T := TX11) rfl (by decide) (by decide) in_RX11 tb_350 rfl dX11_count_3 (fun v1 hf => ?_)
  refine g_getI X hf (T := TX2) rfl (by decide) (by decide) in_RX2 tb_212 rfl dX11_count_6 (fun v2 hf => ?_)
  refine g_callS (n := 3) (av := [tI a1, tI 0, tI v2]) (rest := []) X hf (fun v3 => (some (tI v3), h)) (fun _ q => m_X11_within q) (gdS tb_388 tb_389 tb_1 tb_390) rfl (by decide +kernel) rfl (by decide) (by decide) rfl (Nat.le_of_ble_eq_true rfl) dX11_count_9 (fun v3 hf => ?_)
  refine g_ifne (tgt := 17) X hf dX11_count_12 (by decide) (fun hf => ?_) (fun hf => ?_)
  · refine g_iconst (v := (-1)) X dX11_count_15 (by decide) ?_
    exact g_ireturn X (zW hf) (by decide) (by decide) dX11_count_16
  · refine g_aload_n X dX11_count_17 0 rfl ?_
    refine g_getR X hf (T := TX11) rfl (by decide) (by decide) in_RX11 tb_350 rfl dX11_count_18 (fun v4 hf => ?_)
    refine g_iload_n X dX11_count_21 1 rfl ?_
    refine g_aload_n X dX11_count_22 0 rfl ?_
    refine g_getR X hf (T := TX11) rfl (by decide) (by decide) in_RX11 tb_353 rfl dX11_count_23 (fun v5 hf => ?_)
    refine g_callV (n := 2) (av := [tI a1, tR v5]) (rest := []) (k := 2) X hf (fun h6 => (none, h6)) (fun _ q => m_X2_countKnown q) (gdV tb_784 tb_785 tb_786 tb_2 tb_787) rfl (by decide +kernel) rfl (by decide) rfl (by decide) (by decide) rfl (Nat.le_of_ble_eq_true rfl) dX11_count_26 (fun h6 hf => ?_)
    refine g_aload_n X dX11_count_29 0 rfl ?_
    refine g_getR X hf (T := TX11) rfl (by decide) (by decide) in_RX11 tb_353 rfl dX11_count_30 (fun v7 hf => ?_)
    refine g_callV (n := 0) (av := []) (rest := []) (k := 6) X hf (fun v8 => (some (tI v8), h6)) (fun _ q => m_X6_firstMan q) (gdV tb_808 tb_809 tb_810 tb_10 tb_811) rfl (by decide +kernel) rfl (by decide) rfl (by decide) (by decide) rfl (Nat.le_of_ble_eq_true rfl) dX11_count_33 (fun v8 hf => ?_)
    refine g_istore_n (lv' := [(0, tR a0), (1, tI a1), (2, tI a2), (3, tI v8)]) X dX11_count_36 (by decide) (in_pick [1, 2, 3, 0] rfl) ?_
    refine g_iload_n X dX11_count_37 2 rfl ?_
    by_cases hsw : a2 < 0 ∨ 6 < a2
    · rw [if_pos hsw] at hf
      refine g_tabOut (tgt := 159) X dX11_count_38 (tab_out hsw) (by decide) ?_
      refine g_iconst (v := (-1)) X dX11_count_159 (by decide) ?_
      exact g_ireturn X (zW hf) (by decide) (by decide) dX11_count_160
    rw [if_neg hsw] at hf
    by_cases hs0 : a2 = 0
    · rw [if_pos hs0] at hf
      refine g_tabIn (off := 42) (tgt := 80) X 0 hs0 dX11_count_38 (by decide) (by decide) (by decide +kernel) (by decide) ?_
      refine g_aload_n X dX11_count_80 0 rfl ?_
      refine g_getR X hf (T := TX11) rfl (by decide) (by decide) in_RX11 tb_353 rfl dX11_count_81 (fun v9 hf => ?_)
      refine g_getI X hf (T := TX6) rfl (by decide) (by decide) in_RX6 tb_313 rfl dX11_count_84 (fun v10 hf => ?_)
      exact g_ireturn X (zW hf) (by decide) (by decide) dX11_count_87
    rw [if_neg hs0] at hf
    by_cases hs1 : a2 = 1
    · rw [if_pos hs1] at hf
      refine g_tabIn (off := 50) (tgt := 88) X 1 hs1 dX11_count_38 (by decide) (by decide) (by decide +kernel) (by decide) ?_
      refine g_iload_n X dX11_count_88 3 rfl ?_
      refine g_ifge (tgt := 97) X hf dX11_count_89 (by decide) (fun hf => ?_) (fun hf => ?_)
      · refine g_bipush (v := (-3)) X dX11_count_92 (by decide) ?_
        refine g_goto (tgt := 98) X dX11_count_94 (by decide) ?_
        exact g_ireturn X (zW hf) (by decide) (by decide) dX11_count_98
      · refine g_iload_n X dX11_count_97 3 rfl ?_
        exact g_ireturn X (zW hf) (by decide) (by decide) dX11_count_98
    rw [if_neg hs1] at hf
    by_cases hs2 : a2 = 2
    · rw [if_pos hs2] at hf
      refine g_tabIn (off := 61) (tgt := 99) X 2 hs2 dX11_count_38 (by decide) (by decide) (by decide +kernel) (by decide) ?_
      refine g_aload_n X dX11_count_99 0 rfl ?_
      refine g_getR X hf (T := TX11) rfl (by decide) (by decide) in_RX11 tb_353 rfl dX11_count_100 (fun v11 hf => ?_)
      refine g_iload_n X dX11_count_103 3 rfl ?_
      refine g_callV (n := 1) (av := [tI v8]) (rest := []) (k := 6) X hf (fun v12 => (some (tI v12), h6)) (fun _ q => m_X6_leastOf q) (gdV tb_812 tb_813 tb_814 tb_10 tb_815) rfl (by decide +kernel) rfl (by decide) rfl (by decide) (by decide) rfl (Nat.le_of_ble_eq_true rfl) dX11_count_104 (fun v12 hf => ?_)
      exact g_ireturn X (zW hf) (by decide) (by decide) dX11_count_107
    rw [if_neg hs2] at hf
    by_cases hs3 : a2 = 3
    · rw [if_pos hs3] at hf
      refine g_tabIn (off := 70) (tgt := 108) X 3 hs3 dX11_count_38 (by decide) (by decide) (by decide +kernel) (by decide) ?_
      refine g_aload_n X dX11_count_108 0 rfl ?_
      refine g_getR X hf (T := TX11) rfl (by decide) (by decide) in_RX11 tb_353 rfl dX11_count_109 (fun v13 hf => ?_)
      refine g_iload_n X dX11_count_112 3 rfl ?_
      refine g_callV (n := 1) (av := [tI v8]) (rest := []) (k := 6) X hf (fun v14 => (some (tI v14), h6)) (fun _ q => m_X6_secondTo q) (gdV tb_816 tb_817 tb_818 tb_10 tb_819) rfl (by decide +kernel) rfl (by decide) rfl (by decide) (by decide) rfl (Nat.le_of_ble_eq_true rfl) dX11_count_113 (fun v14 hf => ?_)
      exact g_ireturn X (zW hf) (by decide) (by decide) dX11_count_116
    rw [if_neg hs3] at hf
    by_cases hs4 : a2 = 4
    · rw [if_pos hs4] at hf
      refine g_tabIn (off := 79) (tgt := 117) X 4 hs4 dX11_count_38 (by decide) (by decide) (by decide +kernel) (by decide) ?_
      refine g_aload_n X dX11_count_117 0 rfl ?_
      refine g_getR X hf (T := TX11) rfl (by decide) (by decide) in_RX11 tb_353 rfl dX11_count_118 (fun v15 hf => ?_)
      refine g_iload_n X dX11_count_121 3 rfl ?_
      refine g_callV (n := 1) (av := [tI v8]) (rest := []) (k := 6) X hf (fun v16 => (some (tI v16), h6)) (fun _ q => m_X6_tribesFor q) (gdV tb_820 tb_821 tb_822 tb_10 tb_823) rfl (by decide +kernel) rfl (by decide) rfl (by decide) (by decide) rfl (Nat.le_of_ble_eq_true rfl) dX11_count_122 (fun v16 hf => ?_)
      exact g_ireturn X (zW hf) (by decide) (by decide) dX11_count_125
    rw [if_neg hs4] at hf
    by_cases hs5 : a2 = 5
    · rw [if_pos hs5] at hf
      refine g_tabIn (off := 88) (tgt := 126) X 5 hs5 dX11_count_38 (by decide) (by decide) (by decide +kernel) (by decide) ?_
      refine g_aload_n X dX11_count_126 0 rfl ?_
      refine g_getR X hf (T := TX11) rfl (by decide) (by decide) in_RX11 tb_353 rfl dX11_count_127 (fun v17 hf => ?_)
      refine g_aload_n X dX11_count_130 0 rfl ?_
      refine g_getR X hf (T := TX11) rfl (by decide) (by decide) in_RX11 tb_350 rfl dX11_count_131 (fun v18 hf => ?_)
      refine g_callV (n := 0) (av := []) (rest := [tR v17]) (k := 2) X hf (fun v19 => (some (tR v19), h6)) (fun _ q => m_X2_lawNow q) (gdV tb_622 tb_623 tb_624 tb_2 tb_625) rfl (by decide +kernel) rfl (by decide) rfl (by decide) (by decide) rfl (Nat.le_of_ble_eq_true rfl) dX11_count_134 (fun v19 hf => ?_)
      refine g_callV (n := 1) (av := [tR v19]) (rest := []) (k := 6) X hf (fun p20 => (some (tI p20.1), p20.2)) (fun _ q => m_X6_whoGoes q) (gdV tb_825 tb_826 tb_827 tb_10 tb_828) rfl (by decide +kernel) rfl (by decide) rfl (by decide) (by decide) rfl (Nat.le_of_ble_eq_true rfl) dX11_count_137 (fun p20 hf => ?_)
      exact g_ireturn X (zW hf) (by decide) (by decide) dX11_count_140
    rw [if_neg hs5] at hf
    by_cases hs6 : a2 = 6
    · rw [if_pos hs6] at hf
      refine g_tabIn (off := 103) (tgt := 141) X 6 hs6 dX11_count_38 (by decide) (by decide) (by decide +kernel) (by decide) ?_
      refine g_aload_n X dX11_count_141 0 rfl ?_
      refine g_getR X hf (T := TX11) rfl (by decide) (by decide) in_RX11 tb_353 rfl dX11_count_142 (fun v21 hf => ?_)
      refine g_aload_n X dX11_count_145 0 rfl ?_
      refine g_getR X hf (T := TX11) rfl (by decide) (by decide) in_RX11 tb_350 rfl dX11_count_146 (fun v22 hf => ?_)
      refine g_callV (n := 0) (av := []) (rest := [tR v21]) (k := 2) X hf (fun v23 => (some (tR v23), h6)) (fun _ q => m_X2_lawNow q) (gdV tb_622 tb_623 tb_624 tb_2 tb_625) rfl (by decide +kernel) rfl (by decide) rfl (by decide) (by decide) rfl (Nat.le_of_ble_eq_true rfl) dX11_count_149 (fun v23 hf => ?_)
      refine g_callV (n := 1) (av := [tR v23]) (rest := []) (k := 6) X hf (fun p24 => (some (tI p24.1), p24.2)) (fun _ q => m_X6_isCertain q) (gdV tb_837 tb_838 tb_839 tb_10 tb_840) rfl (by decide +kernel) rfl (by decide) rfl (by decide) (by decide) rfl (Nat.le_of_ble_eq_true rfl) dX11_count_152 (fun p24 hf => ?_)
      refine g_callS (n := 1) (av := [tI p24.1]) (rest := []) X hf (fun v25 => (some (tI v25), p24.2)) (fun _ q => m_X11_asAnswer q) (gdS tb_507 tb_508 tb_1 tb_509) rfl (by decide +kernel) rfl (by decide) (by decide) rfl (Nat.le_of_ble_eq_true rfl) dX11_count_155 (fun v25 hf => ?_)
      exact g_ireturn X (zW hf) (by decide) (by decide) dX11_count_158
    rw [if_neg hs6] at hf
    cases hf
def f_X11_counted  (a0 : Option Nat) (a1 : Int32) (a2 : Int32) (a3 : Int32) (h : AH) : Option (Int32 × AH) :=
  (gR 11 0 h a0).bind fun v1 =>
  (ck 2 h v1 (f_X2_hasMan v1 a1 h)).bind fun v2 =>
  if v2 = 0 then
    some ((-1), h)
  else
    (gR 11 0 h a0).bind fun v3 =>
    (gI 2 0 h v3).bind fun v4 =>
    (f_X11_within a2 0 v4 h).bind fun v5 =>
    if v5 = 0 then
      some ((-1), h)
    else
      (gR 11 0 h a0).bind fun v6 =>
      (gR 11 3 h a0).bind fun v7 =>
      (ck 2 h v6 (f_X2_countKnown v6 a2 v7 h)).bind fun h8 =>
      if a3 = 0 then
        (gR 11 3 h8 a0).bind fun v9 =>
        (gR 6 2 h8 v9).bind fun v10 =>
        (aI h8 v10 a1).bind fun v11 =>
        some (v11, h8)
      else
        (gR 11 3 h8 a0).bind fun v12 =>
        (gR 6 3 h8 v12).bind fun v13 =>
        (aI h8 v13 a1).bind fun v14 =>
        some (v14, h8)
set_option maxRecDepth 20000 in
theorem m_X11_counted  {a0 : Option Nat} {a1 : Int32} {a2 : Int32} {a3 : Int32} {h : AH} {w : (Int32 × AH)} (hf : f_X11_counted a0 a1 a2 a3 h = some w) : CT yX11_counted (wU yX11_counted cX11_counted 4 (some .int)) (rmD 5 0 0) 0 0 [tR a0, tI a1, tI a2, tI a3] h (some (tI w.1), w.2) := by
  refine CT.of (cc := cX11_counted) (nL := 4) (ret := (some .int)) (by decide) (by simp [lg_sl, vOf_cat, wOf]) ?_
  intro K X
  refine g_locs (lv' := [(0, tR a0), (1, tI a1), (2, tI a2), (3, tI a3)]) (fun q hq => hq) ?_
  unfold f_X11_counted at hf
  refine g_aload_n X dX11_counted_0 0 rfl ?_
  refine g_getR X hf (T := TX11) rfl (by decide) (by decide) in_RX11 tb_350 rfl dX11_counted_1 (fun v1 hf => ?_)
  refine g_iload_n X dX11_counted_4 1 rfl ?_
  refine g_callV (n := 1) (av := [tI a1]) (rest := []) (k := 2) X hf (fun v2 => (some (tI v2), h)) (fun _ q => m_X2_hasMan q) (gdV tb_457 tb_458 tb_459 tb_2 tb_460) rfl (by decide +kernel) rfl (by decide) rfl (by decide) (by decide) rfl (Nat.le_of_ble_eq_true rfl) dX11_counted_5 (fun v2 hf => ?_)
  refine g_ifeq (tgt := 26) X hf dX11_counted_8 (by decide) (fun hf => ?_) (fun hf => ?_)
  · refine g_iconst (v := (-1)) X dX11_counted_26 (by decide) ?_
    exact g_ireturn X (zW hf) (by decide) (by decide) dX11_counted_27
  · refine g_iload_n X dX11_counted_11 2 rfl ?_
    refine g_iconst (v := 0) X dX11_counted_12 (by decide) ?_
    refine g_aload_n X dX11_counted_13 0 rfl ?_
    refine g_getR X hf (T := TX11) rfl (by decide) (by decide) in_RX11 tb_350 rfl dX11_counted_14 (fun v3 hf => ?_)
    refine g_getI X hf (T := TX2) rfl (by decide) (by decide) in_RX2 tb_212 rfl dX11_counted_17 (fun v4 hf => ?_)
    refine g_callS (n := 3) (av := [tI a2, tI 0, tI v4]) (rest := []) X hf (fun v5 => (some (tI v5), h)) (fun _ q => m_X11_within q) (gdS tb_388 tb_389 tb_1 tb_390) rfl (by decide +kernel) rfl (by decide) (by decide) rfl (Nat.le_of_ble_eq_true rfl) dX11_counted_20 (fun v5 hf => ?_)
    refine g_ifne (tgt := 28) X hf dX11_counted_23 (by decide) (fun hf => ?_) (fun hf => ?_)
    · refine g_iconst (v := (-1)) X dX11_counted_26 (by decide) ?_
      exact g_ireturn X (zW hf) (by decide) (by decide) dX11_counted_27
    · refine g_aload_n X dX11_counted_28 0 rfl ?_
      refine g_getR X hf (T := TX11) rfl (by decide) (by decide) in_RX11 tb_350 rfl dX11_counted_29 (fun v6 hf => ?_)
      refine g_iload_n X dX11_counted_32 2 rfl ?_
      refine g_aload_n X dX11_counted_33 0 rfl ?_
      refine g_getR X hf (T := TX11) rfl (by decide) (by decide) in_RX11 tb_353 rfl dX11_counted_34 (fun v7 hf => ?_)
      refine g_callV (n := 2) (av := [tI a2, tR v7]) (rest := []) (k := 2) X hf (fun h8 => (none, h8)) (fun _ q => m_X2_countKnown q) (gdV tb_784 tb_785 tb_786 tb_2 tb_787) rfl (by decide +kernel) rfl (by decide) rfl (by decide) (by decide) rfl (Nat.le_of_ble_eq_true rfl) dX11_counted_37 (fun h8 hf => ?_)
      refine g_iload_n X dX11_counted_40 3 rfl ?_
      refine g_ifeq (tgt := 56) X hf dX11_counted_41 (by decide) (fun hf => ?_) (fun hf => ?_)
      · refine g_aload_n X dX11_counted_56 0 rfl ?_
        refine g_getR X hf (T := TX11) rfl (by decide) (by decide) in_RX11 tb_353 rfl dX11_counted_57 (fun v9 hf => ?_)
        refine g_getR X hf (T := TX6) rfl (by decide) (by decide) in_RX6 tb_315 rfl dX11_counted_60 (fun v10 hf => ?_)
        refine g_iload_n X dX11_counted_63 1 rfl ?_
        refine g_iaload X hf dX11_counted_64 (fun v11 hf => ?_)
        exact g_ireturn X (zW hf) (by decide) (by decide) dX11_counted_65
      · refine g_aload_n X dX11_counted_44 0 rfl ?_
        refine g_getR X hf (T := TX11) rfl (by decide) (by decide) in_RX11 tb_353 rfl dX11_counted_45 (fun v12 hf => ?_)
        refine g_getR X hf (T := TX6) rfl (by decide) (by decide) in_RX6 tb_317 rfl dX11_counted_48 (fun v13 hf => ?_)
        refine g_iload_n X dX11_counted_51 1 rfl ?_
        refine g_iaload X hf dX11_counted_52 (fun v14 hf => ?_)
        refine g_goto (tgt := 65) X dX11_counted_53 (by decide) ?_
        exact g_ireturn X (zW hf) (by decide) (by decide) dX11_counted_65
def f_X11_tally  (a0 : Option Nat) (a1 : Int32) (a2 : Int32) (a3 : Int32) (h : AH) : Option (Int32 × AH) :=
  (f_X11_within a1 0 1 h).bind fun v1 =>
  if v1 = 0 then
    some ((-1), h)
  else
    (f_X11_within a2 0 4 h).bind fun v2 =>
    if v2 = 0 then
      some ((-1), h)
    else
      (f_X11_within a3 0 99 h).bind fun v3 =>
      if v3 = 0 then
        some ((-1), h)
      else
        (gR 11 0 h a0).bind fun v4 =>
        (gR 2 16 h v4).bind fun v5 =>
        (aR h v5 a1).bind fun v6 =>
        (aI h v6 a2).bind fun v7 =>
        (gR 11 0 h a0).bind fun v8 =>
        (gR 2 16 h v8).bind fun v9 =>
        (aR h v9 a1).bind fun v10 =>
        (sI h v10 a2 a3).bind fun h11 =>
        some (v7, h11)
set_option maxRecDepth 20000 in
theorem m_X11_tally  {a0 : Option Nat} {a1 : Int32} {a2 : Int32} {a3 : Int32} {h : AH} {w : (Int32 × AH)} (hf : f_X11_tally a0 a1 a2 a3 h = some w) : CT yX11_tally (wU yX11_tally cX11_tally 5 (some .int)) (rmD 2 0 0) 0 0 [tR a0, tI a1, tI a2, tI a3] h (some (tI w.1), w.2) := by
  refine CT.of (cc := cX11_tally) (nL := 5) (ret := (some .int)) (by decide) (by simp [lg_sl, vOf_cat, wOf]) ?_
  intro K X
  refine g_locs (lv' := [(0, tR a0), (1, tI a1), (2, tI a2), (3, tI a3)]) (fun q hq => hq) ?_
  unfold f_X11_tally at hf
  refine g_iload_n X dX11_tally_0 1 rfl ?_
  refine g_iconst (v := 0) X dX11_tally_1 (by decide) ?_
  refine g_iconst (v := 1) X dX11_tally_2 (by decide) ?_
  refine g_callS (n := 3) (av := [tI a1, tI 0, tI 1]) (rest := []) X hf (fun v1 => (some (tI v1), h)) (fun _ q => m_X11_within q) (gdS tb_388 tb_389 tb_1 tb_390) rfl (by decide +kernel) rfl (by decide) (by decide) rfl (Nat.le_of_ble_eq_true rfl) dX11_tally_3 (fun v1 hf => ?_)
  refine g_ifeq (tgt := 28) X hf dX11_tally_6 (by decide) (fun hf => ?_) (fun hf => ?_)
  · refine g_iconst (v := (-1)) X dX11_tally_28 (by decide) ?_
    exact g_ireturn X (zW hf) (by decide) (by decide) dX11_tally_29
  · refine g_iload_n X dX11_tally_9 2 rfl ?_
    refine g_iconst (v := 0) X dX11_tally_10 (by decide) ?_
    refine g_iconst (v := 4) X dX11_tally_11 (by decide) ?_
    refine g_callS (n := 3) (av := [tI a2, tI 0, tI 4]) (rest := []) X hf (fun v2 => (some (tI v2), h)) (fun _ q => m_X11_within q) (gdS tb_388 tb_389 tb_1 tb_390) rfl (by decide +kernel) rfl (by decide) (by decide) rfl (Nat.le_of_ble_eq_true rfl) dX11_tally_12 (fun v2 hf => ?_)
    refine g_ifeq (tgt := 28) X hf dX11_tally_15 (by decide) (fun hf => ?_) (fun hf => ?_)
    · refine g_iconst (v := (-1)) X dX11_tally_28 (by decide) ?_
      exact g_ireturn X (zW hf) (by decide) (by decide) dX11_tally_29
    · refine g_iload_n X dX11_tally_18 3 rfl ?_
      refine g_iconst (v := 0) X dX11_tally_19 (by decide) ?_
      refine g_bipush (v := 99) X dX11_tally_20 (by decide) ?_
      refine g_callS (n := 3) (av := [tI a3, tI 0, tI 99]) (rest := []) X hf (fun v3 => (some (tI v3), h)) (fun _ q => m_X11_within q) (gdS tb_388 tb_389 tb_1 tb_390) rfl (by decide +kernel) rfl (by decide) (by decide) rfl (Nat.le_of_ble_eq_true rfl) dX11_tally_22 (fun v3 hf => ?_)
      refine g_ifne (tgt := 30) X hf dX11_tally_25 (by decide) (fun hf => ?_) (fun hf => ?_)
      · refine g_iconst (v := (-1)) X dX11_tally_28 (by decide) ?_
        exact g_ireturn X (zW hf) (by decide) (by decide) dX11_tally_29
      · refine g_aload_n X dX11_tally_30 0 rfl ?_
        refine g_getR X hf (T := TX11) rfl (by decide) (by decide) in_RX11 tb_350 rfl dX11_tally_31 (fun v4 hf => ?_)
        refine g_getR X hf (T := TX2) rfl (by decide) (by decide) in_RX2 tb_244 rfl dX11_tally_34 (fun v5 hf => ?_)
        refine g_iload_n X dX11_tally_37 1 rfl ?_
        refine g_aaload X hf dX11_tally_38 (fun v6 hf => ?_)
        refine g_iload_n X dX11_tally_39 2 rfl ?_
        refine g_iaload X hf dX11_tally_40 (fun v7 hf => ?_)
        refine g_istore (lv' := [(0, tR a0), (1, tI a1), (2, tI a2), (3, tI a3), (4, tI v7)]) X dX11_tally_41 (by decide) (in_pick [1, 2, 3, 4, 0] rfl) ?_
        refine g_aload_n X dX11_tally_43 0 rfl ?_
        refine g_getR X hf (T := TX11) rfl (by decide) (by decide) in_RX11 tb_350 rfl dX11_tally_44 (fun v8 hf => ?_)
        refine g_getR X hf (T := TX2) rfl (by decide) (by decide) in_RX2 tb_244 rfl dX11_tally_47 (fun v9 hf => ?_)
        refine g_iload_n X dX11_tally_50 1 rfl ?_
        refine g_aaload X hf dX11_tally_51 (fun v10 hf => ?_)
        refine g_iload_n X dX11_tally_52 2 rfl ?_
        refine g_iload_n X dX11_tally_53 3 rfl ?_
        refine g_iastore X hf dX11_tally_54 (fun h11 hf => ?_)
        refine g_iload X dX11_tally_55 4 rfl ?_
        exact g_ireturn X (zW hf) (by decide) (by decide) dX11_tally_57
def b_X11_tallies_100   (s0 : Int32) (h : AH) : Option (Int32 × AH) :=
  (f_X11_asAnswer s0 h).bind fun v1 =>
  some (v1, h)
set_option maxRecDepth 20000 in
theorem w_X11_tallies_100 {K : KT} {w : (Int32 × AH)}   (X : CX K cX11_tallies RX11 TB (some .int) "tallies" (rmD 5 0 0) 3 0 0)  (s0 : Int32) (h : AH) (hf : b_X11_tallies_100 s0 h = some w) : GG K (some (tI w.1), w.2) 0 0 100 [] [tI s0] h := by
  unfold b_X11_tallies_100 at hf
  refine g_callS (n := 1) (av := [tI s0]) (rest := []) X hf (fun v1 => (some (tI v1), h)) (fun _ q => m_X11_asAnswer q) (gdS tb_507 tb_508 tb_1 tb_509) rfl (by decide +kernel) rfl (by decide) (by decide) rfl (Nat.le_of_ble_eq_true rfl) dX11_tallies_100 (fun v1 hf => ?_)
  exact g_ireturn X (zW hf) (by decide) (by decide) dX11_tallies_103
def f_X11_tallies  (a0 : Option Nat) (a1 : Int32) (h : AH) : Option (Int32 × AH) :=
  (f_X11_within a1 0 7 h).bind fun v1 =>
  if v1 = 0 then
    some ((-1), h)
  else
    if a1 = 0 then
      (gR 11 0 h a0).bind fun v2 =>
      (ck 2 h v2 (f_X2_unlikeGate v2 h)).bind fun v3 =>
      some (v3, h)
    else
      if a1 = 1 then
        (gR 11 0 h a0).bind fun v4 =>
        (ck 2 h v4 (f_X2_doubt v4 h)).bind fun v5 =>
        some (v5, h)
      else
        (gR 11 0 h a0).bind fun v6 =>
        (gR 11 0 h a0).bind fun v7 =>
        (gI 2 0 h v7).bind fun v8 =>
        (gR 11 3 h a0).bind fun v9 =>
        (ck 2 h v6 (f_X2_countKnown v6 v8 v9 h)).bind fun h10 =>
        if a1 = 2 then
          (gR 11 3 h10 a0).bind fun v11 =>
          (ck 6 h10 v11 (f_X6_firstMan v11 h10)).bind fun v12 =>
          (gR 11 0 h10 a0).bind fun v13 =>
          (ck 2 h10 v13 (f_X2_doubt v13 h10)).bind fun v14 =>
          (gR 11 3 h10 a0).bind fun v15 =>
          (ck 6 h10 v15 (f_X6_leastOf v15 v12 h10)).bind fun v16 =>
          (gR 11 3 h10 a0).bind fun v17 =>
          (ck 6 h10 v17 (f_X6_secondTo v17 v12 h10)).bind fun v18 =>
          if v14 < (v16 - v18) then
            b_X11_tallies_100 0 h10
          else
            b_X11_tallies_100 1 h10
        else
          (gR 11 0 h10 a0).bind fun v19 =>
          (gR 2 16 h10 v19).bind fun v20 =>
          (aR h10 v20 0).bind fun v21 =>
          (aI h10 v21 (a1 - 3)).bind fun v22 =>
          (gR 11 3 h10 a0).bind fun v23 =>
          (gR 6 5 h10 v23).bind fun v24 =>
          (aI h10 v24 (a1 - 3)).bind fun v25 =>
          some (((v22 - v25) + 100), h10)
set_option maxRecDepth 20000 in
theorem m_X11_tallies  {a0 : Option Nat} {a1 : Int32} {h : AH} {w : (Int32 × AH)} (hf : f_X11_tallies a0 a1 h = some w) : CT yX11_tallies (wU yX11_tallies cX11_tallies 3 (some .int)) (rmD 5 0 0) 0 0 [tR a0, tI a1] h (some (tI w.1), w.2) := by
  refine CT.of (cc := cX11_tallies) (nL := 3) (ret := (some .int)) (by decide) (by simp [lg_sl, vOf_cat, wOf]) ?_
  intro K X
  refine g_locs (lv' := [(0, tR a0), (1, tI a1)]) (fun q hq => hq) ?_
  unfold f_X11_tallies at hf
  refine g_iload_n X dX11_tallies_0 1 rfl ?_
  refine g_iconst (v := 0) X dX11_tallies_1 (by decide) ?_
  refine g_bipush (v := 7) X dX11_tallies_2 (by decide) ?_
  refine g_callS (n := 3) (av := [tI a1, tI 0, tI 7]) (rest := []) X hf (fun v1 => (some (tI v1), h)) (fun _ q => m_X11_within q) (gdS tb_388 tb_389 tb_1 tb_390) rfl (by decide +kernel) rfl (by decide) (by decide) rfl (Nat.le_of_ble_eq_true rfl) dX11_tallies_4 (fun v1 hf => ?_)
  refine g_ifne (tgt := 12) X hf dX11_tallies_7 (by decide) (fun hf => ?_) (fun hf => ?_)
  · refine g_iconst (v := (-1)) X dX11_tallies_10 (by decide) ?_
    exact g_ireturn X (zW hf) (by decide) (by decide) dX11_tallies_11
  · refine g_iload_n X dX11_tallies_12 1 rfl ?_
    refine g_ifne (tgt := 24) X hf dX11_tallies_13 (by decide) (fun hf => ?_) (fun hf => ?_)
    · refine g_aload_n X dX11_tallies_16 0 rfl ?_
      refine g_getR X hf (T := TX11) rfl (by decide) (by decide) in_RX11 tb_350 rfl dX11_tallies_17 (fun v2 hf => ?_)
      refine g_callV (n := 0) (av := []) (rest := []) (k := 2) X hf (fun v3 => (some (tI v3), h)) (fun _ q => m_X2_unlikeGate q) (gdV tb_854 tb_855 tb_856 tb_2 tb_857) rfl (by decide +kernel) rfl (by decide) rfl (by decide) (by decide) rfl (Nat.le_of_ble_eq_true rfl) dX11_tallies_20 (fun v3 hf => ?_)
      exact g_ireturn X (zW hf) (by decide) (by decide) dX11_tallies_23
    · refine g_iload_n X dX11_tallies_24 1 rfl ?_
      refine g_iconst (v := 1) X dX11_tallies_25 (by decide) ?_
      refine g_icmpne (tgt := 37) X hf dX11_tallies_26 (by decide) (fun hf => ?_) (fun hf => ?_)
      · refine g_aload_n X dX11_tallies_29 0 rfl ?_
        refine g_getR X hf (T := TX11) rfl (by decide) (by decide) in_RX11 tb_350 rfl dX11_tallies_30 (fun v4 hf => ?_)
        refine g_callV (n := 0) (av := []) (rest := []) (k := 2) X hf (fun v5 => (some (tI v5), h)) (fun _ q => m_X2_doubt q) (gdV tb_858 tb_859 tb_860 tb_2 tb_861) rfl (by decide +kernel) rfl (by decide) rfl (by decide) (by decide) rfl (Nat.le_of_ble_eq_true rfl) dX11_tallies_33 (fun v5 hf => ?_)
        exact g_ireturn X (zW hf) (by decide) (by decide) dX11_tallies_36
      · refine g_aload_n X dX11_tallies_37 0 rfl ?_
        refine g_getR X hf (T := TX11) rfl (by decide) (by decide) in_RX11 tb_350 rfl dX11_tallies_38 (fun v6 hf => ?_)
        refine g_aload_n X dX11_tallies_41 0 rfl ?_
        refine g_getR X hf (T := TX11) rfl (by decide) (by decide) in_RX11 tb_350 rfl dX11_tallies_42 (fun v7 hf => ?_)
        refine g_getI X hf (T := TX2) rfl (by decide) (by decide) in_RX2 tb_212 rfl dX11_tallies_45 (fun v8 hf => ?_)
        refine g_aload_n X dX11_tallies_48 0 rfl ?_
        refine g_getR X hf (T := TX11) rfl (by decide) (by decide) in_RX11 tb_353 rfl dX11_tallies_49 (fun v9 hf => ?_)
        refine g_callV (n := 2) (av := [tI v8, tR v9]) (rest := []) (k := 2) X hf (fun h10 => (none, h10)) (fun _ q => m_X2_countKnown q) (gdV tb_784 tb_785 tb_786 tb_2 tb_787) rfl (by decide +kernel) rfl (by decide) rfl (by decide) (by decide) rfl (Nat.le_of_ble_eq_true rfl) dX11_tallies_52 (fun h10 hf => ?_)
        refine g_iload_n X dX11_tallies_55 1 rfl ?_
        refine g_iconst (v := 2) X dX11_tallies_56 (by decide) ?_
        refine g_icmpne (tgt := 104) X hf dX11_tallies_57 (by decide) (fun hf => ?_) (fun hf => ?_)
        · refine g_aload_n X dX11_tallies_60 0 rfl ?_
          refine g_getR X hf (T := TX11) rfl (by decide) (by decide) in_RX11 tb_353 rfl dX11_tallies_61 (fun v11 hf => ?_)
          refine g_callV (n := 0) (av := []) (rest := []) (k := 6) X hf (fun v12 => (some (tI v12), h10)) (fun _ q => m_X6_firstMan q) (gdV tb_808 tb_809 tb_810 tb_10 tb_811) rfl (by decide +kernel) rfl (by decide) rfl (by decide) (by decide) rfl (Nat.le_of_ble_eq_true rfl) dX11_tallies_64 (fun v12 hf => ?_)
          refine g_istore_n (lv' := [(0, tR a0), (1, tI a1), (2, tI v12)]) X dX11_tallies_67 (by decide) (in_pick [1, 2, 0] rfl) ?_
          refine g_aload_n X dX11_tallies_68 0 rfl ?_
          refine g_getR X hf (T := TX11) rfl (by decide) (by decide) in_RX11 tb_350 rfl dX11_tallies_69 (fun v13 hf => ?_)
          refine g_callV (n := 0) (av := []) (rest := []) (k := 2) X hf (fun v14 => (some (tI v14), h10)) (fun _ q => m_X2_doubt q) (gdV tb_858 tb_859 tb_860 tb_2 tb_861) rfl (by decide +kernel) rfl (by decide) rfl (by decide) (by decide) rfl (Nat.le_of_ble_eq_true rfl) dX11_tallies_72 (fun v14 hf => ?_)
          refine g_aload_n X dX11_tallies_75 0 rfl ?_
          refine g_getR X hf (T := TX11) rfl (by decide) (by decide) in_RX11 tb_353 rfl dX11_tallies_76 (fun v15 hf => ?_)
          refine g_iload_n X dX11_tallies_79 2 rfl ?_
          refine g_callV (n := 1) (av := [tI v12]) (rest := [tI v14]) (k := 6) X hf (fun v16 => (some (tI v16), h10)) (fun _ q => m_X6_leastOf q) (gdV tb_812 tb_813 tb_814 tb_10 tb_815) rfl (by decide +kernel) rfl (by decide) rfl (by decide) (by decide) rfl (Nat.le_of_ble_eq_true rfl) dX11_tallies_80 (fun v16 hf => ?_)
          refine g_aload_n X dX11_tallies_83 0 rfl ?_
          refine g_getR X hf (T := TX11) rfl (by decide) (by decide) in_RX11 tb_353 rfl dX11_tallies_84 (fun v17 hf => ?_)
          refine g_iload_n X dX11_tallies_87 2 rfl ?_
          refine g_callV (n := 1) (av := [tI v12]) (rest := [tI v16, tI v14]) (k := 6) X hf (fun v18 => (some (tI v18), h10)) (fun _ q => m_X6_secondTo q) (gdV tb_816 tb_817 tb_818 tb_10 tb_819) rfl (by decide +kernel) rfl (by decide) rfl (by decide) (by decide) rfl (Nat.le_of_ble_eq_true rfl) dX11_tallies_88 (fun v18 hf => ?_)
          refine g_isub X dX11_tallies_91 ?_
          refine g_icmplt (tgt := 99) X hf dX11_tallies_92 (by decide) (fun hf => ?_) (fun hf => ?_)
          · refine g_iconst (v := 0) X dX11_tallies_99 (by decide) ?_
            refine g_locs (lv' := []) (in_pick [] rfl) ?_
            exact w_X11_tallies_100 X 0 h10 hf
          · refine g_iconst (v := 1) X dX11_tallies_95 (by decide) ?_
            refine g_goto (tgt := 100) X dX11_tallies_96 (by decide) ?_
            refine g_locs (lv' := []) (in_pick [] rfl) ?_
            exact w_X11_tallies_100 X 1 h10 hf
        · refine g_aload_n X dX11_tallies_104 0 rfl ?_
          refine g_getR X hf (T := TX11) rfl (by decide) (by decide) in_RX11 tb_350 rfl dX11_tallies_105 (fun v19 hf => ?_)
          refine g_getR X hf (T := TX2) rfl (by decide) (by decide) in_RX2 tb_244 rfl dX11_tallies_108 (fun v20 hf => ?_)
          refine g_iconst (v := 0) X dX11_tallies_111 (by decide) ?_
          refine g_aaload X hf dX11_tallies_112 (fun v21 hf => ?_)
          refine g_iload_n X dX11_tallies_113 1 rfl ?_
          refine g_iconst (v := 3) X dX11_tallies_114 (by decide) ?_
          refine g_isub X dX11_tallies_115 ?_
          refine g_iaload X hf dX11_tallies_116 (fun v22 hf => ?_)
          refine g_aload_n X dX11_tallies_117 0 rfl ?_
          refine g_getR X hf (T := TX11) rfl (by decide) (by decide) in_RX11 tb_353 rfl dX11_tallies_118 (fun v23 hf => ?_)
          refine g_getR X hf (T := TX6) rfl (by decide) (by decide) in_RX6 tb_320 rfl dX11_tallies_121 (fun v24 hf => ?_)
          refine g_iload_n X dX11_tallies_124 1 rfl ?_
          refine g_iconst (v := 3) X dX11_tallies_125 (by decide) ?_
          refine g_isub X dX11_tallies_126 ?_
          refine g_iaload X hf dX11_tallies_127 (fun v25 hf => ?_)
          refine g_isub X dX11_tallies_128 ?_
          refine g_bipush (v := 100) X dX11_tallies_129 (by decide) ?_
          refine g_iadd X dX11_tallies_131 ?_
          exact g_ireturn X (zW hf) (by decide) (by decide) dX11_tallies_132
def f_X11_send  (a0 : Option Nat) (h : AH) : Option (Int32 × AH) :=
  (gR 11 0 h a0).bind fun v1 =>
  (gR 11 0 h a0).bind fun v2 =>
  (gI 2 0 h v2).bind fun v3 =>
  (gR 11 3 h a0).bind fun v4 =>
  (ck 2 h v1 (f_X2_countKnown v1 v3 v4 h)).bind fun h5 =>
  (gR 11 3 h5 a0).bind fun v6 =>
  (gR 11 0 h5 a0).bind fun v7 =>
  (ck 2 h5 v7 (f_X2_lawNow v7 h5)).bind fun v8 =>
  (ck 6 h5 v6 (f_X6_whoGoes v6 v8 h5)).bind fun p9 =>
  if p9.1 < 0 then
    some ((-3), p9.2)
  else
    (gR 11 0 p9.2 a0).bind fun v10 =>
    (gR 11 0 p9.2 a0).bind fun v11 =>
    (gI 2 0 p9.2 v11).bind fun v12 =>
    (ck 2 p9.2 v10 (f_X2_isSent v10 p9.1 v12 (-1) p9.2)).bind fun v13 =>
    if v13 = 0 then
      (gR 11 0 p9.2 a0).bind fun v14 =>
      (gR 2 5 p9.2 v14).bind fun v15 =>
      (aR p9.2 v15 p9.1).bind fun v16 =>
      (gR 11 0 p9.2 a0).bind fun v17 =>
      (gI 2 0 p9.2 v17).bind fun v18 =>
      (pI 5 6 p9.2 v16 v18).bind fun h19 =>
      (gR 11 0 h19 a0).bind fun v20 =>
      (gI 2 0 h19 v20).bind fun v21 =>
      (gR 11 0 h19 a0).bind fun v22 =>
      (ck 2 h19 v22 (f_X2_lawNow v22 h19)).bind fun v23 =>
      (gI 3 1 h19 v23).bind fun v24 =>
      (pI 5 7 h19 v16 ((v21 + (v24 * 360)) - 1)).bind fun h25 =>
      (pZ 5 8 h25 v16 0).bind fun h26 =>
      some (p9.1, h26)
    else
      some ((-4), p9.2)
set_option maxRecDepth 20000 in
theorem m_X11_send  {a0 : Option Nat} {h : AH} {w : (Int32 × AH)} (hf : f_X11_send a0 h = some w) : CT yX11_send (wU yX11_send cX11_send 3 (some .int)) (rmD 5 0 0) 0 0 [tR a0] h (some (tI w.1), w.2) := by
  refine CT.of (cc := cX11_send) (nL := 3) (ret := (some .int)) (by decide) (by simp [lg_sl, vOf_cat, wOf]) ?_
  intro K X
  refine g_locs (lv' := [(0, tR a0)]) (fun q hq => hq) ?_
  unfold f_X11_send at hf
  refine g_aload_n X dX11_send_0 0 rfl ?_
  refine g_getR X hf (T := TX11) rfl (by decide) (by decide) in_RX11 tb_350 rfl dX11_send_1 (fun v1 hf => ?_)
  refine g_aload_n X dX11_send_4 0 rfl ?_
  refine g_getR X hf (T := TX11) rfl (by decide) (by decide) in_RX11 tb_350 rfl dX11_send_5 (fun v2 hf => ?_)
  refine g_getI X hf (T := TX2) rfl (by decide) (by decide) in_RX2 tb_212 rfl dX11_send_8 (fun v3 hf => ?_)
  refine g_aload_n X dX11_send_11 0 rfl ?_
  refine g_getR X hf (T := TX11) rfl (by decide) (by decide) in_RX11 tb_353 rfl dX11_send_12 (fun v4 hf => ?_)
  refine g_callV (n := 2) (av := [tI v3, tR v4]) (rest := []) (k := 2) X hf (fun h5 => (none, h5)) (fun _ q => m_X2_countKnown q) (gdV tb_784 tb_785 tb_786 tb_2 tb_787) rfl (by decide +kernel) rfl (by decide) rfl (by decide) (by decide) rfl (Nat.le_of_ble_eq_true rfl) dX11_send_15 (fun h5 hf => ?_)
  refine g_aload_n X dX11_send_18 0 rfl ?_
  refine g_getR X hf (T := TX11) rfl (by decide) (by decide) in_RX11 tb_353 rfl dX11_send_19 (fun v6 hf => ?_)
  refine g_aload_n X dX11_send_22 0 rfl ?_
  refine g_getR X hf (T := TX11) rfl (by decide) (by decide) in_RX11 tb_350 rfl dX11_send_23 (fun v7 hf => ?_)
  refine g_callV (n := 0) (av := []) (rest := [tR v6]) (k := 2) X hf (fun v8 => (some (tR v8), h5)) (fun _ q => m_X2_lawNow q) (gdV tb_622 tb_623 tb_624 tb_2 tb_625) rfl (by decide +kernel) rfl (by decide) rfl (by decide) (by decide) rfl (Nat.le_of_ble_eq_true rfl) dX11_send_26 (fun v8 hf => ?_)
  refine g_callV (n := 1) (av := [tR v8]) (rest := []) (k := 6) X hf (fun p9 => (some (tI p9.1), p9.2)) (fun _ q => m_X6_whoGoes q) (gdV tb_825 tb_826 tb_827 tb_10 tb_828) rfl (by decide +kernel) rfl (by decide) rfl (by decide) (by decide) rfl (Nat.le_of_ble_eq_true rfl) dX11_send_29 (fun p9 hf => ?_)
  refine g_istore_n (lv' := [(0, tR a0), (1, tI p9.1)]) X dX11_send_32 (by decide) (in_pick [1, 0] rfl) ?_
  refine g_iload_n X dX11_send_33 1 rfl ?_
  refine g_ifge (tgt := 40) X hf dX11_send_34 (by decide) (fun hf => ?_) (fun hf => ?_)
  · refine g_bipush (v := (-3)) X dX11_send_37 (by decide) ?_
    exact g_ireturn X (zW hf) (by decide) (by decide) dX11_send_39
  · refine g_aload_n X dX11_send_40 0 rfl ?_
    refine g_getR X hf (T := TX11) rfl (by decide) (by decide) in_RX11 tb_350 rfl dX11_send_41 (fun v10 hf => ?_)
    refine g_iload_n X dX11_send_44 1 rfl ?_
    refine g_aload_n X dX11_send_45 0 rfl ?_
    refine g_getR X hf (T := TX11) rfl (by decide) (by decide) in_RX11 tb_350 rfl dX11_send_46 (fun v11 hf => ?_)
    refine g_getI X hf (T := TX2) rfl (by decide) (by decide) in_RX2 tb_212 rfl dX11_send_49 (fun v12 hf => ?_)
    refine g_iconst (v := (-1)) X dX11_send_52 (by decide) ?_
    refine g_callV (n := 3) (av := [tI p9.1, tI v12, tI (-1)]) (rest := []) (k := 2) X hf (fun v13 => (some (tI v13), p9.2)) (fun _ q => m_X2_isSent q) (gdV tb_579 tb_538 tb_539 tb_2 tb_540) rfl (by decide +kernel) rfl (by decide) rfl (by decide) (by decide) rfl (Nat.le_of_ble_eq_true rfl) dX11_send_53 (fun v13 hf => ?_)
    refine g_ifeq (tgt := 62) X hf dX11_send_56 (by decide) (fun hf => ?_) (fun hf => ?_)
    · refine g_aload_n X dX11_send_62 0 rfl ?_
      refine g_getR X hf (T := TX11) rfl (by decide) (by decide) in_RX11 tb_350 rfl dX11_send_63 (fun v14 hf => ?_)
      refine g_getR X hf (T := TX2) rfl (by decide) (by decide) in_RX2 tb_222 rfl dX11_send_66 (fun v15 hf => ?_)
      refine g_iload_n X dX11_send_69 1 rfl ?_
      refine g_aaload X hf dX11_send_70 (fun v16 hf => ?_)
      refine g_astore_n (lv' := [(0, tR a0), (1, tI p9.1), (2, tR v16)]) X dX11_send_71 (by decide) (in_pick [1, 2, 0] rfl) ?_
      refine g_aload_n X dX11_send_72 2 rfl ?_
      refine g_aload_n X dX11_send_73 0 rfl ?_
      refine g_getR X hf (T := TX11) rfl (by decide) (by decide) in_RX11 tb_350 rfl dX11_send_74 (fun v17 hf => ?_)
      refine g_getI X hf (T := TX2) rfl (by decide) (by decide) in_RX2 tb_212 rfl dX11_send_77 (fun v18 hf => ?_)
      refine g_putI X hf (T := TX5) rfl (by decide) (by decide) in_RX5 tyX5 tyX5_ok nmX5 tb_87 rfl rfl rfl dX11_send_80 (fun h19 hf => ?_)
      refine g_aload_n X dX11_send_83 2 rfl ?_
      refine g_aload_n X dX11_send_84 0 rfl ?_
      refine g_getR X hf (T := TX11) rfl (by decide) (by decide) in_RX11 tb_350 rfl dX11_send_85 (fun v20 hf => ?_)
      refine g_getI X hf (T := TX2) rfl (by decide) (by decide) in_RX2 tb_212 rfl dX11_send_88 (fun v21 hf => ?_)
      refine g_aload_n X dX11_send_91 0 rfl ?_
      refine g_getR X hf (T := TX11) rfl (by decide) (by decide) in_RX11 tb_350 rfl dX11_send_92 (fun v22 hf => ?_)
      refine g_callV (n := 0) (av := []) (rest := [tI v21, tR v16]) (k := 2) X hf (fun v23 => (some (tR v23), h19)) (fun _ q => m_X2_lawNow q) (gdV tb_622 tb_623 tb_624 tb_2 tb_625) rfl (by decide +kernel) rfl (by decide) rfl (by decide) (by decide) rfl (Nat.le_of_ble_eq_true rfl) dX11_send_95 (fun v23 hf => ?_)
      refine g_getI X hf (T := TX3) rfl (by decide) (by decide) in_RX3 tb_193 rfl dX11_send_98 (fun v24 hf => ?_)
      refine g_sipush (v := 360) X dX11_send_101 (by decide) ?_
      refine g_imul X dX11_send_104 ?_
      refine g_iadd X dX11_send_105 ?_
      refine g_iconst (v := 1) X dX11_send_106 (by decide) ?_
      refine g_isub X dX11_send_107 ?_
      refine g_putI X hf (T := TX5) rfl (by decide) (by decide) in_RX5 tyX5 tyX5_ok nmX5 tb_90 rfl rfl rfl dX11_send_108 (fun h25 hf => ?_)
      refine g_aload_n X dX11_send_111 2 rfl ?_
      refine g_iconst (v := 0) X dX11_send_112 (by decide) ?_
      refine g_putZ X hf (T := TX5) rfl (by decide) (by decide) in_RX5 tyX5 tyX5_ok nmX5 tb_92 rfl rfl rfl dX11_send_113 (fun h26 hf => ?_)
      refine g_iload_n X dX11_send_116 1 rfl ?_
      exact g_ireturn X (zW hf) (by decide) (by decide) dX11_send_117
    · refine g_bipush (v := (-4)) X dX11_send_59 (by decide) ?_
      exact g_ireturn X (zW hf) (by decide) (by decide) dX11_send_61
def f_X11_recall  (a0 : Option Nat) (a1 : Int32) (a2 : Int32) (a3 : Int32) (h : AH) : Option (Int32 × AH) :=
  (gR 11 0 h a0).bind fun v1 =>
  (ck 2 h v1 (f_X2_hasMan v1 a1 h)).bind fun v2 =>
  if v2 = 0 then
    some ((-1), h)
  else
    (f_X11_within a3 0 9999 h).bind fun v3 =>
    if v3 = 0 then
      some ((-1), h)
    else
      (f_X11_within a2 0 a3 h).bind fun v4 =>
      if v4 = 0 then
        some ((-1), h)
      else
        (gR 11 0 h a0).bind fun v5 =>
        (gR 11 0 h a0).bind fun v6 =>
        (gI 2 0 h v6).bind fun v7 =>
        (ck 2 h v5 (f_X2_isSent v5 a1 v7 (-1) h)).bind fun v8 =>
        if v8 = 0 then
          some ((-4), h)
        else
          (gR 11 0 h a0).bind fun v9 =>
          (ck 2 h v9 (f_X2_lawNow v9 h)).bind fun v10 =>
          (ck 3 h v10 (f_X3_recalls v10 a2 a3 h)).bind fun p11 =>
          if p11.1 = 0 then
            some (0, p11.2)
          else
            (gR 11 0 p11.2 a0).bind fun v12 =>
            (gR 2 5 p11.2 v12).bind fun v13 =>
            (aR p11.2 v13 a1).bind fun v14 =>
            (gR 11 0 p11.2 a0).bind fun v15 =>
            (gI 2 0 p11.2 v15).bind fun v16 =>
            (pI 5 7 p11.2 v14 (v16 - 1)).bind fun h17 =>
            (gR 11 0 h17 a0).bind fun v18 =>
            (gR 2 5 h17 v18).bind fun v19 =>
            (aR h17 v19 a1).bind fun v20 =>
            (pZ 5 8 h17 v20 1).bind fun h21 =>
            some (1, h21)
set_option maxRecDepth 20000 in
theorem m_X11_recall  {a0 : Option Nat} {a1 : Int32} {a2 : Int32} {a3 : Int32} {h : AH} {w : (Int32 × AH)} (hf : f_X11_recall a0 a1 a2 a3 h = some w) : CT yX11_recall (wU yX11_recall cX11_recall 4 (some .int)) (rmD 4 0 0) 0 0 [tR a0, tI a1, tI a2, tI a3] h (some (tI w.1), w.2) := by
  refine CT.of (cc := cX11_recall) (nL := 4) (ret := (some .int)) (by decide) (by simp [lg_sl, vOf_cat, wOf]) ?_
  intro K X
  refine g_locs (lv' := [(0, tR a0), (1, tI a1), (2, tI a2), (3, tI a3)]) (fun q hq => hq) ?_
  unfold f_X11_recall at hf
  refine g_aload_n X dX11_recall_0 0 rfl ?_
  refine g_getR X hf (T := TX11) rfl (by decide) (by decide) in_RX11 tb_350 rfl dX11_recall_1 (fun v1 hf => ?_)
  refine g_iload_n X dX11_recall_4 1 rfl ?_
  refine g_callV (n := 1) (av := [tI a1]) (rest := []) (k := 2) X hf (fun v2 => (some (tI v2), h)) (fun _ q => m_X2_hasMan q) (gdV tb_457 tb_458 tb_459 tb_2 tb_460) rfl (by decide +kernel) rfl (by decide) rfl (by decide) (by decide) rfl (Nat.le_of_ble_eq_true rfl) dX11_recall_5 (fun v2 hf => ?_)
  refine g_ifeq (tgt := 31) X hf dX11_recall_8 (by decide) (fun hf => ?_) (fun hf => ?_)
  · refine g_iconst (v := (-1)) X dX11_recall_31 (by decide) ?_
    exact g_ireturn X (zW hf) (by decide) (by decide) dX11_recall_32
  · refine g_iload_n X dX11_recall_11 3 rfl ?_
    refine g_iconst (v := 0) X dX11_recall_12 (by decide) ?_
    refine g_sipush (v := 9999) X dX11_recall_13 (by decide) ?_
    refine g_callS (n := 3) (av := [tI a3, tI 0, tI 9999]) (rest := []) X hf (fun v3 => (some (tI v3), h)) (fun _ q => m_X11_within q) (gdS tb_388 tb_389 tb_1 tb_390) rfl (by decide +kernel) rfl (by decide) (by decide) rfl (Nat.le_of_ble_eq_true rfl) dX11_recall_16 (fun v3 hf => ?_)
    refine g_ifeq (tgt := 31) X hf dX11_recall_19 (by decide) (fun hf => ?_) (fun hf => ?_)
    · refine g_iconst (v := (-1)) X dX11_recall_31 (by decide) ?_
      exact g_ireturn X (zW hf) (by decide) (by decide) dX11_recall_32
    · refine g_iload_n X dX11_recall_22 2 rfl ?_
      refine g_iconst (v := 0) X dX11_recall_23 (by decide) ?_
      refine g_iload_n X dX11_recall_24 3 rfl ?_
      refine g_callS (n := 3) (av := [tI a2, tI 0, tI a3]) (rest := []) X hf (fun v4 => (some (tI v4), h)) (fun _ q => m_X11_within q) (gdS tb_388 tb_389 tb_1 tb_390) rfl (by decide +kernel) rfl (by decide) (by decide) rfl (Nat.le_of_ble_eq_true rfl) dX11_recall_25 (fun v4 hf => ?_)
      refine g_ifne (tgt := 33) X hf dX11_recall_28 (by decide) (fun hf => ?_) (fun hf => ?_)
      · refine g_iconst (v := (-1)) X dX11_recall_31 (by decide) ?_
        exact g_ireturn X (zW hf) (by decide) (by decide) dX11_recall_32
      · refine g_aload_n X dX11_recall_33 0 rfl ?_
        refine g_getR X hf (T := TX11) rfl (by decide) (by decide) in_RX11 tb_350 rfl dX11_recall_34 (fun v5 hf => ?_)
        refine g_iload_n X dX11_recall_37 1 rfl ?_
        refine g_aload_n X dX11_recall_38 0 rfl ?_
        refine g_getR X hf (T := TX11) rfl (by decide) (by decide) in_RX11 tb_350 rfl dX11_recall_39 (fun v6 hf => ?_)
        refine g_getI X hf (T := TX2) rfl (by decide) (by decide) in_RX2 tb_212 rfl dX11_recall_42 (fun v7 hf => ?_)
        refine g_iconst (v := (-1)) X dX11_recall_45 (by decide) ?_
        refine g_callV (n := 3) (av := [tI a1, tI v7, tI (-1)]) (rest := []) (k := 2) X hf (fun v8 => (some (tI v8), h)) (fun _ q => m_X2_isSent q) (gdV tb_579 tb_538 tb_539 tb_2 tb_540) rfl (by decide +kernel) rfl (by decide) rfl (by decide) (by decide) rfl (Nat.le_of_ble_eq_true rfl) dX11_recall_46 (fun v8 hf => ?_)
        refine g_ifne (tgt := 55) X hf dX11_recall_49 (by decide) (fun hf => ?_) (fun hf => ?_)
        · refine g_bipush (v := (-4)) X dX11_recall_52 (by decide) ?_
          exact g_ireturn X (zW hf) (by decide) (by decide) dX11_recall_54
        · refine g_aload_n X dX11_recall_55 0 rfl ?_
          refine g_getR X hf (T := TX11) rfl (by decide) (by decide) in_RX11 tb_350 rfl dX11_recall_56 (fun v9 hf => ?_)
          refine g_callV (n := 0) (av := []) (rest := []) (k := 2) X hf (fun v10 => (some (tR v10), h)) (fun _ q => m_X2_lawNow q) (gdV tb_622 tb_623 tb_624 tb_2 tb_625) rfl (by decide +kernel) rfl (by decide) rfl (by decide) (by decide) rfl (Nat.le_of_ble_eq_true rfl) dX11_recall_59 (fun v10 hf => ?_)
          refine g_iload_n X dX11_recall_62 2 rfl ?_
          refine g_iload_n X dX11_recall_63 3 rfl ?_
          refine g_callV (n := 2) (av := [tI a2, tI a3]) (rest := []) (k := 3) X hf (fun p11 => (some (tI p11.1), p11.2)) (fun _ q => m_X3_recalls q) (gdV tb_873 tb_874 tb_875 tb_8 tb_876) rfl (by decide +kernel) rfl (by decide) rfl (by decide) (by decide) rfl (Nat.le_of_ble_eq_true rfl) dX11_recall_64 (fun p11 hf => ?_)
          refine g_ifne (tgt := 72) X hf dX11_recall_67 (by decide) (fun hf => ?_) (fun hf => ?_)
          · refine g_iconst (v := 0) X dX11_recall_70 (by decide) ?_
            exact g_ireturn X (zW hf) (by decide) (by decide) dX11_recall_71
          · refine g_aload_n X dX11_recall_72 0 rfl ?_
            refine g_getR X hf (T := TX11) rfl (by decide) (by decide) in_RX11 tb_350 rfl dX11_recall_73 (fun v12 hf => ?_)
            refine g_getR X hf (T := TX2) rfl (by decide) (by decide) in_RX2 tb_222 rfl dX11_recall_76 (fun v13 hf => ?_)
            refine g_iload_n X dX11_recall_79 1 rfl ?_
            refine g_aaload X hf dX11_recall_80 (fun v14 hf => ?_)
            refine g_aload_n X dX11_recall_81 0 rfl ?_
            refine g_getR X hf (T := TX11) rfl (by decide) (by decide) in_RX11 tb_350 rfl dX11_recall_82 (fun v15 hf => ?_)
            refine g_getI X hf (T := TX2) rfl (by decide) (by decide) in_RX2 tb_212 rfl dX11_recall_85 (fun v16 hf => ?_)
            refine g_iconst (v := 1) X dX11_recall_88 (by decide) ?_
            refine g_isub X dX11_recall_89 ?_
            refine g_putI X hf (T := TX5) rfl (by decide) (by decide) in_RX5 tyX5 tyX5_ok nmX5 tb_90 rfl rfl rfl dX11_recall_90 (fun h17 hf => ?_)
            refine g_aload_n X dX11_recall_93 0 rfl ?_
            refine g_getR X hf (T := TX11) rfl (by decide) (by decide) in_RX11 tb_350 rfl dX11_recall_94 (fun v18 hf => ?_)
            refine g_getR X hf (T := TX2) rfl (by decide) (by decide) in_RX2 tb_222 rfl dX11_recall_97 (fun v19 hf => ?_)
            refine g_iload_n X dX11_recall_100 1 rfl ?_
            refine g_aaload X hf dX11_recall_101 (fun v20 hf => ?_)
            refine g_iconst (v := 1) X dX11_recall_102 (by decide) ?_
            refine g_putZ X hf (T := TX5) rfl (by decide) (by decide) in_RX5 tyX5 tyX5_ok nmX5 tb_92 rfl rfl rfl dX11_recall_103 (fun h21 hf => ?_)
            refine g_iconst (v := 1) X dX11_recall_106 (by decide) ?_
            exact g_ireturn X (zW hf) (by decide) (by decide) dX11_recall_107
def f_X11_may  (a0 : Option Nat) (a1 : Int32) (a2 : Int32) (h : AH) : Option (Int32 × AH) :=
  (gR 11 0 h a0).bind fun v1 =>
  (ck 2 h v1 (f_X2_hasMan v1 a1 h)).bind fun v2 =>
  if v2 = 0 then
    some ((-1), h)
  else
    (f_X11_isDay a2 h).bind fun v3 =>
    if v3 = 0 then
      some ((-1), h)
    else
      (gR 11 0 h a0).bind fun v4 =>
      (ck 2 h v4 (f_X2_isSent v4 a1 a2 (-1) h)).bind fun v5 =>
      if v5 = 0 then
        some ((-4), h)
      else
        (gR 11 0 h a0).bind fun v6 =>
        (ck 2 h v6 (f_X2_lawNow v6 h)).bind fun v7 =>
        (gR 11 0 h a0).bind fun v8 =>
        (gR 2 5 h v8).bind fun v9 =>
        (aR h v9 a1).bind fun v10 =>
        (gI 5 6 h v10).bind fun v11 =>
        (ck 3 h v7 (f_X3_allows v7 (a2 - v11) h)).bind fun p12 =>
        (f_X11_asAnswer p12.1 p12.2).bind fun v13 =>
        some (v13, p12.2)
set_option maxRecDepth 20000 in
theorem m_X11_may  {a0 : Option Nat} {a1 : Int32} {a2 : Int32} {h : AH} {w : (Int32 × AH)} (hf : f_X11_may a0 a1 a2 h = some w) : CT yX11_may (wU yX11_may cX11_may 3 (some .int)) (rmD 4 0 0) 0 0 [tR a0, tI a1, tI a2] h (some (tI w.1), w.2) := by
  refine CT.of (cc := cX11_may) (nL := 3) (ret := (some .int)) (by decide) (by simp [lg_sl, vOf_cat, wOf]) ?_
  intro K X
  refine g_locs (lv' := [(0, tR a0), (1, tI a1), (2, tI a2)]) (fun q hq => hq) ?_
  unfold f_X11_may at hf
  refine g_aload_n X dX11_may_0 0 rfl ?_
  refine g_getR X hf (T := TX11) rfl (by decide) (by decide) in_RX11 tb_350 rfl dX11_may_1 (fun v1 hf => ?_)
  refine g_iload_n X dX11_may_4 1 rfl ?_
  refine g_callV (n := 1) (av := [tI a1]) (rest := []) (k := 2) X hf (fun v2 => (some (tI v2), h)) (fun _ q => m_X2_hasMan q) (gdV tb_457 tb_458 tb_459 tb_2 tb_460) rfl (by decide +kernel) rfl (by decide) rfl (by decide) (by decide) rfl (Nat.le_of_ble_eq_true rfl) dX11_may_5 (fun v2 hf => ?_)
  refine g_ifeq (tgt := 18) X hf dX11_may_8 (by decide) (fun hf => ?_) (fun hf => ?_)
  · refine g_iconst (v := (-1)) X dX11_may_18 (by decide) ?_
    exact g_ireturn X (zW hf) (by decide) (by decide) dX11_may_19
  · refine g_iload_n X dX11_may_11 2 rfl ?_
    refine g_callS (n := 1) (av := [tI a2]) (rest := []) X hf (fun v3 => (some (tI v3), h)) (fun _ q => m_X11_isDay q) (gdS tb_406 tb_407 tb_1 tb_408) rfl (by decide +kernel) rfl (by decide) (by decide) rfl (Nat.le_of_ble_eq_true rfl) dX11_may_12 (fun v3 hf => ?_)
    refine g_ifne (tgt := 20) X hf dX11_may_15 (by decide) (fun hf => ?_) (fun hf => ?_)
    · refine g_iconst (v := (-1)) X dX11_may_18 (by decide) ?_
      exact g_ireturn X (zW hf) (by decide) (by decide) dX11_may_19
    · refine g_aload_n X dX11_may_20 0 rfl ?_
      refine g_getR X hf (T := TX11) rfl (by decide) (by decide) in_RX11 tb_350 rfl dX11_may_21 (fun v4 hf => ?_)
      refine g_iload_n X dX11_may_24 1 rfl ?_
      refine g_iload_n X dX11_may_25 2 rfl ?_
      refine g_iconst (v := (-1)) X dX11_may_26 (by decide) ?_
      refine g_callV (n := 3) (av := [tI a1, tI a2, tI (-1)]) (rest := []) (k := 2) X hf (fun v5 => (some (tI v5), h)) (fun _ q => m_X2_isSent q) (gdV tb_579 tb_538 tb_539 tb_2 tb_540) rfl (by decide +kernel) rfl (by decide) rfl (by decide) (by decide) rfl (Nat.le_of_ble_eq_true rfl) dX11_may_27 (fun v5 hf => ?_)
      refine g_ifne (tgt := 36) X hf dX11_may_30 (by decide) (fun hf => ?_) (fun hf => ?_)
      · refine g_bipush (v := (-4)) X dX11_may_33 (by decide) ?_
        exact g_ireturn X (zW hf) (by decide) (by decide) dX11_may_35
      · refine g_aload_n X dX11_may_36 0 rfl ?_
        refine g_getR X hf (T := TX11) rfl (by decide) (by decide) in_RX11 tb_350 rfl dX11_may_37 (fun v6 hf => ?_)
        refine g_callV (n := 0) (av := []) (rest := []) (k := 2) X hf (fun v7 => (some (tR v7), h)) (fun _ q => m_X2_lawNow q) (gdV tb_622 tb_623 tb_624 tb_2 tb_625) rfl (by decide +kernel) rfl (by decide) rfl (by decide) (by decide) rfl (Nat.le_of_ble_eq_true rfl) dX11_may_40 (fun v7 hf => ?_)
        refine g_iload_n X dX11_may_43 2 rfl ?_
        refine g_aload_n X dX11_may_44 0 rfl ?_
        refine g_getR X hf (T := TX11) rfl (by decide) (by decide) in_RX11 tb_350 rfl dX11_may_45 (fun v8 hf => ?_)
        refine g_getR X hf (T := TX2) rfl (by decide) (by decide) in_RX2 tb_222 rfl dX11_may_48 (fun v9 hf => ?_)
        refine g_iload_n X dX11_may_51 1 rfl ?_
        refine g_aaload X hf dX11_may_52 (fun v10 hf => ?_)
        refine g_getI X hf (T := TX5) rfl (by decide) (by decide) in_RX5 tb_87 rfl dX11_may_53 (fun v11 hf => ?_)
        refine g_isub X dX11_may_56 ?_
        refine g_callV (n := 1) (av := [tI (a2 - v11)]) (rest := []) (k := 3) X hf (fun p12 => (some (tI p12.1), p12.2)) (fun _ q => m_X3_allows q) (gdV tb_881 tb_882 tb_883 tb_8 tb_884) rfl (by decide +kernel) rfl (by decide) rfl (by decide) (by decide) rfl (Nat.le_of_ble_eq_true rfl) dX11_may_57 (fun p12 hf => ?_)
        refine g_callS (n := 1) (av := [tI p12.1]) (rest := []) X hf (fun v13 => (some (tI v13), p12.2)) (fun _ q => m_X11_asAnswer q) (gdS tb_507 tb_508 tb_1 tb_509) rfl (by decide +kernel) rfl (by decide) (by decide) rfl (Nat.le_of_ble_eq_true rfl) dX11_may_60 (fun v13 hf => ?_)
        exact g_ireturn X (zW hf) (by decide) (by decide) dX11_may_63
def b_X11_pollCasts_16    : Nat → Option Nat → Int32 → AH → Option AH
  | 0 => fun _ _ _ => none
  | n + 1 => fun x0 x1 h =>
    (gR 11 0 h x0).bind fun v1 =>
    (gI 2 6 h v1).bind fun v2 =>
    if x1 < v2 then
      (gR 11 5 h x0).bind fun v3 =>
      (aI h v3 x1).bind fun v4 =>
      if v4 < 0 then
        b_X11_pollCasts_16 n x0 (x1 + 1) h
      else
        (gR 11 3 h x0).bind fun v5 =>
        (gR 11 5 h x0).bind fun v6 =>
        (aI h v6 x1).bind fun v7 =>
        (gR 11 0 h x0).bind fun v8 =>
        (gR 2 3 h v8).bind fun v9 =>
        (gR 11 0 h x0).bind fun v10 =>
        (gR 2 5 h v10).bind fun v11 =>
        (aR h v11 x1).bind fun v12 =>
        (gI 5 0 h v12).bind fun v13 =>
        (aR h v9 v13).bind fun v14 =>
        (gI 9 0 h v14).bind fun v15 =>
        (ck 6 h v5 (f_X6_addCast v5 v7 v15 h)).bind fun h16 =>
        b_X11_pollCasts_16 n x0 (x1 + 1) h16
    else
      some h
set_option maxRecDepth 20000 in
theorem w_X11_pollCasts_16 {K : KT} {w : AH}   (X : CX K cX11_pollCasts RX11 TB none "pollCasts" (rmD 2 0 0) 2 0 0)  : ∀ (n : Nat) (x0 : Option Nat) (x1 : Int32) (h : AH), b_X11_pollCasts_16 n x0 x1 h = some w → GG K (none, w) 0 0 16 [(0, tR x0), (1, tI x1)] [] h := by
  intro n
  induction n with
  | zero =>
    intro x0 x1 h hf
    cases (show none = some w from hf)
  | succ n ih =>
    intro x0 x1 h hf
    rw [b_X11_pollCasts_16] at hf
    refine g_iload_n X dX11_pollCasts_16 1 rfl ?_
    refine g_aload_n X dX11_pollCasts_17 0 rfl ?_
    refine g_getR X hf (T := TX11) rfl (by decide) (by decide) in_RX11 tb_350 rfl dX11_pollCasts_18 (fun v1 hf => ?_)
    refine g_getI X hf (T := TX2) rfl (by decide) (by decide) in_RX2 tb_224 rfl dX11_pollCasts_21 (fun v2 hf => ?_)
    refine g_icmpge (tgt := 78) X hf dX11_pollCasts_24 (by decide) (fun hf => ?_) (fun hf => ?_)
    · refine g_aload_n X dX11_pollCasts_27 0 rfl ?_
      refine g_getR X hf (T := TX11) rfl (by decide) (by decide) in_RX11 tb_355 rfl dX11_pollCasts_28 (fun v3 hf => ?_)
      refine g_iload_n X dX11_pollCasts_31 1 rfl ?_
      refine g_iaload X hf dX11_pollCasts_32 (fun v4 hf => ?_)
      refine g_iflt (tgt := 72) X hf dX11_pollCasts_33 (by decide) (fun hf => ?_) (fun hf => ?_)
      · refine g_iinc (v := (x1 + 1)) (lv' := [(0, tR x0), (1, tI (x1 + 1))]) X dX11_pollCasts_72 1 rfl (by rfl) (by decide) (in_pick [1, 0] rfl) ?_
        refine g_goto (tgt := 16) X dX11_pollCasts_75 (by decide) ?_
        exact ih x0 (x1 + 1) h hf
      · refine g_aload_n X dX11_pollCasts_36 0 rfl ?_
        refine g_getR X hf (T := TX11) rfl (by decide) (by decide) in_RX11 tb_353 rfl dX11_pollCasts_37 (fun v5 hf => ?_)
        refine g_aload_n X dX11_pollCasts_40 0 rfl ?_
        refine g_getR X hf (T := TX11) rfl (by decide) (by decide) in_RX11 tb_355 rfl dX11_pollCasts_41 (fun v6 hf => ?_)
        refine g_iload_n X dX11_pollCasts_44 1 rfl ?_
        refine g_iaload X hf dX11_pollCasts_45 (fun v7 hf => ?_)
        refine g_aload_n X dX11_pollCasts_46 0 rfl ?_
        refine g_getR X hf (T := TX11) rfl (by decide) (by decide) in_RX11 tb_350 rfl dX11_pollCasts_47 (fun v8 hf => ?_)
        refine g_getR X hf (T := TX2) rfl (by decide) (by decide) in_RX2 tb_218 rfl dX11_pollCasts_50 (fun v9 hf => ?_)
        refine g_aload_n X dX11_pollCasts_53 0 rfl ?_
        refine g_getR X hf (T := TX11) rfl (by decide) (by decide) in_RX11 tb_350 rfl dX11_pollCasts_54 (fun v10 hf => ?_)
        refine g_getR X hf (T := TX2) rfl (by decide) (by decide) in_RX2 tb_222 rfl dX11_pollCasts_57 (fun v11 hf => ?_)
        refine g_iload_n X dX11_pollCasts_60 1 rfl ?_
        refine g_aaload X hf dX11_pollCasts_61 (fun v12 hf => ?_)
        refine g_getI X hf (T := TX5) rfl (by decide) (by decide) in_RX5 tb_71 rfl dX11_pollCasts_62 (fun v13 hf => ?_)
        refine g_aaload X hf dX11_pollCasts_65 (fun v14 hf => ?_)
        refine g_getI X hf (T := TX9) rfl (by decide) (by decide) in_RX9 tb_53 rfl dX11_pollCasts_66 (fun v15 hf => ?_)
        refine g_callV (n := 2) (av := [tI v7, tI v15]) (rest := []) (k := 6) X hf (fun h16 => (none, h16)) (fun _ q => m_X6_addCast q) (gdV tb_893 tb_894 tb_895 tb_10 tb_896) rfl (by decide +kernel) rfl (by decide) rfl (by decide) (by decide) rfl (Nat.le_of_ble_eq_true rfl) dX11_pollCasts_69 (fun h16 hf => ?_)
        refine g_iinc (v := (x1 + 1)) (lv' := [(0, tR x0), (1, tI (x1 + 1))]) X dX11_pollCasts_72 1 rfl (by rfl) (by decide) (in_pick [1, 0] rfl) ?_
        refine g_goto (tgt := 16) X dX11_pollCasts_75 (by decide) ?_
        exact ih x0 (x1 + 1) h16 hf
    · exact g_vreturn X (zV hf) (by decide) (by decide) dX11_pollCasts_78
def f_X11_pollCasts  (a0 : Option Nat) (h : AH) : Option AH :=
  (gR 11 3 h a0).bind fun v1 =>
  (gR 11 0 h a0).bind fun v2 =>
  (gI 2 6 h v2).bind fun v3 =>
  (ck 6 h v1 (f_X6_begin v1 v3 h)).bind fun h4 =>
  b_X11_pollCasts_16 FU a0 0 h4
set_option maxRecDepth 20000 in
theorem m_X11_pollCasts  {a0 : Option Nat} {h : AH} {w : AH} (hf : f_X11_pollCasts a0 h = some w) : CT yX11_pollCasts (wU yX11_pollCasts cX11_pollCasts 2 none) (rmD 2 0 0) 0 0 [tR a0] h (none, w) := by
  refine CT.of (cc := cX11_pollCasts) (nL := 2) (ret := none) (by decide) (by simp [lg_sl, vOf_cat, wOf]) ?_
  intro K X
  refine g_locs (lv' := [(0, tR a0)]) (fun q hq => hq) ?_
  unfold f_X11_pollCasts at hf
  refine g_aload_n X dX11_pollCasts_0 0 rfl ?_
  refine g_getR X hf (T := TX11) rfl (by decide) (by decide) in_RX11 tb_353 rfl dX11_pollCasts_1 (fun v1 hf => ?_)
  refine g_aload_n X dX11_pollCasts_4 0 rfl ?_
  refine g_getR X hf (T := TX11) rfl (by decide) (by decide) in_RX11 tb_350 rfl dX11_pollCasts_5 (fun v2 hf => ?_)
  refine g_getI X hf (T := TX2) rfl (by decide) (by decide) in_RX2 tb_224 rfl dX11_pollCasts_8 (fun v3 hf => ?_)
  refine g_callV (n := 1) (av := [tI v3]) (rest := []) (k := 6) X hf (fun h4 => (none, h4)) (fun _ q => m_X6_begin q) (gdV tb_892 tb_789 tb_790 tb_10 tb_791) rfl (by decide +kernel) rfl (by decide) rfl (by decide) (by decide) rfl (Nat.le_of_ble_eq_true rfl) dX11_pollCasts_11 (fun h4 hf => ?_)
  refine g_iconst (v := 0) X dX11_pollCasts_14 (by decide) ?_
  refine g_istore_n (lv' := [(0, tR a0), (1, tI 0)]) X dX11_pollCasts_15 (by decide) (in_pick [1, 0] rfl) ?_
  exact w_X11_pollCasts_16 X FU a0 0 h4 hf
def b_X11_beside_16   (x0 : Option Nat) (x1 : Int32) (x2 : Int32) (h : AH) : Option (Int32 × AH) :=
  (f_X11_isDay x2 h).bind fun v1 =>
  if v1 = 0 then
    some ((-1), h)
  else
    (ck 11 h x0 (f_X11_drawCasts x0 x2 x1 0 h)).bind fun h2 =>
    (ck 11 h2 x0 (f_X11_pollCasts x0 h2)).bind fun h3 =>
    (gR 11 3 h3 x0).bind fun v4 =>
    (gR 11 0 h3 x0).bind fun v5 =>
    (ck 2 h3 v5 (f_X2_lawNow v5 h3)).bind fun v6 =>
    (ck 6 h3 v4 (f_X6_whoGoes v4 v6 h3)).bind fun p7 =>
    some (p7.1, p7.2)
set_option maxRecDepth 20000 in
theorem w_X11_beside_16 {K : KT} {w : (Int32 × AH)}   (X : CX K cX11_beside RX11 TB (some .int) "beside" (rmD 6 0 0) 3 0 0)  (x0 : Option Nat) (x1 : Int32) (x2 : Int32) (h : AH) (hf : b_X11_beside_16 x0 x1 x2 h = some w) : GG K (some (tI w.1), w.2) 0 0 16 [(0, tR x0), (1, tI x1), (2, tI x2)] [] h := by
  unfold b_X11_beside_16 at hf
  refine g_iload_n X dX11_beside_16 2 rfl ?_
  refine g_callS (n := 1) (av := [tI x2]) (rest := []) X hf (fun v1 => (some (tI v1), h)) (fun _ q => m_X11_isDay q) (gdS tb_406 tb_407 tb_1 tb_408) rfl (by decide +kernel) rfl (by decide) (by decide) rfl (Nat.le_of_ble_eq_true rfl) dX11_beside_17 (fun v1 hf => ?_)
  refine g_ifne (tgt := 25) X hf dX11_beside_20 (by decide) (fun hf => ?_) (fun hf => ?_)
  · refine g_iconst (v := (-1)) X dX11_beside_23 (by decide) ?_
    exact g_ireturn X (zW hf) (by decide) (by decide) dX11_beside_24
  · refine g_aload_n X dX11_beside_25 0 rfl ?_
    refine g_iload_n X dX11_beside_26 2 rfl ?_
    refine g_iload_n X dX11_beside_27 1 rfl ?_
    refine g_iconst (v := 0) X dX11_beside_28 (by decide) ?_
    refine g_callV (n := 3) (av := [tI x2, tI x1, tI 0]) (rest := []) (k := 11) X hf (fun h2 => (none, h2)) (fun _ q => m_X11_drawCasts q) (gdV tb_576 tb_577 tb_1650 tb_1 tb_578) rfl (by decide +kernel) rfl (by decide) rfl (by decide) (by decide) rfl (Nat.le_of_ble_eq_true rfl) dX11_beside_29 (fun h2 hf => ?_)
    refine g_aload_n X dX11_beside_32 0 rfl ?_
    refine g_callV (n := 0) (av := []) (rest := []) (k := 11) X hf (fun h3 => (none, h3)) (fun _ q => m_X11_pollCasts q) (gdV tb_889 tb_890 tb_1669 tb_1 tb_891) rfl (by decide +kernel) rfl (by decide) rfl (by decide) (by decide) rfl (Nat.le_of_ble_eq_true rfl) dX11_beside_33 (fun h3 hf => ?_)
    refine g_aload_n X dX11_beside_36 0 rfl ?_
    refine g_getR X hf (T := TX11) rfl (by decide) (by decide) in_RX11 tb_353 rfl dX11_beside_37 (fun v4 hf => ?_)
    refine g_aload_n X dX11_beside_40 0 rfl ?_
    refine g_getR X hf (T := TX11) rfl (by decide) (by decide) in_RX11 tb_350 rfl dX11_beside_41 (fun v5 hf => ?_)
    refine g_callV (n := 0) (av := []) (rest := [tR v4]) (k := 2) X hf (fun v6 => (some (tR v6), h3)) (fun _ q => m_X2_lawNow q) (gdV tb_622 tb_623 tb_624 tb_2 tb_625) rfl (by decide +kernel) rfl (by decide) rfl (by decide) (by decide) rfl (Nat.le_of_ble_eq_true rfl) dX11_beside_44 (fun v6 hf => ?_)
    refine g_callV (n := 1) (av := [tR v6]) (rest := []) (k := 6) X hf (fun p7 => (some (tI p7.1), p7.2)) (fun _ q => m_X6_whoGoes q) (gdV tb_825 tb_826 tb_827 tb_10 tb_828) rfl (by decide +kernel) rfl (by decide) rfl (by decide) (by decide) rfl (Nat.le_of_ble_eq_true rfl) dX11_beside_47 (fun p7 hf => ?_)
    exact g_ireturn X (zW hf) (by decide) (by decide) dX11_beside_50
def f_X11_beside  (a0 : Option Nat) (a1 : Int32) (a2 : Int32) (h : AH) : Option (Int32 × AH) :=
  if a1 = (-1) then
    b_X11_beside_16 a0 a1 a2 h
  else
    (gR 11 0 h a0).bind fun v1 =>
    (ck 2 h v1 (f_X2_hasMan v1 a1 h)).bind fun v2 =>
    if v2 = 0 then
      some ((-1), h)
    else
      b_X11_beside_16 a0 a1 a2 h
set_option maxRecDepth 20000 in
theorem m_X11_beside  {a0 : Option Nat} {a1 : Int32} {a2 : Int32} {h : AH} {w : (Int32 × AH)} (hf : f_X11_beside a0 a1 a2 h = some w) : CT yX11_beside (wU yX11_beside cX11_beside 3 (some .int)) (rmD 6 0 0) 0 0 [tR a0, tI a1, tI a2] h (some (tI w.1), w.2) := by
  refine CT.of (cc := cX11_beside) (nL := 3) (ret := (some .int)) (by decide) (by simp [lg_sl, vOf_cat, wOf]) ?_
  intro K X
  refine g_locs (lv' := [(0, tR a0), (1, tI a1), (2, tI a2)]) (fun q hq => hq) ?_
  unfold f_X11_beside at hf
  refine g_iload_n X dX11_beside_0 1 rfl ?_
  refine g_iconst (v := (-1)) X dX11_beside_1 (by decide) ?_
  refine g_icmpeq (tgt := 16) X hf dX11_beside_2 (by decide) (fun hf => ?_) (fun hf => ?_)
  · exact w_X11_beside_16 X a0 a1 a2 h hf
  · refine g_aload_n X dX11_beside_5 0 rfl ?_
    refine g_getR X hf (T := TX11) rfl (by decide) (by decide) in_RX11 tb_350 rfl dX11_beside_6 (fun v1 hf => ?_)
    refine g_iload_n X dX11_beside_9 1 rfl ?_
    refine g_callV (n := 1) (av := [tI a1]) (rest := []) (k := 2) X hf (fun v2 => (some (tI v2), h)) (fun _ q => m_X2_hasMan q) (gdV tb_457 tb_458 tb_459 tb_2 tb_460) rfl (by decide +kernel) rfl (by decide) rfl (by decide) (by decide) rfl (Nat.le_of_ble_eq_true rfl) dX11_beside_10 (fun v2 hf => ?_)
    refine g_ifeq (tgt := 23) X hf dX11_beside_13 (by decide) (fun hf => ?_) (fun hf => ?_)
    · refine g_iconst (v := (-1)) X dX11_beside_23 (by decide) ?_
      exact g_ireturn X (zW hf) (by decide) (by decide) dX11_beside_24
    · exact w_X11_beside_16 X a0 a1 a2 h hf
def f_X11_keptBy  (a0 : Option Nat) (a1 : Int32) (h : AH) : Option (Int32 × AH) :=
  (f_X11_isDay a1 h).bind fun v1 =>
  if v1 = 0 then
    some ((-1), h)
  else
    (ck 11 h a0 (f_X11_drawCasts a0 a1 (-1) 1 h)).bind fun h2 =>
    (ck 11 h2 a0 (f_X11_pollCasts a0 h2)).bind fun h3 =>
    (gR 11 3 h3 a0).bind fun v4 =>
    (gR 11 0 h3 a0).bind fun v5 =>
    (ck 2 h3 v5 (f_X2_lawNow v5 h3)).bind fun v6 =>
    (ck 6 h3 v4 (f_X6_whoGoes v4 v6 h3)).bind fun p7 =>
    some (p7.1, p7.2)
set_option maxRecDepth 20000 in
theorem m_X11_keptBy  {a0 : Option Nat} {a1 : Int32} {h : AH} {w : (Int32 × AH)} (hf : f_X11_keptBy a0 a1 h = some w) : CT yX11_keptBy (wU yX11_keptBy cX11_keptBy 2 (some .int)) (rmD 6 0 0) 0 0 [tR a0, tI a1] h (some (tI w.1), w.2) := by
  refine CT.of (cc := cX11_keptBy) (nL := 2) (ret := (some .int)) (by decide) (by simp [lg_sl, vOf_cat, wOf]) ?_
  intro K X
  refine g_locs (lv' := [(0, tR a0), (1, tI a1)]) (fun q hq => hq) ?_
  unfold f_X11_keptBy at hf
  refine g_iload_n X dX11_keptBy_0 1 rfl ?_
  refine g_callS (n := 1) (av := [tI a1]) (rest := []) X hf (fun v1 => (some (tI v1), h)) (fun _ q => m_X11_isDay q) (gdS tb_406 tb_407 tb_1 tb_408) rfl (by decide +kernel) rfl (by decide) (by decide) rfl (Nat.le_of_ble_eq_true rfl) dX11_keptBy_1 (fun v1 hf => ?_)
  refine g_ifne (tgt := 9) X hf dX11_keptBy_4 (by decide) (fun hf => ?_) (fun hf => ?_)
  · refine g_iconst (v := (-1)) X dX11_keptBy_7 (by decide) ?_
    exact g_ireturn X (zW hf) (by decide) (by decide) dX11_keptBy_8
  · refine g_aload_n X dX11_keptBy_9 0 rfl ?_
    refine g_iload_n X dX11_keptBy_10 1 rfl ?_
    refine g_iconst (v := (-1)) X dX11_keptBy_11 (by decide) ?_
    refine g_iconst (v := 1) X dX11_keptBy_12 (by decide) ?_
    refine g_callV (n := 3) (av := [tI a1, tI (-1), tI 1]) (rest := []) (k := 11) X hf (fun h2 => (none, h2)) (fun _ q => m_X11_drawCasts q) (gdV tb_576 tb_577 tb_1650 tb_1 tb_578) rfl (by decide +kernel) rfl (by decide) rfl (by decide) (by decide) rfl (Nat.le_of_ble_eq_true rfl) dX11_keptBy_13 (fun h2 hf => ?_)
    refine g_aload_n X dX11_keptBy_16 0 rfl ?_
    refine g_callV (n := 0) (av := []) (rest := []) (k := 11) X hf (fun h3 => (none, h3)) (fun _ q => m_X11_pollCasts q) (gdV tb_889 tb_890 tb_1669 tb_1 tb_891) rfl (by decide +kernel) rfl (by decide) rfl (by decide) (by decide) rfl (Nat.le_of_ble_eq_true rfl) dX11_keptBy_17 (fun h3 hf => ?_)
    refine g_aload_n X dX11_keptBy_20 0 rfl ?_
    refine g_getR X hf (T := TX11) rfl (by decide) (by decide) in_RX11 tb_353 rfl dX11_keptBy_21 (fun v4 hf => ?_)
    refine g_aload_n X dX11_keptBy_24 0 rfl ?_
    refine g_getR X hf (T := TX11) rfl (by decide) (by decide) in_RX11 tb_350 rfl dX11_keptBy_25 (fun v5 hf => ?_)
    refine g_callV (n := 0) (av := []) (rest := [tR v4]) (k := 2) X hf (fun v6 => (some (tR v6), h3)) (fun _ q => m_X2_lawNow q) (gdV tb_622 tb_623 tb_624 tb_2 tb_625) rfl (by decide +kernel) rfl (by decide) rfl (by decide) (by decide) rfl (Nat.le_of_ble_eq_true rfl) dX11_keptBy_28 (fun v6 hf => ?_)
    refine g_callV (n := 1) (av := [tR v6]) (rest := []) (k := 6) X hf (fun p7 => (some (tI p7.1), p7.2)) (fun _ q => m_X6_whoGoes q) (gdV tb_825 tb_826 tb_827 tb_10 tb_828) rfl (by decide +kernel) rfl (by decide) rfl (by decide) (by decide) rfl (Nat.le_of_ble_eq_true rfl) dX11_keptBy_31 (fun p7 hf => ?_)
    exact g_ireturn X (zW hf) (by decide) (by decide) dX11_keptBy_34
def b_X11_broken_47    : Nat → Option Nat → Int32 → Int32 → Int32 → Int32 → Int32 → AH → Option (Int32 × AH)
  | 0 => fun _ _ _ _ _ _ _ => none
  | n + 1 => fun x0 x1 x2 x3 x4 x5 h =>
    (gR 11 0 h x0).bind fun v1 =>
    (gI 2 6 h v1).bind fun v2 =>
    if x5 < v2 then
      if x5 = x3 then
        b_X11_broken_47 n x0 x1 x2 x3 x4 (x5 + 1) h
      else
        (gR 11 0 h x0).bind fun v3 =>
        (gR 2 5 h v3).bind fun v4 =>
        (aR h v4 x5).bind fun v5 =>
        (gI 5 1 h v5).bind fun v6 =>
        if v6 = x1 then
          (gR 11 0 h x0).bind fun v7 =>
          (ck 2 h v7 (f_X2_isThere v7 x5 x2 (-1) h)).bind fun v8 =>
          if v8 = 0 then
            b_X11_broken_47 n x0 x1 x2 x3 x4 (x5 + 1) h
          else
            b_X11_broken_47 n x0 x1 x2 x3 (x4 + 1) (x5 + 1) h
        else
          b_X11_broken_47 n x0 x1 x2 x3 x4 (x5 + 1) h
    else
      (gR 11 0 h x0).bind fun v9 =>
      (gR 11 3 h x0).bind fun v10 =>
      (ck 2 h v9 (f_X2_countKnown v9 x2 v10 h)).bind fun h11 =>
      (gR 11 3 h11 x0).bind fun v12 =>
      (gR 6 3 h11 v12).bind fun v13 =>
      (aI h11 v13 x3).bind fun v14 =>
      if v14 < x4 then
        some (2, h11)
      else
        (gR 11 3 h11 x0).bind fun v15 =>
        (gR 6 2 h11 v15).bind fun v16 =>
        (aI h11 v16 x3).bind fun v17 =>
        if v17 < x4 then
          some (1, h11)
        else
          some (0, h11)
set_option maxRecDepth 20000 in
theorem w_X11_broken_47 {K : KT} {w : (Int32 × AH)}   (X : CX K cX11_broken RX11 TB (some .int) "broken" (rmD 5 0 0) 6 0 0)  : ∀ (n : Nat) (x0 : Option Nat) (x1 : Int32) (x2 : Int32) (x3 : Int32) (x4 : Int32) (x5 : Int32) (h : AH), b_X11_broken_47 n x0 x1 x2 x3 x4 x5 h = some w → GG K (some (tI w.1), w.2) 0 0 47 [(0, tR x0), (1, tI x1), (2, tI x2), (3, tI x3), (4, tI x4), (5, tI x5)] [] h := by
  intro n
  induction n with
  | zero =>
    intro x0 x1 x2 x3 x4 x5 h hf
    cases (show none = some w from hf)
  | succ n ih =>
    intro x0 x1 x2 x3 x4 x5 h hf
    rw [b_X11_broken_47] at hf
    refine g_iload X dX11_broken_47 5 rfl ?_
    refine g_aload_n X dX11_broken_49 0 rfl ?_
    refine g_getR X hf (T := TX11) rfl (by decide) (by decide) in_RX11 tb_350 rfl dX11_broken_50 (fun v1 hf => ?_)
    refine g_getI X hf (T := TX2) rfl (by decide) (by decide) in_RX2 tb_224 rfl dX11_broken_53 (fun v2 hf => ?_)
    refine g_icmpge (tgt := 105) X hf dX11_broken_56 (by decide) (fun hf => ?_) (fun hf => ?_)
    · refine g_iload X dX11_broken_59 5 rfl ?_
      refine g_iload_n X dX11_broken_61 3 rfl ?_
      refine g_icmpeq (tgt := 99) X hf dX11_broken_62 (by decide) (fun hf => ?_) (fun hf => ?_)
      · refine g_iinc (v := (x5 + 1)) (lv' := [(0, tR x0), (1, tI x1), (2, tI x2), (3, tI x3), (4, tI x4), (5, tI (x5 + 1))]) X dX11_broken_99 5 rfl (by rfl) (by decide) (in_pick [1, 2, 3, 4, 5, 0] rfl) ?_
        refine g_goto (tgt := 47) X dX11_broken_102 (by decide) ?_
        exact ih x0 x1 x2 x3 x4 (x5 + 1) h hf
      · refine g_aload_n X dX11_broken_65 0 rfl ?_
        refine g_getR X hf (T := TX11) rfl (by decide) (by decide) in_RX11 tb_350 rfl dX11_broken_66 (fun v3 hf => ?_)
        refine g_getR X hf (T := TX2) rfl (by decide) (by decide) in_RX2 tb_222 rfl dX11_broken_69 (fun v4 hf => ?_)
        refine g_iload X dX11_broken_72 5 rfl ?_
        refine g_aaload X hf dX11_broken_74 (fun v5 hf => ?_)
        refine g_getI X hf (T := TX5) rfl (by decide) (by decide) in_RX5 tb_73 rfl dX11_broken_75 (fun v6 hf => ?_)
        refine g_iload_n X dX11_broken_78 1 rfl ?_
        refine g_icmpne (tgt := 99) X hf dX11_broken_79 (by decide) (fun hf => ?_) (fun hf => ?_)
        · refine g_aload_n X dX11_broken_82 0 rfl ?_
          refine g_getR X hf (T := TX11) rfl (by decide) (by decide) in_RX11 tb_350 rfl dX11_broken_83 (fun v7 hf => ?_)
          refine g_iload X dX11_broken_86 5 rfl ?_
          refine g_iload_n X dX11_broken_88 2 rfl ?_
          refine g_iconst (v := (-1)) X dX11_broken_89 (by decide) ?_
          refine g_callV (n := 3) (av := [tI x5, tI x2, tI (-1)]) (rest := []) (k := 2) X hf (fun v8 => (some (tI v8), h)) (fun _ q => m_X2_isThere q) (gdV tb_533 tb_534 tb_535 tb_2 tb_536) rfl (by decide +kernel) rfl (by decide) rfl (by decide) (by decide) rfl (Nat.le_of_ble_eq_true rfl) dX11_broken_90 (fun v8 hf => ?_)
          refine g_ifeq (tgt := 99) X hf dX11_broken_93 (by decide) (fun hf => ?_) (fun hf => ?_)
          · refine g_iinc (v := (x5 + 1)) (lv' := [(0, tR x0), (1, tI x1), (2, tI x2), (3, tI x3), (4, tI x4), (5, tI (x5 + 1))]) X dX11_broken_99 5 rfl (by rfl) (by decide) (in_pick [1, 2, 3, 4, 5, 0] rfl) ?_
            refine g_goto (tgt := 47) X dX11_broken_102 (by decide) ?_
            exact ih x0 x1 x2 x3 x4 (x5 + 1) h hf
          · refine g_iinc (v := (x4 + 1)) (lv' := [(0, tR x0), (1, tI x1), (2, tI x2), (3, tI x3), (4, tI (x4 + 1)), (5, tI x5)]) X dX11_broken_96 4 rfl (by rfl) (by decide) (in_pick [1, 2, 3, 4, 0, 5] rfl) ?_
            refine g_iinc (v := (x5 + 1)) (lv' := [(0, tR x0), (1, tI x1), (2, tI x2), (3, tI x3), (4, tI (x4 + 1)), (5, tI (x5 + 1))]) X dX11_broken_99 5 rfl (by rfl) (by decide) (in_pick [1, 2, 3, 4, 5, 0] rfl) ?_
            refine g_goto (tgt := 47) X dX11_broken_102 (by decide) ?_
            exact ih x0 x1 x2 x3 (x4 + 1) (x5 + 1) h hf
        · refine g_iinc (v := (x5 + 1)) (lv' := [(0, tR x0), (1, tI x1), (2, tI x2), (3, tI x3), (4, tI x4), (5, tI (x5 + 1))]) X dX11_broken_99 5 rfl (by rfl) (by decide) (in_pick [1, 2, 3, 4, 5, 0] rfl) ?_
          refine g_goto (tgt := 47) X dX11_broken_102 (by decide) ?_
          exact ih x0 x1 x2 x3 x4 (x5 + 1) h hf
    · refine g_aload_n X dX11_broken_105 0 rfl ?_
      refine g_getR X hf (T := TX11) rfl (by decide) (by decide) in_RX11 tb_350 rfl dX11_broken_106 (fun v9 hf => ?_)
      refine g_iload_n X dX11_broken_109 2 rfl ?_
      refine g_aload_n X dX11_broken_110 0 rfl ?_
      refine g_getR X hf (T := TX11) rfl (by decide) (by decide) in_RX11 tb_353 rfl dX11_broken_111 (fun v10 hf => ?_)
      refine g_callV (n := 2) (av := [tI x2, tR v10]) (rest := []) (k := 2) X hf (fun h11 => (none, h11)) (fun _ q => m_X2_countKnown q) (gdV tb_784 tb_785 tb_786 tb_2 tb_787) rfl (by decide +kernel) rfl (by decide) rfl (by decide) (by decide) rfl (Nat.le_of_ble_eq_true rfl) dX11_broken_114 (fun h11 hf => ?_)
      refine g_aload_n X dX11_broken_117 0 rfl ?_
      refine g_getR X hf (T := TX11) rfl (by decide) (by decide) in_RX11 tb_353 rfl dX11_broken_118 (fun v12 hf => ?_)
      refine g_getR X hf (T := TX6) rfl (by decide) (by decide) in_RX6 tb_317 rfl dX11_broken_121 (fun v13 hf => ?_)
      refine g_iload_n X dX11_broken_124 3 rfl ?_
      refine g_iaload X hf dX11_broken_125 (fun v14 hf => ?_)
      refine g_iload X dX11_broken_126 4 rfl ?_
      refine g_icmpge (tgt := 133) X hf dX11_broken_128 (by decide) (fun hf => ?_) (fun hf => ?_)
      · refine g_iconst (v := 2) X dX11_broken_131 (by decide) ?_
        exact g_ireturn X (zW hf) (by decide) (by decide) dX11_broken_132
      · refine g_aload_n X dX11_broken_133 0 rfl ?_
        refine g_getR X hf (T := TX11) rfl (by decide) (by decide) in_RX11 tb_353 rfl dX11_broken_134 (fun v15 hf => ?_)
        refine g_getR X hf (T := TX6) rfl (by decide) (by decide) in_RX6 tb_315 rfl dX11_broken_137 (fun v16 hf => ?_)
        refine g_iload_n X dX11_broken_140 3 rfl ?_
        refine g_iaload X hf dX11_broken_141 (fun v17 hf => ?_)
        refine g_iload X dX11_broken_142 4 rfl ?_
        refine g_icmpge (tgt := 151) X hf dX11_broken_144 (by decide) (fun hf => ?_) (fun hf => ?_)
        · refine g_iconst (v := 1) X dX11_broken_147 (by decide) ?_
          refine g_goto (tgt := 152) X dX11_broken_148 (by decide) ?_
          exact g_ireturn X (zW hf) (by decide) (by decide) dX11_broken_152
        · refine g_iconst (v := 0) X dX11_broken_151 (by decide) ?_
          exact g_ireturn X (zW hf) (by decide) (by decide) dX11_broken_152
def f_X11_broken  (a0 : Option Nat) (a1 : Int32) (a2 : Int32) (h : AH) : Option (Int32 × AH) :=
  (f_X11_isClub a1 h).bind fun v1 =>
  if v1 = 0 then
    some ((-1), h)
  else
    (gR 11 0 h a0).bind fun v2 =>
    (gI 2 0 h v2).bind fun v3 =>
    (f_X11_within a2 0 v3 h).bind fun v4 =>
    if v4 = 0 then
      some ((-1), h)
    else
      (gR 11 0 h a0).bind fun v5 =>
      (ck 2 h v5 (f_X2_boundTo v5 a1 a2 h)).bind fun v6 =>
      if v6 < 0 then
        some ((-4), h)
      else
        b_X11_broken_47 FU a0 a1 a2 v6 0 0 h
set_option maxRecDepth 20000 in
theorem m_X11_broken  {a0 : Option Nat} {a1 : Int32} {a2 : Int32} {h : AH} {w : (Int32 × AH)} (hf : f_X11_broken a0 a1 a2 h = some w) : CT yX11_broken (wU yX11_broken cX11_broken 6 (some .int)) (rmD 5 0 0) 0 0 [tR a0, tI a1, tI a2] h (some (tI w.1), w.2) := by
  refine CT.of (cc := cX11_broken) (nL := 6) (ret := (some .int)) (by decide) (by simp [lg_sl, vOf_cat, wOf]) ?_
  intro K X
  refine g_locs (lv' := [(0, tR a0), (1, tI a1), (2, tI a2)]) (fun q hq => hq) ?_
  unfold f_X11_broken at hf
  refine g_iload_n X dX11_broken_0 1 rfl ?_
  refine g_callS (n := 1) (av := [tI a1]) (rest := []) X hf (fun v1 => (some (tI v1), h)) (fun _ q => m_X11_isClub q) (gdS tb_514 tb_515 tb_1 tb_516) rfl (by decide +kernel) rfl (by decide) (by decide) rfl (Nat.le_of_ble_eq_true rfl) dX11_broken_1 (fun v1 hf => ?_)
  refine g_ifeq (tgt := 22) X hf dX11_broken_4 (by decide) (fun hf => ?_) (fun hf => ?_)
  · refine g_iconst (v := (-1)) X dX11_broken_22 (by decide) ?_
    exact g_ireturn X (zW hf) (by decide) (by decide) dX11_broken_23
  · refine g_iload_n X dX11_broken_7 2 rfl ?_
    refine g_iconst (v := 0) X dX11_broken_8 (by decide) ?_
    refine g_aload_n X dX11_broken_9 0 rfl ?_
    refine g_getR X hf (T := TX11) rfl (by decide) (by decide) in_RX11 tb_350 rfl dX11_broken_10 (fun v2 hf => ?_)
    refine g_getI X hf (T := TX2) rfl (by decide) (by decide) in_RX2 tb_212 rfl dX11_broken_13 (fun v3 hf => ?_)
    refine g_callS (n := 3) (av := [tI a2, tI 0, tI v3]) (rest := []) X hf (fun v4 => (some (tI v4), h)) (fun _ q => m_X11_within q) (gdS tb_388 tb_389 tb_1 tb_390) rfl (by decide +kernel) rfl (by decide) (by decide) rfl (Nat.le_of_ble_eq_true rfl) dX11_broken_16 (fun v4 hf => ?_)
    refine g_ifne (tgt := 24) X hf dX11_broken_19 (by decide) (fun hf => ?_) (fun hf => ?_)
    · refine g_iconst (v := (-1)) X dX11_broken_22 (by decide) ?_
      exact g_ireturn X (zW hf) (by decide) (by decide) dX11_broken_23
    · refine g_aload_n X dX11_broken_24 0 rfl ?_
      refine g_getR X hf (T := TX11) rfl (by decide) (by decide) in_RX11 tb_350 rfl dX11_broken_25 (fun v5 hf => ?_)
      refine g_iload_n X dX11_broken_28 1 rfl ?_
      refine g_iload_n X dX11_broken_29 2 rfl ?_
      refine g_callV (n := 2) (av := [tI a1, tI a2]) (rest := []) (k := 2) X hf (fun v6 => (some (tI v6), h)) (fun _ q => m_X2_boundTo q) (gdV tb_525 tb_526 tb_527 tb_2 tb_528) rfl (by decide +kernel) rfl (by decide) rfl (by decide) (by decide) rfl (Nat.le_of_ble_eq_true rfl) dX11_broken_30 (fun v6 hf => ?_)
      refine g_istore_n (lv' := [(0, tR a0), (1, tI a1), (2, tI a2), (3, tI v6)]) X dX11_broken_33 (by decide) (in_pick [1, 2, 3, 0] rfl) ?_
      refine g_iload_n X dX11_broken_34 3 rfl ?_
      refine g_ifge (tgt := 41) X hf dX11_broken_35 (by decide) (fun hf => ?_) (fun hf => ?_)
      · refine g_bipush (v := (-4)) X dX11_broken_38 (by decide) ?_
        exact g_ireturn X (zW hf) (by decide) (by decide) dX11_broken_40
      · refine g_iconst (v := 0) X dX11_broken_41 (by decide) ?_
        refine g_istore (lv' := [(0, tR a0), (1, tI a1), (2, tI a2), (3, tI v6), (4, tI 0)]) X dX11_broken_42 (by decide) (in_pick [1, 2, 3, 4, 0] rfl) ?_
        refine g_iconst (v := 0) X dX11_broken_44 (by decide) ?_
        refine g_istore (lv' := [(0, tR a0), (1, tI a1), (2, tI a2), (3, tI v6), (4, tI 0), (5, tI 0)]) X dX11_broken_45 (by decide) (in_pick [1, 2, 3, 4, 5, 0] rfl) ?_
        exact w_X11_broken_47 X FU a0 a1 a2 v6 0 0 h hf
def b_X11_clubsOfComers_4   (h : AH) : Nat → Option Nat → Int32 → Int32 → Int32 → Option Int32
  | 0 => fun _ _ _ _ => none
  | n + 1 => fun x0 x1 x2 x3 =>
    (gR 11 0 h x0).bind fun v1 =>
    (gI 2 6 h v1).bind fun v2 =>
    if x3 < v2 then
      (gR 11 0 h x0).bind fun v3 =>
      (gR 2 5 h v3).bind fun v4 =>
      (aR h v4 x3).bind fun v5 =>
      (gI 5 1 h v5).bind fun v6 =>
      if x3 = x1 then
        b_X11_clubsOfComers_4 h n x0 x1 x2 (x3 + 1)
      else
        if v6 < 0 then
          b_X11_clubsOfComers_4 h n x0 x1 x2 (x3 + 1)
        else
          (gI 11 6 h x0).bind fun v7 =>
          if ((v7 >>> (x3 &&& 31)) &&& 1) = 0 then
            b_X11_clubsOfComers_4 h n x0 x1 x2 (x3 + 1)
          else
            b_X11_clubsOfComers_4 h n x0 x1 (x2 ||| (1 <<< (v6 &&& 31))) (x3 + 1)
    else
      some x2
set_option maxRecDepth 20000 in
theorem w_X11_clubsOfComers_4 {K : KT} {w : Int32} {h : AH}   (X : CX K cX11_clubsOfComers RX11 TB (some .int) "clubsOfComers" (rmD 1 0 0) 5 0 0)  : ∀ (n : Nat) (x0 : Option Nat) (x1 : Int32) (x2 : Int32) (x3 : Int32), b_X11_clubsOfComers_4 h n x0 x1 x2 x3 = some w → GG K (some (tI w), h) 0 0 4 [(0, tR x0), (1, tI x1), (2, tI x2), (3, tI x3)] [] h := by
  intro n
  induction n with
  | zero =>
    intro x0 x1 x2 x3 hf
    cases (show none = some w from hf)
  | succ n ih =>
    intro x0 x1 x2 x3 hf
    rw [b_X11_clubsOfComers_4] at hf
    refine g_iload_n X dX11_clubsOfComers_4 3 rfl ?_
    refine g_aload_n X dX11_clubsOfComers_5 0 rfl ?_
    refine g_getR X hf (T := TX11) rfl (by decide) (by decide) in_RX11 tb_350 rfl dX11_clubsOfComers_6 (fun v1 hf => ?_)
    refine g_getI X hf (T := TX2) rfl (by decide) (by decide) in_RX2 tb_224 rfl dX11_clubsOfComers_9 (fun v2 hf => ?_)
    refine g_icmpge (tgt := 63) X hf dX11_clubsOfComers_12 (by decide) (fun hf => ?_) (fun hf => ?_)
    · refine g_aload_n X dX11_clubsOfComers_15 0 rfl ?_
      refine g_getR X hf (T := TX11) rfl (by decide) (by decide) in_RX11 tb_350 rfl dX11_clubsOfComers_16 (fun v3 hf => ?_)
      refine g_getR X hf (T := TX2) rfl (by decide) (by decide) in_RX2 tb_222 rfl dX11_clubsOfComers_19 (fun v4 hf => ?_)
      refine g_iload_n X dX11_clubsOfComers_22 3 rfl ?_
      refine g_aaload X hf dX11_clubsOfComers_23 (fun v5 hf => ?_)
      refine g_getI X hf (T := TX5) rfl (by decide) (by decide) in_RX5 tb_73 rfl dX11_clubsOfComers_24 (fun v6 hf => ?_)
      refine g_istore (lv' := [(0, tR x0), (1, tI x1), (2, tI x2), (3, tI x3), (4, tI v6)]) X dX11_clubsOfComers_27 (by decide) (in_pick [1, 2, 3, 4, 0] rfl) ?_
      refine g_iload_n X dX11_clubsOfComers_29 3 rfl ?_
      refine g_iload_n X dX11_clubsOfComers_30 1 rfl ?_
      refine g_icmpeq (tgt := 57) X hf dX11_clubsOfComers_31 (by decide) (fun hf => ?_) (fun hf => ?_)
      · refine g_iinc (v := (x3 + 1)) (lv' := [(0, tR x0), (1, tI x1), (2, tI x2), (3, tI (x3 + 1)), (4, tI v6)]) X dX11_clubsOfComers_57 3 rfl (by rfl) (by decide) (in_pick [1, 2, 3, 0, 4] rfl) ?_
        refine g_goto (tgt := 4) X dX11_clubsOfComers_60 (by decide) ?_
        refine g_locs (lv' := [(0, tR x0), (1, tI x1), (2, tI x2), (3, tI (x3 + 1))]) (in_pick [0, 1, 2, 3] rfl) ?_
        exact ih x0 x1 x2 (x3 + 1) hf
      · refine g_iload X dX11_clubsOfComers_34 4 rfl ?_
        refine g_iflt (tgt := 57) X hf dX11_clubsOfComers_36 (by decide) (fun hf => ?_) (fun hf => ?_)
        · refine g_iinc (v := (x3 + 1)) (lv' := [(0, tR x0), (1, tI x1), (2, tI x2), (3, tI (x3 + 1)), (4, tI v6)]) X dX11_clubsOfComers_57 3 rfl (by rfl) (by decide) (in_pick [1, 2, 3, 0, 4] rfl) ?_
          refine g_goto (tgt := 4) X dX11_clubsOfComers_60 (by decide) ?_
          refine g_locs (lv' := [(0, tR x0), (1, tI x1), (2, tI x2), (3, tI (x3 + 1))]) (in_pick [0, 1, 2, 3] rfl) ?_
          exact ih x0 x1 x2 (x3 + 1) hf
        · refine g_aload_n X dX11_clubsOfComers_39 0 rfl ?_
          refine g_getI X hf (T := TX11) rfl (by decide) (by decide) in_RX11 tb_356 rfl dX11_clubsOfComers_40 (fun v7 hf => ?_)
          refine g_iload_n X dX11_clubsOfComers_43 3 rfl ?_
          refine g_ishr X dX11_clubsOfComers_44 ?_
          refine g_iconst (v := 1) X dX11_clubsOfComers_45 (by decide) ?_
          refine g_iand X dX11_clubsOfComers_46 ?_
          refine g_ifeq (tgt := 57) X hf dX11_clubsOfComers_47 (by decide) (fun hf => ?_) (fun hf => ?_)
          · refine g_iinc (v := (x3 + 1)) (lv' := [(0, tR x0), (1, tI x1), (2, tI x2), (3, tI (x3 + 1)), (4, tI v6)]) X dX11_clubsOfComers_57 3 rfl (by rfl) (by decide) (in_pick [1, 2, 3, 0, 4] rfl) ?_
            refine g_goto (tgt := 4) X dX11_clubsOfComers_60 (by decide) ?_
            refine g_locs (lv' := [(0, tR x0), (1, tI x1), (2, tI x2), (3, tI (x3 + 1))]) (in_pick [0, 1, 2, 3] rfl) ?_
            exact ih x0 x1 x2 (x3 + 1) hf
          · refine g_iload_n X dX11_clubsOfComers_50 2 rfl ?_
            refine g_iconst (v := 1) X dX11_clubsOfComers_51 (by decide) ?_
            refine g_iload X dX11_clubsOfComers_52 4 rfl ?_
            refine g_ishl X dX11_clubsOfComers_54 ?_
            refine g_ior X dX11_clubsOfComers_55 ?_
            refine g_istore_n (lv' := [(0, tR x0), (1, tI x1), (2, tI (x2 ||| (1 <<< (v6 &&& 31)))), (3, tI x3), (4, tI v6)]) X dX11_clubsOfComers_56 (by decide) (in_pick [1, 2, 0, 3, 4] rfl) ?_
            refine g_iinc (v := (x3 + 1)) (lv' := [(0, tR x0), (1, tI x1), (2, tI (x2 ||| (1 <<< (v6 &&& 31)))), (3, tI (x3 + 1)), (4, tI v6)]) X dX11_clubsOfComers_57 3 rfl (by rfl) (by decide) (in_pick [1, 2, 3, 0, 4] rfl) ?_
            refine g_goto (tgt := 4) X dX11_clubsOfComers_60 (by decide) ?_
            refine g_locs (lv' := [(0, tR x0), (1, tI x1), (2, tI (x2 ||| (1 <<< (v6 &&& 31)))), (3, tI (x3 + 1))]) (in_pick [0, 1, 2, 3] rfl) ?_
            exact ih x0 x1 (x2 ||| (1 <<< (v6 &&& 31))) (x3 + 1) hf
    · refine g_iload_n X dX11_clubsOfComers_63 2 rfl ?_
      exact g_ireturn X (zP hf) (by decide) (by decide) dX11_clubsOfComers_64
def f_X11_clubsOfComers  (a0 : Option Nat) (a1 : Int32) (h : AH) : Option Int32 :=
  b_X11_clubsOfComers_4 h FU a0 a1 0 0
set_option maxRecDepth 20000 in
theorem m_X11_clubsOfComers  {a0 : Option Nat} {a1 : Int32} {h : AH} {w : Int32} (hf : f_X11_clubsOfComers a0 a1 h = some w) : CT yX11_clubsOfComers (wU yX11_clubsOfComers cX11_clubsOfComers 5 (some .int)) (rmD 1 0 0) 0 0 [tR a0, tI a1] h (some (tI w), h) := by
  refine CT.of (cc := cX11_clubsOfComers) (nL := 5) (ret := (some .int)) (by decide) (by simp [lg_sl, vOf_cat, wOf]) ?_
  intro K X
  refine g_locs (lv' := [(0, tR a0), (1, tI a1)]) (fun q hq => hq) ?_
  unfold f_X11_clubsOfComers at hf
  refine g_iconst (v := 0) X dX11_clubsOfComers_0 (by decide) ?_
  refine g_istore_n (lv' := [(0, tR a0), (1, tI a1), (2, tI 0)]) X dX11_clubsOfComers_1 (by decide) (in_pick [1, 2, 0] rfl) ?_
  refine g_iconst (v := 0) X dX11_clubsOfComers_2 (by decide) ?_
  refine g_istore_n (lv' := [(0, tR a0), (1, tI a1), (2, tI 0), (3, tI 0)]) X dX11_clubsOfComers_3 (by decide) (in_pick [1, 2, 3, 0] rfl) ?_
  exact w_X11_clubsOfComers_4 X FU a0 a1 0 0 hf
def b_X11_goesWith_99  (k17 : Option Nat → Int32 → Int32 → Option Nat → Int32 → AH → Option (Int32 × AH)) (x0 : Option Nat) (x1 : Int32) (x2 : Int32) (x3 : Option Nat) (x4 : Int32) (s0 : Int32) (h : AH) : Option (Int32 × AH) :=
  if s0 < 0 then
    k17 x0 x1 x2 x3 (x4 + 1) h
  else
    (gR 11 3 h x0).bind fun v1 =>
    (gR 11 0 h x0).bind fun v2 =>
    (gR 2 3 h v2).bind fun v3 =>
    (gR 11 0 h x0).bind fun v4 =>
    (gR 2 5 h v4).bind fun v5 =>
    (aR h v5 x4).bind fun v6 =>
    (gI 5 0 h v6).bind fun v7 =>
    (aR h v3 v7).bind fun v8 =>
    (gI 9 0 h v8).bind fun v9 =>
    (ck 6 h v1 (f_X6_addCast v1 s0 v9 h)).bind fun h10 =>
    k17 x0 x1 x2 x3 (x4 + 1) h10
set_option maxRecDepth 20000 in
theorem w_X11_goesWith_99 {K : KT} {w : (Int32 × AH)} {k17 : Option Nat → Int32 → Int32 → Option Nat → Int32 → AH → Option (Int32 × AH)}  (X : CX K cX11_goesWith RX11 TB (some .boolean) "goesWith" (rmD 5 0 0) 8 0 0) (hk17 : ∀ (x0 : Option Nat) (x1 : Int32) (x2 : Int32) (x3 : Option Nat) (x4 : Int32) (h : AH), k17 x0 x1 x2 x3 x4 h = some w → GG K (some (tI w.1), w.2) 0 0 17 [(0, tR x0), (1, tI x1), (2, tI x2), (3, tR x3), (4, tI x4)] [] h) (x0 : Option Nat) (x1 : Int32) (x2 : Int32) (x3 : Option Nat) (x4 : Int32) (s0 : Int32) (h : AH) (hf : b_X11_goesWith_99 k17 x0 x1 x2 x3 x4 s0 h = some w) : GG K (some (tI w.1), w.2) 0 0 99 [(0, tR x0), (1, tI x1), (2, tI x2), (3, tR x3), (4, tI x4)] [tI s0] h := by
  unfold b_X11_goesWith_99 at hf
  refine g_istore (lv' := [(0, tR x0), (1, tI x1), (2, tI x2), (3, tR x3), (4, tI x4), (7, tI s0)]) X dX11_goesWith_99 (by decide) (in_pick [1, 2, 3, 4, 5, 0] rfl) ?_
  refine g_iload X dX11_goesWith_101 5 rfl ?_
  refine g_iflt (tgt := 139) X hf dX11_goesWith_103 (by decide) (fun hf => ?_) (fun hf => ?_)
  · refine g_iinc (v := (x4 + 1)) (lv' := [(0, tR x0), (1, tI x1), (2, tI x2), (3, tR x3), (4, tI (x4 + 1)), (7, tI s0)]) X dX11_goesWith_139 4 rfl (by rfl) (by decide) (in_pick [1, 2, 3, 4, 0, 5] rfl) ?_
    refine g_goto (tgt := 17) X dX11_goesWith_142 (by decide) ?_
    refine g_locs (lv' := [(0, tR x0), (1, tI x1), (2, tI x2), (3, tR x3), (4, tI (x4 + 1))]) (in_pick [0, 1, 2, 3, 4] rfl) ?_
    exact hk17 x0 x1 x2 x3 (x4 + 1) h hf
  · refine g_aload_n X dX11_goesWith_106 0 rfl ?_
    refine g_getR X hf (T := TX11) rfl (by decide) (by decide) in_RX11 tb_353 rfl dX11_goesWith_107 (fun v1 hf => ?_)
    refine g_iload X dX11_goesWith_110 5 rfl ?_
    refine g_aload_n X dX11_goesWith_112 0 rfl ?_
    refine g_getR X hf (T := TX11) rfl (by decide) (by decide) in_RX11 tb_350 rfl dX11_goesWith_113 (fun v2 hf => ?_)
    refine g_getR X hf (T := TX2) rfl (by decide) (by decide) in_RX2 tb_218 rfl dX11_goesWith_116 (fun v3 hf => ?_)
    refine g_aload_n X dX11_goesWith_119 0 rfl ?_
    refine g_getR X hf (T := TX11) rfl (by decide) (by decide) in_RX11 tb_350 rfl dX11_goesWith_120 (fun v4 hf => ?_)
    refine g_getR X hf (T := TX2) rfl (by decide) (by decide) in_RX2 tb_222 rfl dX11_goesWith_123 (fun v5 hf => ?_)
    refine g_iload X dX11_goesWith_126 4 rfl ?_
    refine g_aaload X hf dX11_goesWith_128 (fun v6 hf => ?_)
    refine g_getI X hf (T := TX5) rfl (by decide) (by decide) in_RX5 tb_71 rfl dX11_goesWith_129 (fun v7 hf => ?_)
    refine g_aaload X hf dX11_goesWith_132 (fun v8 hf => ?_)
    refine g_getI X hf (T := TX9) rfl (by decide) (by decide) in_RX9 tb_53 rfl dX11_goesWith_133 (fun v9 hf => ?_)
    refine g_callV (n := 2) (av := [tI s0, tI v9]) (rest := []) (k := 6) X hf (fun h10 => (none, h10)) (fun _ q => m_X6_addCast q) (gdV tb_893 tb_894 tb_895 tb_10 tb_896) rfl (by decide +kernel) rfl (by decide) rfl (by decide) (by decide) rfl (Nat.le_of_ble_eq_true rfl) dX11_goesWith_136 (fun h10 hf => ?_)
    refine g_iinc (v := (x4 + 1)) (lv' := [(0, tR x0), (1, tI x1), (2, tI x2), (3, tR x3), (4, tI (x4 + 1)), (7, tI s0)]) X dX11_goesWith_139 4 rfl (by rfl) (by decide) (in_pick [1, 2, 3, 4, 0, 5] rfl) ?_
    refine g_goto (tgt := 17) X dX11_goesWith_142 (by decide) ?_
    refine g_locs (lv' := [(0, tR x0), (1, tI x1), (2, tI x2), (3, tR x3), (4, tI (x4 + 1))]) (in_pick [0, 1, 2, 3, 4] rfl) ?_
    exact hk17 x0 x1 x2 x3 (x4 + 1) h10 hf
def b_X11_goesWith_81  (k17 : Option Nat → Int32 → Int32 → Option Nat → Int32 → AH → Option (Int32 × AH)) (x0 : Option Nat) (x1 : Int32) (x2 : Int32) (x3 : Option Nat) (x4 : Int32) (s0 : Int32) (h : AH) : Option (Int32 × AH) :=
  if s0 = 0 then
    (gR 11 5 h x0).bind fun v1 =>
    (aI h v1 x4).bind fun v2 =>
    b_X11_goesWith_99 k17 x0 x1 x2 x3 x4 v2 h
  else
    b_X11_goesWith_99 k17 x0 x1 x2 x3 x4 x1 h
set_option maxRecDepth 20000 in
theorem w_X11_goesWith_81 {K : KT} {w : (Int32 × AH)} {k17 : Option Nat → Int32 → Int32 → Option Nat → Int32 → AH → Option (Int32 × AH)}  (X : CX K cX11_goesWith RX11 TB (some .boolean) "goesWith" (rmD 5 0 0) 8 0 0) (hk17 : ∀ (x0 : Option Nat) (x1 : Int32) (x2 : Int32) (x3 : Option Nat) (x4 : Int32) (h : AH), k17 x0 x1 x2 x3 x4 h = some w → GG K (some (tI w.1), w.2) 0 0 17 [(0, tR x0), (1, tI x1), (2, tI x2), (3, tR x3), (4, tI x4)] [] h) (x0 : Option Nat) (x1 : Int32) (x2 : Int32) (x3 : Option Nat) (x4 : Int32) (s0 : Int32) (h : AH) (hf : b_X11_goesWith_81 k17 x0 x1 x2 x3 x4 s0 h = some w) : GG K (some (tI w.1), w.2) 0 0 81 [(0, tR x0), (1, tI x1), (2, tI x2), (3, tR x3), (4, tI x4)] [tI s0] h := by
  unfold b_X11_goesWith_81 at hf
  refine g_istore (lv' := [(0, tR x0), (1, tI x1), (2, tI x2), (3, tR x3), (4, tI x4), (6, tI s0)]) X dX11_goesWith_81 (by decide) (in_pick [1, 2, 3, 4, 5, 0] rfl) ?_
  refine g_iload X dX11_goesWith_83 5 rfl ?_
  refine g_ifeq (tgt := 92) X hf dX11_goesWith_85 (by decide) (fun hf => ?_) (fun hf => ?_)
  · refine g_aload_n X dX11_goesWith_92 0 rfl ?_
    refine g_getR X hf (T := TX11) rfl (by decide) (by decide) in_RX11 tb_355 rfl dX11_goesWith_93 (fun v1 hf => ?_)
    refine g_iload X dX11_goesWith_96 4 rfl ?_
    refine g_iaload X hf dX11_goesWith_98 (fun v2 hf => ?_)
    refine g_locs (lv' := [(0, tR x0), (1, tI x1), (2, tI x2), (3, tR x3), (4, tI x4)]) (in_pick [0, 1, 2, 3, 4] rfl) ?_
    exact w_X11_goesWith_99 X hk17 x0 x1 x2 x3 x4 v2 h hf
  · refine g_iload_n X dX11_goesWith_88 1 rfl ?_
    refine g_goto (tgt := 99) X dX11_goesWith_89 (by decide) ?_
    refine g_locs (lv' := [(0, tR x0), (1, tI x1), (2, tI x2), (3, tR x3), (4, tI x4)]) (in_pick [0, 1, 2, 3, 4] rfl) ?_
    exact w_X11_goesWith_99 X hk17 x0 x1 x2 x3 x4 x1 h hf
def b_X11_goesWith_17    : Nat → Option Nat → Int32 → Int32 → Option Nat → Int32 → AH → Option (Int32 × AH)
  | 0 => fun _ _ _ _ _ _ => none
  | n + 1 => fun x0 x1 x2 x3 x4 h =>
    (gR 11 0 h x0).bind fun v1 =>
    (gI 2 6 h v1).bind fun v2 =>
    if x4 < v2 then
      (gI 11 6 h x0).bind fun v3 =>
      if ((v3 >>> (x4 &&& 31)) &&& 1) = 0 then
        b_X11_goesWith_17 n x0 x1 x2 x3 (x4 + 1) h
      else
        (gR 11 0 h x0).bind fun v4 =>
        (gR 2 5 h v4).bind fun v5 =>
        (aR h v5 x4).bind fun v6 =>
        (gI 5 1 h v6).bind fun v7 =>
        if x4 = x1 then
          b_X11_goesWith_81 (b_X11_goesWith_17 n) x0 x1 x2 x3 x4 0 h
        else
          if v7 < 0 then
            b_X11_goesWith_81 (b_X11_goesWith_17 n) x0 x1 x2 x3 x4 0 h
          else
            if ((x2 >>> (v7 &&& 31)) &&& 1) = 0 then
              b_X11_goesWith_81 (b_X11_goesWith_17 n) x0 x1 x2 x3 x4 0 h
            else
              b_X11_goesWith_81 (b_X11_goesWith_17 n) x0 x1 x2 x3 x4 1 h
    else
      (gR 11 3 h x0).bind fun v8 =>
      (ck 6 h v8 (f_X6_firstMan v8 h)).bind fun v9 =>
      if v9 = x1 then
        (gR 11 3 h x0).bind fun v10 =>
        (ck 6 h v10 (f_X6_whoGoes v10 x3 h)).bind fun p11 =>
        if p11.1 = x1 then
          some (1, p11.2)
        else
          some (0, p11.2)
      else
        some (0, h)
set_option maxRecDepth 20000 in
theorem w_X11_goesWith_17 {K : KT} {w : (Int32 × AH)}   (X : CX K cX11_goesWith RX11 TB (some .boolean) "goesWith" (rmD 5 0 0) 8 0 0)  : ∀ (n : Nat) (x0 : Option Nat) (x1 : Int32) (x2 : Int32) (x3 : Option Nat) (x4 : Int32) (h : AH), b_X11_goesWith_17 n x0 x1 x2 x3 x4 h = some w → GG K (some (tI w.1), w.2) 0 0 17 [(0, tR x0), (1, tI x1), (2, tI x2), (3, tR x3), (4, tI x4)] [] h := by
  intro n
  induction n with
  | zero =>
    intro x0 x1 x2 x3 x4 h hf
    cases (show none = some w from hf)
  | succ n ih =>
    intro x0 x1 x2 x3 x4 h hf
    rw [b_X11_goesWith_17] at hf
    refine g_iload X dX11_goesWith_17 4 rfl ?_
    refine g_aload_n X dX11_goesWith_19 0 rfl ?_
    refine g_getR X hf (T := TX11) rfl (by decide) (by decide) in_RX11 tb_350 rfl dX11_goesWith_20 (fun v1 hf => ?_)
    refine g_getI X hf (T := TX2) rfl (by decide) (by decide) in_RX2 tb_224 rfl dX11_goesWith_23 (fun v2 hf => ?_)
    refine g_icmpge (tgt := 145) X hf dX11_goesWith_26 (by decide) (fun hf => ?_) (fun hf => ?_)
    · refine g_aload_n X dX11_goesWith_29 0 rfl ?_
      refine g_getI X hf (T := TX11) rfl (by decide) (by decide) in_RX11 tb_356 rfl dX11_goesWith_30 (fun v3 hf => ?_)
      refine g_iload X dX11_goesWith_33 4 rfl ?_
      refine g_ishr X dX11_goesWith_35 ?_
      refine g_iconst (v := 1) X dX11_goesWith_36 (by decide) ?_
      refine g_iand X dX11_goesWith_37 ?_
      refine g_ifeq (tgt := 139) X hf dX11_goesWith_38 (by decide) (fun hf => ?_) (fun hf => ?_)
      · refine g_iinc (v := (x4 + 1)) (lv' := [(0, tR x0), (1, tI x1), (2, tI x2), (3, tR x3), (4, tI (x4 + 1))]) X dX11_goesWith_139 4 rfl (by rfl) (by decide) (in_pick [1, 2, 3, 4, 0] rfl) ?_
        refine g_goto (tgt := 17) X dX11_goesWith_142 (by decide) ?_
        exact ih x0 x1 x2 x3 (x4 + 1) h hf
      · refine g_aload_n X dX11_goesWith_41 0 rfl ?_
        refine g_getR X hf (T := TX11) rfl (by decide) (by decide) in_RX11 tb_350 rfl dX11_goesWith_42 (fun v4 hf => ?_)
        refine g_getR X hf (T := TX2) rfl (by decide) (by decide) in_RX2 tb_222 rfl dX11_goesWith_45 (fun v5 hf => ?_)
        refine g_iload X dX11_goesWith_48 4 rfl ?_
        refine g_aaload X hf dX11_goesWith_50 (fun v6 hf => ?_)
        refine g_getI X hf (T := TX5) rfl (by decide) (by decide) in_RX5 tb_73 rfl dX11_goesWith_51 (fun v7 hf => ?_)
        refine g_istore (lv' := [(0, tR x0), (1, tI x1), (2, tI x2), (3, tR x3), (4, tI x4), (5, tI v7)]) X dX11_goesWith_54 (by decide) (in_pick [1, 2, 3, 4, 5, 0] rfl) ?_
        refine g_iload X dX11_goesWith_56 4 rfl ?_
        refine g_iload_n X dX11_goesWith_58 1 rfl ?_
        refine g_icmpeq (tgt := 80) X hf dX11_goesWith_59 (by decide) (fun hf => ?_) (fun hf => ?_)
        · refine g_iconst (v := 0) X dX11_goesWith_80 (by decide) ?_
          refine g_locs (lv' := [(0, tR x0), (1, tI x1), (2, tI x2), (3, tR x3), (4, tI x4)]) (in_pick [0, 1, 2, 3, 4] rfl) ?_
          exact w_X11_goesWith_81 X ih x0 x1 x2 x3 x4 0 h hf
        · refine g_iload X dX11_goesWith_62 5 rfl ?_
          refine g_iflt (tgt := 80) X hf dX11_goesWith_64 (by decide) (fun hf => ?_) (fun hf => ?_)
          · refine g_iconst (v := 0) X dX11_goesWith_80 (by decide) ?_
            refine g_locs (lv' := [(0, tR x0), (1, tI x1), (2, tI x2), (3, tR x3), (4, tI x4)]) (in_pick [0, 1, 2, 3, 4] rfl) ?_
            exact w_X11_goesWith_81 X ih x0 x1 x2 x3 x4 0 h hf
          · refine g_iload_n X dX11_goesWith_67 2 rfl ?_
            refine g_iload X dX11_goesWith_68 5 rfl ?_
            refine g_ishr X dX11_goesWith_70 ?_
            refine g_iconst (v := 1) X dX11_goesWith_71 (by decide) ?_
            refine g_iand X dX11_goesWith_72 ?_
            refine g_ifeq (tgt := 80) X hf dX11_goesWith_73 (by decide) (fun hf => ?_) (fun hf => ?_)
            · refine g_iconst (v := 0) X dX11_goesWith_80 (by decide) ?_
              refine g_locs (lv' := [(0, tR x0), (1, tI x1), (2, tI x2), (3, tR x3), (4, tI x4)]) (in_pick [0, 1, 2, 3, 4] rfl) ?_
              exact w_X11_goesWith_81 X ih x0 x1 x2 x3 x4 0 h hf
            · refine g_iconst (v := 1) X dX11_goesWith_76 (by decide) ?_
              refine g_goto (tgt := 81) X dX11_goesWith_77 (by decide) ?_
              refine g_locs (lv' := [(0, tR x0), (1, tI x1), (2, tI x2), (3, tR x3), (4, tI x4)]) (in_pick [0, 1, 2, 3, 4] rfl) ?_
              exact w_X11_goesWith_81 X ih x0 x1 x2 x3 x4 1 h hf
    · refine g_aload_n X dX11_goesWith_145 0 rfl ?_
      refine g_getR X hf (T := TX11) rfl (by decide) (by decide) in_RX11 tb_353 rfl dX11_goesWith_146 (fun v8 hf => ?_)
      refine g_callV (n := 0) (av := []) (rest := []) (k := 6) X hf (fun v9 => (some (tI v9), h)) (fun _ q => m_X6_firstMan q) (gdV tb_808 tb_809 tb_810 tb_10 tb_811) rfl (by decide +kernel) rfl (by decide) rfl (by decide) (by decide) rfl (Nat.le_of_ble_eq_true rfl) dX11_goesWith_149 (fun v9 hf => ?_)
      refine g_iload_n X dX11_goesWith_152 1 rfl ?_
      refine g_icmpne (tgt := 172) X hf dX11_goesWith_153 (by decide) (fun hf => ?_) (fun hf => ?_)
      · refine g_aload_n X dX11_goesWith_156 0 rfl ?_
        refine g_getR X hf (T := TX11) rfl (by decide) (by decide) in_RX11 tb_353 rfl dX11_goesWith_157 (fun v10 hf => ?_)
        refine g_aload_n X dX11_goesWith_160 3 rfl ?_
        refine g_callV (n := 1) (av := [tR x3]) (rest := []) (k := 6) X hf (fun p11 => (some (tI p11.1), p11.2)) (fun _ q => m_X6_whoGoes q) (gdV tb_825 tb_826 tb_827 tb_10 tb_828) rfl (by decide +kernel) rfl (by decide) rfl (by decide) (by decide) rfl (Nat.le_of_ble_eq_true rfl) dX11_goesWith_161 (fun p11 hf => ?_)
        refine g_iload_n X dX11_goesWith_164 1 rfl ?_
        refine g_icmpne (tgt := 172) X hf dX11_goesWith_165 (by decide) (fun hf => ?_) (fun hf => ?_)
        · refine g_iconst (v := 1) X dX11_goesWith_168 (by decide) ?_
          refine g_goto (tgt := 173) X dX11_goesWith_169 (by decide) ?_
          exact g_zreturn X (zW hf) (by decide) (by decide) (by decide) dX11_goesWith_173
        · refine g_iconst (v := 0) X dX11_goesWith_172 (by decide) ?_
          exact g_zreturn X (zW hf) (by decide) (by decide) (by decide) dX11_goesWith_173
      · refine g_iconst (v := 0) X dX11_goesWith_172 (by decide) ?_
        exact g_zreturn X (zW hf) (by decide) (by decide) (by decide) dX11_goesWith_173
def f_X11_goesWith  (a0 : Option Nat) (a1 : Int32) (a2 : Int32) (a3 : Option Nat) (h : AH) : Option (Int32 × AH) :=
  (gR 11 3 h a0).bind fun v1 =>
  (gR 11 0 h a0).bind fun v2 =>
  (gI 2 6 h v2).bind fun v3 =>
  (ck 6 h v1 (f_X6_begin v1 v3 h)).bind fun h4 =>
  b_X11_goesWith_17 FU a0 a1 a2 a3 0 h4
set_option maxRecDepth 20000 in
theorem m_X11_goesWith  {a0 : Option Nat} {a1 : Int32} {a2 : Int32} {a3 : Option Nat} {h : AH} {w : (Int32 × AH)} (hf : f_X11_goesWith a0 a1 a2 a3 h = some w) : CT yX11_goesWith (wU yX11_goesWith cX11_goesWith 8 (some .boolean)) (rmD 5 0 0) 0 0 [tR a0, tI a1, tI a2, tR a3] h (some (tI w.1), w.2) := by
  refine CT.of (cc := cX11_goesWith) (nL := 8) (ret := (some .boolean)) (by decide) (by simp [lg_sl, vOf_cat, wOf]) ?_
  intro K X
  refine g_locs (lv' := [(0, tR a0), (1, tI a1), (2, tI a2), (3, tR a3)]) (fun q hq => hq) ?_
  unfold f_X11_goesWith at hf
  refine g_aload_n X dX11_goesWith_0 0 rfl ?_
  refine g_getR X hf (T := TX11) rfl (by decide) (by decide) in_RX11 tb_353 rfl dX11_goesWith_1 (fun v1 hf => ?_)
  refine g_aload_n X dX11_goesWith_4 0 rfl ?_
  refine g_getR X hf (T := TX11) rfl (by decide) (by decide) in_RX11 tb_350 rfl dX11_goesWith_5 (fun v2 hf => ?_)
  refine g_getI X hf (T := TX2) rfl (by decide) (by decide) in_RX2 tb_224 rfl dX11_goesWith_8 (fun v3 hf => ?_)
  refine g_callV (n := 1) (av := [tI v3]) (rest := []) (k := 6) X hf (fun h4 => (none, h4)) (fun _ q => m_X6_begin q) (gdV tb_892 tb_789 tb_790 tb_10 tb_791) rfl (by decide +kernel) rfl (by decide) rfl (by decide) (by decide) rfl (Nat.le_of_ble_eq_true rfl) dX11_goesWith_11 (fun h4 hf => ?_)
  refine g_iconst (v := 0) X dX11_goesWith_14 (by decide) ?_
  refine g_istore (lv' := [(0, tR a0), (1, tI a1), (2, tI a2), (3, tR a3), (4, tI 0)]) X dX11_goesWith_15 (by decide) (in_pick [1, 2, 3, 4, 0] rfl) ?_
  exact w_X11_goesWith_17 X FU a0 a1 a2 a3 0 h4 hf
def b_X11_turnFor_35    : Nat → Option Nat → Int32 → Option Nat → Int32 → Option Nat → Int32 → Int32 → AH → Option (Int32 × AH)
  | 0 => fun _ _ _ _ _ _ _ _ => none
  | n + 1 => fun x0 x1 x3 x4 x5 x6 x7 h =>
    if x7 < x6 then
      (aI h x5 x7).bind fun v1 =>
      if (v1 &&& (x4 ^^^ (-1))) = 0 then
        (ck 11 h x0 (f_X11_goesWith x0 x1 v1 x3 h)).bind fun p2 =>
        if p2.1 = 0 then
          b_X11_turnFor_35 n x0 x1 x3 x4 x5 x6 (x7 + 1) p2.2
        else
          some (v1, p2.2)
      else
        b_X11_turnFor_35 n x0 x1 x3 x4 x5 x6 (x7 + 1) h
    else
      some ((-1), h)
set_option maxRecDepth 20000 in
theorem w_X11_turnFor_35 {K : KT} {w : (Int32 × AH)}   (X : CX K cX11_turnFor RX11 TB (some .int) "turnFor" (rmD 6 0 0) 9 0 0)  : ∀ (n : Nat) (x0 : Option Nat) (x1 : Int32) (x3 : Option Nat) (x4 : Int32) (x5 : Option Nat) (x6 : Int32) (x7 : Int32) (h : AH), b_X11_turnFor_35 n x0 x1 x3 x4 x5 x6 x7 h = some w → GG K (some (tI w.1), w.2) 0 0 35 [(0, tR x0), (1, tI x1), (3, tR x3), (4, tI x4), (5, tR x5), (6, tI x6), (7, tI x7)] [] h := by
  intro n
  induction n with
  | zero =>
    intro x0 x1 x3 x4 x5 x6 x7 h hf
    cases (show none = some w from hf)
  | succ n ih =>
    intro x0 x1 x3 x4 x5 x6 x7 h hf
    rw [b_X11_turnFor_35] at hf
    refine g_iload X dX11_turnFor_35 6 rfl ?_
    refine g_iload X dX11_turnFor_37 5 rfl ?_
    refine g_icmpge (tgt := 79) X hf dX11_turnFor_39 (by decide) (fun hf => ?_) (fun hf => ?_)
    · refine g_aload X dX11_turnFor_42 4 rfl ?_
      refine g_iload X dX11_turnFor_44 6 rfl ?_
      refine g_iaload X hf dX11_turnFor_46 (fun v1 hf => ?_)
      refine g_istore (lv' := [(0, tR x0), (1, tI x1), (3, tR x3), (4, tI x4), (5, tR x5), (6, tI x6), (7, tI x7), (8, tI v1)]) X dX11_turnFor_47 (by decide) (in_pick [1, 2, 3, 4, 5, 6, 7, 0] rfl) ?_
      refine g_iload X dX11_turnFor_49 7 rfl ?_
      refine g_iload X dX11_turnFor_51 3 rfl ?_
      refine g_iconst (v := (-1)) X dX11_turnFor_53 (by decide) ?_
      refine g_ixor X dX11_turnFor_54 ?_
      refine g_iand X dX11_turnFor_55 ?_
      refine g_ifne (tgt := 73) X hf dX11_turnFor_56 (by decide) (fun hf => ?_) (fun hf => ?_)
      · refine g_aload_n X dX11_turnFor_59 0 rfl ?_
        refine g_iload_n X dX11_turnFor_60 1 rfl ?_
        refine g_iload X dX11_turnFor_61 7 rfl ?_
        refine g_aload_n X dX11_turnFor_63 2 rfl ?_
        refine g_callV (n := 3) (av := [tI x1, tI v1, tR x3]) (rest := []) (k := 11) X hf (fun p2 => (some (tI p2.1), p2.2)) (fun _ q => m_X11_goesWith q) (gdV tb_916 tb_917 tb_1672 tb_1 tb_918) rfl (by decide +kernel) rfl (by decide) rfl (by decide) (by decide) rfl (Nat.le_of_ble_eq_true rfl) dX11_turnFor_64 (fun p2 hf => ?_)
        refine g_ifeq (tgt := 73) X hf dX11_turnFor_67 (by decide) (fun hf => ?_) (fun hf => ?_)
        · refine g_iinc (v := (x7 + 1)) (lv' := [(0, tR x0), (1, tI x1), (3, tR x3), (4, tI x4), (5, tR x5), (6, tI x6), (7, tI (x7 + 1)), (8, tI v1)]) X dX11_turnFor_73 6 rfl (by rfl) (by decide) (in_pick [1, 2, 3, 4, 5, 6, 0, 7] rfl) ?_
          refine g_goto (tgt := 35) X dX11_turnFor_76 (by decide) ?_
          refine g_locs (lv' := [(0, tR x0), (1, tI x1), (3, tR x3), (4, tI x4), (5, tR x5), (6, tI x6), (7, tI (x7 + 1))]) (in_pick [0, 1, 2, 3, 4, 5, 6] rfl) ?_
          exact ih x0 x1 x3 x4 x5 x6 (x7 + 1) p2.2 hf
        · refine g_iload X dX11_turnFor_70 7 rfl ?_
          exact g_ireturn X (zW hf) (by decide) (by decide) dX11_turnFor_72
      · refine g_iinc (v := (x7 + 1)) (lv' := [(0, tR x0), (1, tI x1), (3, tR x3), (4, tI x4), (5, tR x5), (6, tI x6), (7, tI (x7 + 1)), (8, tI v1)]) X dX11_turnFor_73 6 rfl (by rfl) (by decide) (in_pick [1, 2, 3, 4, 5, 6, 0, 7] rfl) ?_
        refine g_goto (tgt := 35) X dX11_turnFor_76 (by decide) ?_
        refine g_locs (lv' := [(0, tR x0), (1, tI x1), (3, tR x3), (4, tI x4), (5, tR x5), (6, tI x6), (7, tI (x7 + 1))]) (in_pick [0, 1, 2, 3, 4, 5, 6] rfl) ?_
        exact ih x0 x1 x3 x4 x5 x6 (x7 + 1) h hf
    · refine g_iconst (v := (-1)) X dX11_turnFor_79 (by decide) ?_
      exact g_ireturn X (zW hf) (by decide) (by decide) dX11_turnFor_80
def f_X11_turnFor  (a0 : Option Nat) (a1 : Int32) (a2 : Int32) (a3 : Option Nat) (h : AH) : Option (Int32 × AH) :=
  (gR 11 0 h a0).bind fun v1 =>
  (ck 2 h v1 (f_X2_isSent v1 a1 a2 (-1) h)).bind fun v2 =>
  if v2 = 0 then
    (ck 11 h a0 (f_X11_clubsOfComers a0 a1 h)).bind fun v3 =>
    (aL h (some (h.2.2 3))).bind fun v4 =>
    b_X11_turnFor_35 FU a0 a1 a3 v3 (some (h.2.2 3)) v4 0 h
  else
    some ((-1), h)
set_option maxRecDepth 20000 in
theorem m_X11_turnFor  {a0 : Option Nat} {a1 : Int32} {a2 : Int32} {a3 : Option Nat} {h : AH} {w : (Int32 × AH)} (hf : f_X11_turnFor a0 a1 a2 a3 h = some w) : CT yX11_turnFor (wU yX11_turnFor cX11_turnFor 9 (some .int)) (rmD 6 0 0) 0 0 [tR a0, tI a1, tI a2, tR a3] h (some (tI w.1), w.2) := by
  refine CT.of (cc := cX11_turnFor) (nL := 9) (ret := (some .int)) (by decide) (by simp [lg_sl, vOf_cat, wOf]) ?_
  intro K X
  refine g_locs (lv' := [(0, tR a0), (1, tI a1), (2, tI a2), (3, tR a3)]) (fun q hq => hq) ?_
  unfold f_X11_turnFor at hf
  refine g_aload_n X dX11_turnFor_0 0 rfl ?_
  refine g_getR X hf (T := TX11) rfl (by decide) (by decide) in_RX11 tb_350 rfl dX11_turnFor_1 (fun v1 hf => ?_)
  refine g_iload_n X dX11_turnFor_4 1 rfl ?_
  refine g_iload_n X dX11_turnFor_5 2 rfl ?_
  refine g_iconst (v := (-1)) X dX11_turnFor_6 (by decide) ?_
  refine g_callV (n := 3) (av := [tI a1, tI a2, tI (-1)]) (rest := []) (k := 2) X hf (fun v2 => (some (tI v2), h)) (fun _ q => m_X2_isSent q) (gdV tb_579 tb_538 tb_539 tb_2 tb_540) rfl (by decide +kernel) rfl (by decide) rfl (by decide) (by decide) rfl (Nat.le_of_ble_eq_true rfl) dX11_turnFor_7 (fun v2 hf => ?_)
  refine g_ifeq (tgt := 15) X hf dX11_turnFor_10 (by decide) (fun hf => ?_) (fun hf => ?_)
  · refine g_aload_n X dX11_turnFor_15 0 rfl ?_
    refine g_iload_n X dX11_turnFor_16 1 rfl ?_
    refine g_callV (n := 1) (av := [tI a1]) (rest := []) (k := 11) X hf (fun v3 => (some (tI v3), h)) (fun _ q => m_X11_clubsOfComers q) (gdV tb_912 tb_913 tb_1671 tb_1 tb_914) rfl (by decide +kernel) rfl (by decide) rfl (by decide) (by decide) rfl (Nat.le_of_ble_eq_true rfl) dX11_turnFor_17 (fun v3 hf => ?_)
    refine g_istore (lv' := [(0, tR a0), (1, tI a1), (2, tI a2), (3, tR a3), (4, tI v3)]) X dX11_turnFor_20 (by decide) (in_pick [1, 2, 3, 4, 0] rfl) ?_
    refine g_gets 3 (by decide) X tb_915 dX11_turnFor_22 ?_
    refine g_astore (lv' := [(0, tR a0), (1, tI a1), (2, tI a2), (3, tR a3), (4, tI v3), (5, tR (some (h.2.2 3)))]) X dX11_turnFor_25 (by decide) (in_pick [1, 2, 3, 4, 5, 0] rfl) ?_
    refine g_aload X dX11_turnFor_27 5 rfl ?_
    refine g_alen X hf dX11_turnFor_29 (fun v4 hf => ?_)
    refine g_istore (lv' := [(0, tR a0), (1, tI a1), (2, tI a2), (3, tR a3), (4, tI v3), (5, tR (some (h.2.2 3))), (6, tI v4)]) X dX11_turnFor_30 (by decide) (in_pick [1, 2, 3, 4, 5, 6, 0] rfl) ?_
    refine g_iconst (v := 0) X dX11_turnFor_32 (by decide) ?_
    refine g_istore (lv' := [(0, tR a0), (1, tI a1), (2, tI a2), (3, tR a3), (4, tI v3), (5, tR (some (h.2.2 3))), (6, tI v4), (7, tI 0)]) X dX11_turnFor_33 (by decide) (in_pick [1, 2, 3, 4, 5, 6, 7, 0] rfl) ?_
    refine g_locs (lv' := [(0, tR a0), (1, tI a1), (3, tR a3), (4, tI v3), (5, tR (some (h.2.2 3))), (6, tI v4), (7, tI 0)]) (in_pick [0, 1, 3, 4, 5, 6, 7] rfl) ?_
    exact w_X11_turnFor_35 X FU a0 a1 a3 v3 (some (h.2.2 3)) v4 0 h hf
  · refine g_iconst (v := (-1)) X dX11_turnFor_13 (by decide) ?_
    exact g_ireturn X (zW hf) (by decide) (by decide) dX11_turnFor_14
def f_X11_turn  (a0 : Option Nat) (a1 : Int32) (a2 : Int32) (h : AH) : Option (Int32 × AH) :=
  (gR 11 0 h a0).bind fun v1 =>
  (ck 2 h v1 (f_X2_hasMan v1 a1 h)).bind fun v2 =>
  if v2 = 0 then
    some ((-1), h)
  else
    (f_X11_isDay a2 h).bind fun v3 =>
    if v3 = 0 then
      some ((-1), h)
    else
      (ck 11 h a0 (f_X11_drawCasts a0 a2 (-1) 0 h)).bind fun h4 =>
      (gR 11 0 h4 a0).bind fun v5 =>
      (ck 2 h4 v5 (f_X2_lawNow v5 h4)).bind fun v6 =>
      (ck 11 h4 a0 (f_X11_turnFor a0 a1 a2 v6 h4)).bind fun p7 =>
      if p7.1 < 0 then
        some ((-3), p7.2)
      else
        some (p7.1, p7.2)
set_option maxRecDepth 20000 in
theorem m_X11_turn  {a0 : Option Nat} {a1 : Int32} {a2 : Int32} {h : AH} {w : (Int32 × AH)} (hf : f_X11_turn a0 a1 a2 h = some w) : CT yX11_turn (wU yX11_turn cX11_turn 4 (some .int)) (rmD 7 0 0) 0 0 [tR a0, tI a1, tI a2] h (some (tI w.1), w.2) := by
  refine CT.of (cc := cX11_turn) (nL := 4) (ret := (some .int)) (by decide) (by simp [lg_sl, vOf_cat, wOf]) ?_
  intro K X
  refine g_locs (lv' := [(0, tR a0), (1, tI a1), (2, tI a2)]) (fun q hq => hq) ?_
  unfold f_X11_turn at hf
  refine g_aload_n X dX11_turn_0 0 rfl ?_
  refine g_getR X hf (T := TX11) rfl (by decide) (by decide) in_RX11 tb_350 rfl dX11_turn_1 (fun v1 hf => ?_)
  refine g_iload_n X dX11_turn_4 1 rfl ?_
  refine g_callV (n := 1) (av := [tI a1]) (rest := []) (k := 2) X hf (fun v2 => (some (tI v2), h)) (fun _ q => m_X2_hasMan q) (gdV tb_457 tb_458 tb_459 tb_2 tb_460) rfl (by decide +kernel) rfl (by decide) rfl (by decide) (by decide) rfl (Nat.le_of_ble_eq_true rfl) dX11_turn_5 (fun v2 hf => ?_)
  refine g_ifeq (tgt := 18) X hf dX11_turn_8 (by decide) (fun hf => ?_) (fun hf => ?_)
  · refine g_iconst (v := (-1)) X dX11_turn_18 (by decide) ?_
    exact g_ireturn X (zW hf) (by decide) (by decide) dX11_turn_19
  · refine g_iload_n X dX11_turn_11 2 rfl ?_
    refine g_callS (n := 1) (av := [tI a2]) (rest := []) X hf (fun v3 => (some (tI v3), h)) (fun _ q => m_X11_isDay q) (gdS tb_406 tb_407 tb_1 tb_408) rfl (by decide +kernel) rfl (by decide) (by decide) rfl (Nat.le_of_ble_eq_true rfl) dX11_turn_12 (fun v3 hf => ?_)
    refine g_ifne (tgt := 20) X hf dX11_turn_15 (by decide) (fun hf => ?_) (fun hf => ?_)
    · refine g_iconst (v := (-1)) X dX11_turn_18 (by decide) ?_
      exact g_ireturn X (zW hf) (by decide) (by decide) dX11_turn_19
    · refine g_aload_n X dX11_turn_20 0 rfl ?_
      refine g_iload_n X dX11_turn_21 2 rfl ?_
      refine g_iconst (v := (-1)) X dX11_turn_22 (by decide) ?_
      refine g_iconst (v := 0) X dX11_turn_23 (by decide) ?_
      refine g_callV (n := 3) (av := [tI a2, tI (-1), tI 0]) (rest := []) (k := 11) X hf (fun h4 => (none, h4)) (fun _ q => m_X11_drawCasts q) (gdV tb_576 tb_577 tb_1650 tb_1 tb_578) rfl (by decide +kernel) rfl (by decide) rfl (by decide) (by decide) rfl (Nat.le_of_ble_eq_true rfl) dX11_turn_24 (fun h4 hf => ?_)
      refine g_aload_n X dX11_turn_27 0 rfl ?_
      refine g_iload_n X dX11_turn_28 1 rfl ?_
      refine g_iload_n X dX11_turn_29 2 rfl ?_
      refine g_aload_n X dX11_turn_30 0 rfl ?_
      refine g_getR X hf (T := TX11) rfl (by decide) (by decide) in_RX11 tb_350 rfl dX11_turn_31 (fun v5 hf => ?_)
      refine g_callV (n := 0) (av := []) (rest := [tI a2, tI a1, tR a0]) (k := 2) X hf (fun v6 => (some (tR v6), h4)) (fun _ q => m_X2_lawNow q) (gdV tb_622 tb_623 tb_624 tb_2 tb_625) rfl (by decide +kernel) rfl (by decide) rfl (by decide) (by decide) rfl (Nat.le_of_ble_eq_true rfl) dX11_turn_34 (fun v6 hf => ?_)
      refine g_callV (n := 3) (av := [tI a1, tI a2, tR v6]) (rest := []) (k := 11) X hf (fun p7 => (some (tI p7.1), p7.2)) (fun _ q => m_X11_turnFor q) (gdV tb_909 tb_910 tb_1670 tb_1 tb_911) rfl (by decide +kernel) rfl (by decide) rfl (by decide) (by decide) rfl (Nat.le_of_ble_eq_true rfl) dX11_turn_37 (fun p7 hf => ?_)
      refine g_istore_n (lv' := [(0, tR a0), (1, tI a1), (2, tI a2), (3, tI p7.1)]) X dX11_turn_40 (by decide) (in_pick [1, 2, 3, 0] rfl) ?_
      refine g_iload_n X dX11_turn_41 3 rfl ?_
      refine g_ifge (tgt := 50) X hf dX11_turn_42 (by decide) (fun hf => ?_) (fun hf => ?_)
      · refine g_bipush (v := (-3)) X dX11_turn_45 (by decide) ?_
        refine g_goto (tgt := 51) X dX11_turn_47 (by decide) ?_
        exact g_ireturn X (zW hf) (by decide) (by decide) dX11_turn_51
      · refine g_iload_n X dX11_turn_50 3 rfl ?_
        exact g_ireturn X (zW hf) (by decide) (by decide) dX11_turn_51
def f_X11_clubsToTurn  (a0 : Option Nat) (a1 : Int32) (a2 : Int32) (a3 : Option Nat) (h : AH) : Option (Int32 × AH) :=
  (ck 11 h a0 (f_X11_turnFor a0 a1 a2 a3 h)).bind fun p1 =>
  if p1.1 < 0 then
    some ((-1), p1.2)
  else
    (f_J6_bitCount_0f7a4 p1.1 p1.2).bind fun v2 =>
    some (v2, p1.2)
set_option maxRecDepth 20000 in
theorem m_X11_clubsToTurn  {a0 : Option Nat} {a1 : Int32} {a2 : Int32} {a3 : Option Nat} {h : AH} {w : (Int32 × AH)} (hf : f_X11_clubsToTurn a0 a1 a2 a3 h = some w) : CT yX11_clubsToTurn (wU yX11_clubsToTurn cX11_clubsToTurn 5 (some .int)) (rmD 7 0 0) 0 0 [tR a0, tI a1, tI a2, tR a3] h (some (tI w.1), w.2) := by
  refine CT.of (cc := cX11_clubsToTurn) (nL := 5) (ret := (some .int)) (by decide) (by simp [lg_sl, vOf_cat, wOf]) ?_
  intro K X
  refine g_locs (lv' := [(0, tR a0), (1, tI a1), (2, tI a2), (3, tR a3)]) (fun q hq => hq) ?_
  unfold f_X11_clubsToTurn at hf
  refine g_aload_n X dX11_clubsToTurn_0 0 rfl ?_
  refine g_iload_n X dX11_clubsToTurn_1 1 rfl ?_
  refine g_iload_n X dX11_clubsToTurn_2 2 rfl ?_
  refine g_aload_n X dX11_clubsToTurn_3 3 rfl ?_
  refine g_callV (n := 3) (av := [tI a1, tI a2, tR a3]) (rest := []) (k := 11) X hf (fun p1 => (some (tI p1.1), p1.2)) (fun _ q => m_X11_turnFor q) (gdV tb_909 tb_910 tb_1670 tb_1 tb_911) rfl (by decide +kernel) rfl (by decide) rfl (by decide) (by decide) rfl (Nat.le_of_ble_eq_true rfl) dX11_clubsToTurn_4 (fun p1 hf => ?_)
  refine g_istore (lv' := [(0, tR a0), (1, tI a1), (2, tI a2), (3, tR a3), (4, tI p1.1)]) X dX11_clubsToTurn_7 (by decide) (in_pick [1, 2, 3, 4, 0] rfl) ?_
  refine g_iload X dX11_clubsToTurn_9 4 rfl ?_
  refine g_ifge (tgt := 18) X hf dX11_clubsToTurn_11 (by decide) (fun hf => ?_) (fun hf => ?_)
  · refine g_iconst (v := (-1)) X dX11_clubsToTurn_14 (by decide) ?_
    refine g_goto (tgt := 23) X dX11_clubsToTurn_15 (by decide) ?_
    exact g_ireturn X (zW hf) (by decide) (by decide) dX11_clubsToTurn_23
  · refine g_iload X dX11_clubsToTurn_18 4 rfl ?_
    refine g_callS (n := 1) (av := [tI p1.1]) (rest := []) X hf (fun v2 => (some (tI v2), p1.2)) (fun _ q => m_J6_bitCount_0f7a4 q) (gdS tb_926 tb_612 tb_14 tb_613) rfl (by decide +kernel) rfl (by decide) (by decide) rfl (Nat.le_of_ble_eq_true rfl) dX11_clubsToTurn_20 (fun v2 hf => ?_)
    exact g_ireturn X (zW hf) (by decide) (by decide) dX11_clubsToTurn_23
def b_X11_prove_29    : Nat → Option Nat → Int32 → Int32 → AH → Option (Int32 × AH)
  | 0 => fun _ _ _ _ => none
  | n + 1 => fun x0 x1 x2 h =>
    (gI 11 9 h x0).bind fun v1 =>
    if x2 < v1 then
      (gR 11 7 h x0).bind fun v2 =>
      (sI h v2 x2 x2).bind fun h3 =>
      (gR 11 8 h3 x0).bind fun v4 =>
      (gR 11 0 h3 x0).bind fun v5 =>
      (ck 2 h3 v5 (f_X2_lawNow v5 h3)).bind fun v6 =>
      (ck 11 h3 x0 (f_X11_clubsToTurn x0 x2 x1 v6 h3)).bind fun p7 =>
      (sI p7.2 v4 x2 p7.1).bind fun h8 =>
      b_X11_prove_29 n x0 x1 (x2 + 1) h8
    else
      (gI 11 9 h x0).bind fun v9 =>
      some (v9, h)
set_option maxRecDepth 20000 in
theorem w_X11_prove_29 {K : KT} {w : (Int32 × AH)}   (X : CX K cX11_prove RX11 TB (some .int) "prove" (rmD 8 0 0) 3 0 0)  : ∀ (n : Nat) (x0 : Option Nat) (x1 : Int32) (x2 : Int32) (h : AH), b_X11_prove_29 n x0 x1 x2 h = some w → GG K (some (tI w.1), w.2) 0 0 29 [(0, tR x0), (1, tI x1), (2, tI x2)] [] h := by
  intro n
  induction n with
  | zero =>
    intro x0 x1 x2 h hf
    cases (show none = some w from hf)
  | succ n ih =>
    intro x0 x1 x2 h hf
    rw [b_X11_prove_29] at hf
    refine g_iload_n X dX11_prove_29 2 rfl ?_
    refine g_aload_n X dX11_prove_30 0 rfl ?_
    refine g_getI X hf (T := TX11) rfl (by decide) (by decide) in_RX11 tb_359 rfl dX11_prove_31 (fun v1 hf => ?_)
    refine g_icmpge (tgt := 69) X hf dX11_prove_34 (by decide) (fun hf => ?_) (fun hf => ?_)
    · refine g_aload_n X dX11_prove_37 0 rfl ?_
      refine g_getR X hf (T := TX11) rfl (by decide) (by decide) in_RX11 tb_357 rfl dX11_prove_38 (fun v2 hf => ?_)
      refine g_iload_n X dX11_prove_41 2 rfl ?_
      refine g_iload_n X dX11_prove_42 2 rfl ?_
      refine g_iastore X hf dX11_prove_43 (fun h3 hf => ?_)
      refine g_aload_n X dX11_prove_44 0 rfl ?_
      refine g_getR X hf (T := TX11) rfl (by decide) (by decide) in_RX11 tb_358 rfl dX11_prove_45 (fun v4 hf => ?_)
      refine g_iload_n X dX11_prove_48 2 rfl ?_
      refine g_aload_n X dX11_prove_49 0 rfl ?_
      refine g_iload_n X dX11_prove_50 2 rfl ?_
      refine g_iload_n X dX11_prove_51 1 rfl ?_
      refine g_aload_n X dX11_prove_52 0 rfl ?_
      refine g_getR X hf (T := TX11) rfl (by decide) (by decide) in_RX11 tb_350 rfl dX11_prove_53 (fun v5 hf => ?_)
      refine g_callV (n := 0) (av := []) (rest := [tI x1, tI x2, tR x0, tI x2, tR v4]) (k := 2) X hf (fun v6 => (some (tR v6), h3)) (fun _ q => m_X2_lawNow q) (gdV tb_622 tb_623 tb_624 tb_2 tb_625) rfl (by decide +kernel) rfl (by decide) rfl (by decide) (by decide) rfl (Nat.le_of_ble_eq_true rfl) dX11_prove_56 (fun v6 hf => ?_)
      refine g_callV (n := 3) (av := [tI x2, tI x1, tR v6]) (rest := [tI x2, tR v4]) (k := 11) X hf (fun p7 => (some (tI p7.1), p7.2)) (fun _ q => m_X11_clubsToTurn q) (gdV tb_923 tb_924 tb_1673 tb_1 tb_925) rfl (by decide +kernel) rfl (by decide) rfl (by decide) (by decide) rfl (Nat.le_of_ble_eq_true rfl) dX11_prove_59 (fun p7 hf => ?_)
      refine g_iastore X hf dX11_prove_62 (fun h8 hf => ?_)
      refine g_iinc (v := (x2 + 1)) (lv' := [(0, tR x0), (1, tI x1), (2, tI (x2 + 1))]) X dX11_prove_63 2 rfl (by rfl) (by decide) (in_pick [1, 2, 0] rfl) ?_
      refine g_goto (tgt := 29) X dX11_prove_66 (by decide) ?_
      exact ih x0 x1 (x2 + 1) h8 hf
    · refine g_aload_n X dX11_prove_69 0 rfl ?_
      refine g_getI X hf (T := TX11) rfl (by decide) (by decide) in_RX11 tb_359 rfl dX11_prove_70 (fun v9 hf => ?_)
      exact g_ireturn X (zW hf) (by decide) (by decide) dX11_prove_73
def f_X11_prove  (a0 : Option Nat) (a1 : Int32) (h : AH) : Option (Int32 × AH) :=
  (f_X11_isDay a1 h).bind fun v1 =>
  if v1 = 0 then
    some ((-1), h)
  else
    (ck 11 h a0 (f_X11_drawCasts a0 a1 (-1) 0 h)).bind fun h2 =>
    (gR 11 0 h2 a0).bind fun v3 =>
    (gI 2 6 h2 v3).bind fun v4 =>
    (pI 11 9 h2 a0 v4).bind fun h5 =>
    b_X11_prove_29 FU a0 a1 0 h5
set_option maxRecDepth 20000 in
theorem m_X11_prove  {a0 : Option Nat} {a1 : Int32} {h : AH} {w : (Int32 × AH)} (hf : f_X11_prove a0 a1 h = some w) : CT yX11_prove (wU yX11_prove cX11_prove 3 (some .int)) (rmD 8 0 0) 0 0 [tR a0, tI a1] h (some (tI w.1), w.2) := by
  refine CT.of (cc := cX11_prove) (nL := 3) (ret := (some .int)) (by decide) (by simp [lg_sl, vOf_cat, wOf]) ?_
  intro K X
  refine g_locs (lv' := [(0, tR a0), (1, tI a1)]) (fun q hq => hq) ?_
  unfold f_X11_prove at hf
  refine g_iload_n X dX11_prove_0 1 rfl ?_
  refine g_callS (n := 1) (av := [tI a1]) (rest := []) X hf (fun v1 => (some (tI v1), h)) (fun _ q => m_X11_isDay q) (gdS tb_406 tb_407 tb_1 tb_408) rfl (by decide +kernel) rfl (by decide) (by decide) rfl (Nat.le_of_ble_eq_true rfl) dX11_prove_1 (fun v1 hf => ?_)
  refine g_ifne (tgt := 9) X hf dX11_prove_4 (by decide) (fun hf => ?_) (fun hf => ?_)
  · refine g_iconst (v := (-1)) X dX11_prove_7 (by decide) ?_
    exact g_ireturn X (zW hf) (by decide) (by decide) dX11_prove_8
  · refine g_aload_n X dX11_prove_9 0 rfl ?_
    refine g_iload_n X dX11_prove_10 1 rfl ?_
    refine g_iconst (v := (-1)) X dX11_prove_11 (by decide) ?_
    refine g_iconst (v := 0) X dX11_prove_12 (by decide) ?_
    refine g_callV (n := 3) (av := [tI a1, tI (-1), tI 0]) (rest := []) (k := 11) X hf (fun h2 => (none, h2)) (fun _ q => m_X11_drawCasts q) (gdV tb_576 tb_577 tb_1650 tb_1 tb_578) rfl (by decide +kernel) rfl (by decide) rfl (by decide) (by decide) rfl (Nat.le_of_ble_eq_true rfl) dX11_prove_13 (fun h2 hf => ?_)
    refine g_aload_n X dX11_prove_16 0 rfl ?_
    refine g_aload_n X dX11_prove_17 0 rfl ?_
    refine g_getR X hf (T := TX11) rfl (by decide) (by decide) in_RX11 tb_350 rfl dX11_prove_18 (fun v3 hf => ?_)
    refine g_getI X hf (T := TX2) rfl (by decide) (by decide) in_RX2 tb_224 rfl dX11_prove_21 (fun v4 hf => ?_)
    refine g_putI X hf (T := TX11) rfl (by decide) (by decide) in_RX11 tyX11 tyX11_ok nmX11 tb_359 rfl rfl rfl dX11_prove_24 (fun h5 hf => ?_)
    refine g_iconst (v := 0) X dX11_prove_27 (by decide) ?_
    refine g_istore_n (lv' := [(0, tR a0), (1, tI a1), (2, tI 0)]) X dX11_prove_28 (by decide) (in_pick [1, 2, 0] rfl) ?_
    exact w_X11_prove_29 X FU a0 a1 0 h5 hf
def f_X11_row  (a0 : Option Nat) (a1 : Int32) (a2 : Int32) (h : AH) : Option Int32 :=
  (gI 11 9 h a0).bind fun v1 =>
  (f_X11_within a1 0 (v1 - 1) h).bind fun v2 =>
  if v2 = 0 then
    some (-9)
  else
    (f_X11_within a2 0 1 h).bind fun v3 =>
    if v3 = 0 then
      some (-9)
    else
      if a2 = 0 then
        (gR 11 7 h a0).bind fun v4 =>
        (aI h v4 a1).bind fun v5 =>
        some v5
      else
        (gR 11 8 h a0).bind fun v6 =>
        (aI h v6 a1).bind fun v7 =>
        some v7
set_option maxRecDepth 20000 in
theorem m_X11_row  {a0 : Option Nat} {a1 : Int32} {a2 : Int32} {h : AH} {w : Int32} (hf : f_X11_row a0 a1 a2 h = some w) : CT yX11_row (wU yX11_row cX11_row 3 (some .int)) (rmD 2 0 0) 0 0 [tR a0, tI a1, tI a2] h (some (tI w), h) := by
  refine CT.of (cc := cX11_row) (nL := 3) (ret := (some .int)) (by decide) (by simp [lg_sl, vOf_cat, wOf]) ?_
  intro K X
  refine g_locs (lv' := [(0, tR a0), (1, tI a1), (2, tI a2)]) (fun q hq => hq) ?_
  unfold f_X11_row at hf
  refine g_iload_n X dX11_row_0 1 rfl ?_
  refine g_iconst (v := 0) X dX11_row_1 (by decide) ?_
  refine g_aload_n X dX11_row_2 0 rfl ?_
  refine g_getI X hf (T := TX11) rfl (by decide) (by decide) in_RX11 tb_359 rfl dX11_row_3 (fun v1 hf => ?_)
  refine g_iconst (v := 1) X dX11_row_6 (by decide) ?_
  refine g_isub X dX11_row_7 ?_
  refine g_callS (n := 3) (av := [tI a1, tI 0, tI (v1 - 1)]) (rest := []) X hf (fun v2 => (some (tI v2), h)) (fun _ q => m_X11_within q) (gdS tb_388 tb_389 tb_1 tb_390) rfl (by decide +kernel) rfl (by decide) (by decide) rfl (Nat.le_of_ble_eq_true rfl) dX11_row_8 (fun v2 hf => ?_)
  refine g_ifeq (tgt := 23) X hf dX11_row_11 (by decide) (fun hf => ?_) (fun hf => ?_)
  · refine g_bipush (v := (-9)) X dX11_row_23 (by decide) ?_
    exact g_ireturn X (zP hf) (by decide) (by decide) dX11_row_25
  · refine g_iload_n X dX11_row_14 2 rfl ?_
    refine g_iconst (v := 0) X dX11_row_15 (by decide) ?_
    refine g_iconst (v := 1) X dX11_row_16 (by decide) ?_
    refine g_callS (n := 3) (av := [tI a2, tI 0, tI 1]) (rest := []) X hf (fun v3 => (some (tI v3), h)) (fun _ q => m_X11_within q) (gdS tb_388 tb_389 tb_1 tb_390) rfl (by decide +kernel) rfl (by decide) (by decide) rfl (Nat.le_of_ble_eq_true rfl) dX11_row_17 (fun v3 hf => ?_)
    refine g_ifne (tgt := 26) X hf dX11_row_20 (by decide) (fun hf => ?_) (fun hf => ?_)
    · refine g_bipush (v := (-9)) X dX11_row_23 (by decide) ?_
      exact g_ireturn X (zP hf) (by decide) (by decide) dX11_row_25
    · refine g_iload_n X dX11_row_26 2 rfl ?_
      refine g_ifne (tgt := 39) X hf dX11_row_27 (by decide) (fun hf => ?_) (fun hf => ?_)
      · refine g_aload_n X dX11_row_30 0 rfl ?_
        refine g_getR X hf (T := TX11) rfl (by decide) (by decide) in_RX11 tb_357 rfl dX11_row_31 (fun v4 hf => ?_)
        refine g_iload_n X dX11_row_34 1 rfl ?_
        refine g_iaload X hf dX11_row_35 (fun v5 hf => ?_)
        refine g_goto (tgt := 45) X dX11_row_36 (by decide) ?_
        exact g_ireturn X (zP hf) (by decide) (by decide) dX11_row_45
      · refine g_aload_n X dX11_row_39 0 rfl ?_
        refine g_getR X hf (T := TX11) rfl (by decide) (by decide) in_RX11 tb_358 rfl dX11_row_40 (fun v6 hf => ?_)
        refine g_iload_n X dX11_row_43 1 rfl ?_
        refine g_iaload X hf dX11_row_44 (fun v7 hf => ?_)
        exact g_ireturn X (zP hf) (by decide) (by decide) dX11_row_45
def b_X11_alterRow_41   (x1 : Int32) (x3 : Int32) (s0 : Option Nat) (h : AH) : Option (Int32 × AH) :=
  (aI h s0 x1).bind fun v1 =>
  (sI h s0 x1 x3).bind fun h2 =>
  some (v1, h2)
set_option maxRecDepth 20000 in
theorem w_X11_alterRow_41 {K : KT} {w : (Int32 × AH)}   (X : CX K cX11_alterRow RX11 TB (some .int) "alterRow" (rmD 2 0 0) 6 0 0)  (x1 : Int32) (x3 : Int32) (s0 : Option Nat) (h : AH) (hf : b_X11_alterRow_41 x1 x3 s0 h = some w) : GG K (some (tI w.1), w.2) 0 0 41 [(1, tI x1), (3, tI x3)] [tR s0] h := by
  unfold b_X11_alterRow_41 at hf
  refine g_astore (lv' := [(1, tI x1), (3, tI x3), (4, tR s0)]) X dX11_alterRow_41 (by decide) (in_pick [1, 2, 0] rfl) ?_
  refine g_aload X dX11_alterRow_43 2 rfl ?_
  refine g_iload_n X dX11_alterRow_45 0 rfl ?_
  refine g_iaload X hf dX11_alterRow_46 (fun v1 hf => ?_)
  refine g_istore (lv' := [(1, tI x1), (3, tI x3), (4, tR s0), (5, tI v1)]) X dX11_alterRow_47 (by decide) (in_pick [1, 2, 3, 0] rfl) ?_
  refine g_aload X dX11_alterRow_49 2 rfl ?_
  refine g_iload_n X dX11_alterRow_51 0 rfl ?_
  refine g_iload_n X dX11_alterRow_52 1 rfl ?_
  refine g_iastore X hf dX11_alterRow_53 (fun h2 hf => ?_)
  refine g_iload X dX11_alterRow_54 3 rfl ?_
  exact g_ireturn X (zW hf) (by decide) (by decide) dX11_alterRow_56
def f_X11_alterRow  (a0 : Option Nat) (a1 : Int32) (a2 : Int32) (a3 : Int32) (h : AH) : Option (Int32 × AH) :=
  (gI 11 9 h a0).bind fun v1 =>
  (f_X11_within a1 0 (v1 - 1) h).bind fun v2 =>
  if v2 = 0 then
    some ((-9), h)
  else
    (f_X11_within a2 0 1 h).bind fun v3 =>
    if v3 = 0 then
      some ((-9), h)
    else
      if a2 = 0 then
        (gR 11 7 h a0).bind fun v4 =>
        b_X11_alterRow_41 a1 a3 v4 h
      else
        (gR 11 8 h a0).bind fun v5 =>
        b_X11_alterRow_41 a1 a3 v5 h
set_option maxRecDepth 20000 in
theorem m_X11_alterRow  {a0 : Option Nat} {a1 : Int32} {a2 : Int32} {a3 : Int32} {h : AH} {w : (Int32 × AH)} (hf : f_X11_alterRow a0 a1 a2 a3 h = some w) : CT yX11_alterRow (wU yX11_alterRow cX11_alterRow 6 (some .int)) (rmD 2 0 0) 0 0 [tR a0, tI a1, tI a2, tI a3] h (some (tI w.1), w.2) := by
  refine CT.of (cc := cX11_alterRow) (nL := 6) (ret := (some .int)) (by decide) (by simp [lg_sl, vOf_cat, wOf]) ?_
  intro K X
  refine g_locs (lv' := [(0, tR a0), (1, tI a1), (2, tI a2), (3, tI a3)]) (fun q hq => hq) ?_
  unfold f_X11_alterRow at hf
  refine g_iload_n X dX11_alterRow_0 1 rfl ?_
  refine g_iconst (v := 0) X dX11_alterRow_1 (by decide) ?_
  refine g_aload_n X dX11_alterRow_2 0 rfl ?_
  refine g_getI X hf (T := TX11) rfl (by decide) (by decide) in_RX11 tb_359 rfl dX11_alterRow_3 (fun v1 hf => ?_)
  refine g_iconst (v := 1) X dX11_alterRow_6 (by decide) ?_
  refine g_isub X dX11_alterRow_7 ?_
  refine g_callS (n := 3) (av := [tI a1, tI 0, tI (v1 - 1)]) (rest := []) X hf (fun v2 => (some (tI v2), h)) (fun _ q => m_X11_within q) (gdS tb_388 tb_389 tb_1 tb_390) rfl (by decide +kernel) rfl (by decide) (by decide) rfl (Nat.le_of_ble_eq_true rfl) dX11_alterRow_8 (fun v2 hf => ?_)
  refine g_ifeq (tgt := 23) X hf dX11_alterRow_11 (by decide) (fun hf => ?_) (fun hf => ?_)
  · refine g_bipush (v := (-9)) X dX11_alterRow_23 (by decide) ?_
    exact g_ireturn X (zW hf) (by decide) (by decide) dX11_alterRow_25
  · refine g_iload_n X dX11_alterRow_14 2 rfl ?_
    refine g_iconst (v := 0) X dX11_alterRow_15 (by decide) ?_
    refine g_iconst (v := 1) X dX11_alterRow_16 (by decide) ?_
    refine g_callS (n := 3) (av := [tI a2, tI 0, tI 1]) (rest := []) X hf (fun v3 => (some (tI v3), h)) (fun _ q => m_X11_within q) (gdS tb_388 tb_389 tb_1 tb_390) rfl (by decide +kernel) rfl (by decide) (by decide) rfl (Nat.le_of_ble_eq_true rfl) dX11_alterRow_17 (fun v3 hf => ?_)
    refine g_ifne (tgt := 26) X hf dX11_alterRow_20 (by decide) (fun hf => ?_) (fun hf => ?_)
    · refine g_bipush (v := (-9)) X dX11_alterRow_23 (by decide) ?_
      exact g_ireturn X (zW hf) (by decide) (by decide) dX11_alterRow_25
    · refine g_iload_n X dX11_alterRow_26 2 rfl ?_
      refine g_ifne (tgt := 37) X hf dX11_alterRow_27 (by decide) (fun hf => ?_) (fun hf => ?_)
      · refine g_aload_n X dX11_alterRow_30 0 rfl ?_
        refine g_getR X hf (T := TX11) rfl (by decide) (by decide) in_RX11 tb_357 rfl dX11_alterRow_31 (fun v4 hf => ?_)
        refine g_goto (tgt := 41) X dX11_alterRow_34 (by decide) ?_
        refine g_locs (lv' := [(1, tI a1), (3, tI a3)]) (in_pick [1, 3] rfl) ?_
        exact w_X11_alterRow_41 X a1 a3 v4 h hf
      · refine g_aload_n X dX11_alterRow_37 0 rfl ?_
        refine g_getR X hf (T := TX11) rfl (by decide) (by decide) in_RX11 tb_358 rfl dX11_alterRow_38 (fun v5 hf => ?_)
        refine g_locs (lv' := [(1, tI a1), (3, tI a3)]) (in_pick [1, 3] rfl) ?_
        exact w_X11_alterRow_41 X a1 a3 v5 h hf
def b_X11_judge_18    : Nat → Option Nat → Int32 → Int32 → AH → Option (Int32 × AH)
  | 0 => fun _ _ _ _ => none
  | n + 1 => fun x0 x1 x2 h =>
    (gI 11 9 h x0).bind fun v1 =>
    if x2 < v1 then
      (gR 11 0 h x0).bind fun v2 =>
      (gI 2 6 h v2).bind fun v3 =>
      if x2 < v3 then
        (gR 11 7 h x0).bind fun v4 =>
        (aI h v4 x2).bind fun v5 =>
        if v5 = x2 then
          (gR 11 8 h x0).bind fun v6 =>
          (aI h v6 x2).bind fun v7 =>
          (gR 11 0 h x0).bind fun v8 =>
          (ck 2 h v8 (f_X2_lawNow v8 h)).bind fun v9 =>
          (ck 11 h x0 (f_X11_clubsToTurn x0 x2 x1 v9 h)).bind fun p10 =>
          if v7 = p10.1 then
            b_X11_judge_18 n x0 x1 (x2 + 1) p10.2
          else
            some ((x2 + 1), p10.2)
        else
          some ((x2 + 1), h)
      else
        some ((x2 + 1), h)
    else
      (gI 11 9 h x0).bind fun v11 =>
      (gR 11 0 h x0).bind fun v12 =>
      (gI 2 6 h v12).bind fun v13 =>
      if v11 < v13 then
        (gI 11 9 h x0).bind fun v14 =>
        some ((v14 + 1), h)
      else
        some (0, h)
set_option maxRecDepth 20000 in
theorem w_X11_judge_18 {K : KT} {w : (Int32 × AH)}   (X : CX K cX11_judge RX11 TB (some .int) "judge" (rmD 8 0 0) 3 0 0)  : ∀ (n : Nat) (x0 : Option Nat) (x1 : Int32) (x2 : Int32) (h : AH), b_X11_judge_18 n x0 x1 x2 h = some w → GG K (some (tI w.1), w.2) 0 0 18 [(0, tR x0), (1, tI x1), (2, tI x2)] [] h := by
  intro n
  induction n with
  | zero =>
    intro x0 x1 x2 h hf
    cases (show none = some w from hf)
  | succ n ih =>
    intro x0 x1 x2 h hf
    rw [b_X11_judge_18] at hf
    refine g_iload_n X dX11_judge_18 2 rfl ?_
    refine g_aload_n X dX11_judge_19 0 rfl ?_
    refine g_getI X hf (T := TX11) rfl (by decide) (by decide) in_RX11 tb_359 rfl dX11_judge_20 (fun v1 hf => ?_)
    refine g_icmpge (tgt := 79) X hf dX11_judge_23 (by decide) (fun hf => ?_) (fun hf => ?_)
    · refine g_iload_n X dX11_judge_26 2 rfl ?_
      refine g_aload_n X dX11_judge_27 0 rfl ?_
      refine g_getR X hf (T := TX11) rfl (by decide) (by decide) in_RX11 tb_350 rfl dX11_judge_28 (fun v2 hf => ?_)
      refine g_getI X hf (T := TX2) rfl (by decide) (by decide) in_RX2 tb_224 rfl dX11_judge_31 (fun v3 hf => ?_)
      refine g_icmpge (tgt := 69) X hf dX11_judge_34 (by decide) (fun hf => ?_) (fun hf => ?_)
      · refine g_aload_n X dX11_judge_37 0 rfl ?_
        refine g_getR X hf (T := TX11) rfl (by decide) (by decide) in_RX11 tb_357 rfl dX11_judge_38 (fun v4 hf => ?_)
        refine g_iload_n X dX11_judge_41 2 rfl ?_
        refine g_iaload X hf dX11_judge_42 (fun v5 hf => ?_)
        refine g_iload_n X dX11_judge_43 2 rfl ?_
        refine g_icmpne (tgt := 69) X hf dX11_judge_44 (by decide) (fun hf => ?_) (fun hf => ?_)
        · refine g_aload_n X dX11_judge_47 0 rfl ?_
          refine g_getR X hf (T := TX11) rfl (by decide) (by decide) in_RX11 tb_358 rfl dX11_judge_48 (fun v6 hf => ?_)
          refine g_iload_n X dX11_judge_51 2 rfl ?_
          refine g_iaload X hf dX11_judge_52 (fun v7 hf => ?_)
          refine g_aload_n X dX11_judge_53 0 rfl ?_
          refine g_iload_n X dX11_judge_54 2 rfl ?_
          refine g_iload_n X dX11_judge_55 1 rfl ?_
          refine g_aload_n X dX11_judge_56 0 rfl ?_
          refine g_getR X hf (T := TX11) rfl (by decide) (by decide) in_RX11 tb_350 rfl dX11_judge_57 (fun v8 hf => ?_)
          refine g_callV (n := 0) (av := []) (rest := [tI x1, tI x2, tR x0, tI v7]) (k := 2) X hf (fun v9 => (some (tR v9), h)) (fun _ q => m_X2_lawNow q) (gdV tb_622 tb_623 tb_624 tb_2 tb_625) rfl (by decide +kernel) rfl (by decide) rfl (by decide) (by decide) rfl (Nat.le_of_ble_eq_true rfl) dX11_judge_60 (fun v9 hf => ?_)
          refine g_callV (n := 3) (av := [tI x2, tI x1, tR v9]) (rest := [tI v7]) (k := 11) X hf (fun p10 => (some (tI p10.1), p10.2)) (fun _ q => m_X11_clubsToTurn q) (gdV tb_923 tb_924 tb_1673 tb_1 tb_925) rfl (by decide +kernel) rfl (by decide) rfl (by decide) (by decide) rfl (Nat.le_of_ble_eq_true rfl) dX11_judge_63 (fun p10 hf => ?_)
          refine g_icmpeq (tgt := 73) X hf dX11_judge_66 (by decide) (fun hf => ?_) (fun hf => ?_)
          · refine g_iinc (v := (x2 + 1)) (lv' := [(0, tR x0), (1, tI x1), (2, tI (x2 + 1))]) X dX11_judge_73 2 rfl (by rfl) (by decide) (in_pick [1, 2, 0] rfl) ?_
            refine g_goto (tgt := 18) X dX11_judge_76 (by decide) ?_
            exact ih x0 x1 (x2 + 1) p10.2 hf
          · refine g_iload_n X dX11_judge_69 2 rfl ?_
            refine g_iconst (v := 1) X dX11_judge_70 (by decide) ?_
            refine g_iadd X dX11_judge_71 ?_
            exact g_ireturn X (zW hf) (by decide) (by decide) dX11_judge_72
        · refine g_iload_n X dX11_judge_69 2 rfl ?_
          refine g_iconst (v := 1) X dX11_judge_70 (by decide) ?_
          refine g_iadd X dX11_judge_71 ?_
          exact g_ireturn X (zW hf) (by decide) (by decide) dX11_judge_72
      · refine g_iload_n X dX11_judge_69 2 rfl ?_
        refine g_iconst (v := 1) X dX11_judge_70 (by decide) ?_
        refine g_iadd X dX11_judge_71 ?_
        exact g_ireturn X (zW hf) (by decide) (by decide) dX11_judge_72
    · refine g_aload_n X dX11_judge_79 0 rfl ?_
      refine g_getI X hf (T := TX11) rfl (by decide) (by decide) in_RX11 tb_359 rfl dX11_judge_80 (fun v11 hf => ?_)
      refine g_aload_n X dX11_judge_83 0 rfl ?_
      refine g_getR X hf (T := TX11) rfl (by decide) (by decide) in_RX11 tb_350 rfl dX11_judge_84 (fun v12 hf => ?_)
      refine g_getI X hf (T := TX2) rfl (by decide) (by decide) in_RX2 tb_224 rfl dX11_judge_87 (fun v13 hf => ?_)
      refine g_icmpge (tgt := 102) X hf dX11_judge_90 (by decide) (fun hf => ?_) (fun hf => ?_)
      · refine g_aload_n X dX11_judge_93 0 rfl ?_
        refine g_getI X hf (T := TX11) rfl (by decide) (by decide) in_RX11 tb_359 rfl dX11_judge_94 (fun v14 hf => ?_)
        refine g_iconst (v := 1) X dX11_judge_97 (by decide) ?_
        refine g_iadd X dX11_judge_98 ?_
        refine g_goto (tgt := 103) X dX11_judge_99 (by decide) ?_
        exact g_ireturn X (zW hf) (by decide) (by decide) dX11_judge_103
      · refine g_iconst (v := 0) X dX11_judge_102 (by decide) ?_
        exact g_ireturn X (zW hf) (by decide) (by decide) dX11_judge_103
def f_X11_judge  (a0 : Option Nat) (a1 : Int32) (h : AH) : Option (Int32 × AH) :=
  (f_X11_isDay a1 h).bind fun v1 =>
  if v1 = 0 then
    some ((-1), h)
  else
    (ck 11 h a0 (f_X11_drawCasts a0 a1 (-1) 0 h)).bind fun h2 =>
    b_X11_judge_18 FU a0 a1 0 h2
set_option maxRecDepth 20000 in
theorem m_X11_judge  {a0 : Option Nat} {a1 : Int32} {h : AH} {w : (Int32 × AH)} (hf : f_X11_judge a0 a1 h = some w) : CT yX11_judge (wU yX11_judge cX11_judge 3 (some .int)) (rmD 8 0 0) 0 0 [tR a0, tI a1] h (some (tI w.1), w.2) := by
  refine CT.of (cc := cX11_judge) (nL := 3) (ret := (some .int)) (by decide) (by simp [lg_sl, vOf_cat, wOf]) ?_
  intro K X
  refine g_locs (lv' := [(0, tR a0), (1, tI a1)]) (fun q hq => hq) ?_
  unfold f_X11_judge at hf
  refine g_iload_n X dX11_judge_0 1 rfl ?_
  refine g_callS (n := 1) (av := [tI a1]) (rest := []) X hf (fun v1 => (some (tI v1), h)) (fun _ q => m_X11_isDay q) (gdS tb_406 tb_407 tb_1 tb_408) rfl (by decide +kernel) rfl (by decide) (by decide) rfl (Nat.le_of_ble_eq_true rfl) dX11_judge_1 (fun v1 hf => ?_)
  refine g_ifne (tgt := 9) X hf dX11_judge_4 (by decide) (fun hf => ?_) (fun hf => ?_)
  · refine g_iconst (v := (-1)) X dX11_judge_7 (by decide) ?_
    exact g_ireturn X (zW hf) (by decide) (by decide) dX11_judge_8
  · refine g_aload_n X dX11_judge_9 0 rfl ?_
    refine g_iload_n X dX11_judge_10 1 rfl ?_
    refine g_iconst (v := (-1)) X dX11_judge_11 (by decide) ?_
    refine g_iconst (v := 0) X dX11_judge_12 (by decide) ?_
    refine g_callV (n := 3) (av := [tI a1, tI (-1), tI 0]) (rest := []) (k := 11) X hf (fun h2 => (none, h2)) (fun _ q => m_X11_drawCasts q) (gdV tb_576 tb_577 tb_1650 tb_1 tb_578) rfl (by decide +kernel) rfl (by decide) rfl (by decide) (by decide) rfl (Nat.le_of_ble_eq_true rfl) dX11_judge_13 (fun h2 hf => ?_)
    refine g_iconst (v := 0) X dX11_judge_16 (by decide) ?_
    refine g_istore_n (lv' := [(0, tR a0), (1, tI a1), (2, tI 0)]) X dX11_judge_17 (by decide) (in_pick [1, 2, 0] rfl) ?_
    exact w_X11_judge_18 X FU a0 a1 0 h2 hf
