def b_X12_isCertain_64  (k15 : Option Nat → Int32 → Int32 → Option Int32) (h : AH) (x0 : Option Nat) (x2 : Int32) (s0 : Int32) (s1 : Int32) : Option Int32 :=
  k15 x0 (s0 &&& s1) (x2 + 1)
set_option maxRecDepth 20000 in
theorem w_X12_isCertain_64 {K : KT} {w : Int32} {h : AH} {k15 : Option Nat → Int32 → Int32 → Option Int32}  (X : CX K cX12_isCertain RX12 TB (some .boolean) "isCertain" (rmD 1 0 0) 3 0 0) (hk15 : ∀ (x0 : Option Nat) (x1 : Int32) (x2 : Int32), k15 x0 x1 x2 = some w → GG K (some (tI w), h) 0 0 15 [(0, tR x0), (1, tI x1), (2, tI x2)] [] h) (x0 : Option Nat) (x2 : Int32) (s0 : Int32) (s1 : Int32) (hf : b_X12_isCertain_64 k15 h x0 x2 s0 s1 = some w) : GG K (some (tI w), h) 0 0 64 [(0, tR x0), (2, tI x2)] [tI s1, tI s0] h := by
  unfold b_X12_isCertain_64 at hf
  refine g_iand X dX12_isCertain_64 ?_
  refine g_istore_n (lv' := [(0, tR x0), (1, tI (s0 &&& s1)), (2, tI x2)]) X dX12_isCertain_65 (by decide) (in_pick [1, 0, 2] rfl) ?_
  refine g_iinc (v := (x2 + 1)) (lv' := [(0, tR x0), (1, tI (s0 &&& s1)), (2, tI (x2 + 1))]) X dX12_isCertain_66 2 rfl (by rfl) (by decide) (in_pick [1, 2, 0] rfl) ?_
  refine g_goto (tgt := 15) X dX12_isCertain_69 (by decide) ?_
  exact hk15 x0 (s0 &&& s1) (x2 + 1) hf
def b_X12_isCertain_15   (h : AH) : Nat → Option Nat → Int32 → Int32 → Option Int32
  | 0 => fun _ _ _ => none
  | n + 1 => fun x0 x1 x2 =>
    (gR 12 0 h x0).bind fun v1 =>
    (aI h v1 2).bind fun v2 =>
    if x2 < v2 then
      (gI 12 26 h x0).bind fun v3 =>
      if x2 = v3 then
        b_X12_isCertain_64 (b_X12_isCertain_15 h n) h x0 x2 x1 1
      else
        (gI 12 26 h x0).bind fun v4 =>
        if v4 < 0 then
          b_X12_isCertain_64 (b_X12_isCertain_15 h n) h x0 x2 x1 0
        else
          (gR 12 19 h x0).bind fun v5 =>
          (gI 12 26 h x0).bind fun v6 =>
          (aI h v5 v6).bind fun v7 =>
          (gR 12 20 h x0).bind fun v8 =>
          (aI h v8 x2).bind fun v9 =>
          if v9 < v7 then
            b_X12_isCertain_64 (b_X12_isCertain_15 h n) h x0 x2 x1 1
          else
            b_X12_isCertain_64 (b_X12_isCertain_15 h n) h x0 x2 x1 0
    else
      rZ x1
set_option maxRecDepth 20000 in
theorem w_X12_isCertain_15 {K : KT} {w : Int32} {h : AH}   (X : CX K cX12_isCertain RX12 TB (some .boolean) "isCertain" (rmD 1 0 0) 3 0 0)  : ∀ (n : Nat) (x0 : Option Nat) (x1 : Int32) (x2 : Int32), b_X12_isCertain_15 h n x0 x1 x2 = some w → GG K (some (tI w), h) 0 0 15 [(0, tR x0), (1, tI x1), (2, tI x2)] [] h := by
  intro n
  induction n with
  | zero =>
    intro x0 x1 x2 hf
    cases (show none = some w from hf)
  | succ n ih =>
    intro x0 x1 x2 hf
    rw [b_X12_isCertain_15] at hf
    refine g_iload_n X dX12_isCertain_15 2 rfl ?_
    refine g_aload_n X dX12_isCertain_16 0 rfl ?_
    refine g_getR X hf (T := TX12) rfl (by decide) (by decide) in_RX12 tb_1135 rfl dX12_isCertain_17 (fun v1 hf => ?_)
    refine g_iconst (v := 2) X dX12_isCertain_20 (by decide) ?_
    refine g_iaload X hf dX12_isCertain_21 (fun v2 hf => ?_)
    refine g_icmpge (tgt := 72) X hf dX12_isCertain_22 (by decide) (fun hf => ?_) (fun hf => ?_)
    · refine g_iload_n X dX12_isCertain_25 1 rfl ?_
      refine g_iload_n X dX12_isCertain_26 2 rfl ?_
      refine g_aload_n X dX12_isCertain_27 0 rfl ?_
      refine g_getI X hf (T := TX12) rfl (by decide) (by decide) in_RX12 tb_1161 rfl dX12_isCertain_28 (fun v3 hf => ?_)
      refine g_icmpeq (tgt := 59) X hf dX12_isCertain_31 (by decide) (fun hf => ?_) (fun hf => ?_)
      · refine g_iconst (v := 1) X dX12_isCertain_59 (by decide) ?_
        refine g_goto (tgt := 64) X dX12_isCertain_60 (by decide) ?_
        refine g_locs (lv' := [(0, tR x0), (2, tI x2)]) (in_pick [0, 2] rfl) ?_
        exact w_X12_isCertain_64 X ih x0 x2 x1 1 hf
      · refine g_aload_n X dX12_isCertain_34 0 rfl ?_
        refine g_getI X hf (T := TX12) rfl (by decide) (by decide) in_RX12 tb_1161 rfl dX12_isCertain_35 (fun v4 hf => ?_)
        refine g_iflt (tgt := 63) X hf dX12_isCertain_38 (by decide) (fun hf => ?_) (fun hf => ?_)
        · refine g_iconst (v := 0) X dX12_isCertain_63 (by decide) ?_
          refine g_locs (lv' := [(0, tR x0), (2, tI x2)]) (in_pick [0, 2] rfl) ?_
          exact w_X12_isCertain_64 X ih x0 x2 x1 0 hf
        · refine g_aload_n X dX12_isCertain_41 0 rfl ?_
          refine g_getR X hf (T := TX12) rfl (by decide) (by decide) in_RX12 tb_1154 rfl dX12_isCertain_42 (fun v5 hf => ?_)
          refine g_aload_n X dX12_isCertain_45 0 rfl ?_
          refine g_getI X hf (T := TX12) rfl (by decide) (by decide) in_RX12 tb_1161 rfl dX12_isCertain_46 (fun v6 hf => ?_)
          refine g_iaload X hf dX12_isCertain_49 (fun v7 hf => ?_)
          refine g_aload_n X dX12_isCertain_50 0 rfl ?_
          refine g_getR X hf (T := TX12) rfl (by decide) (by decide) in_RX12 tb_1155 rfl dX12_isCertain_51 (fun v8 hf => ?_)
          refine g_iload_n X dX12_isCertain_54 2 rfl ?_
          refine g_iaload X hf dX12_isCertain_55 (fun v9 hf => ?_)
          refine g_icmple (tgt := 63) X hf dX12_isCertain_56 (by decide) (fun hf => ?_) (fun hf => ?_)
          · refine g_iconst (v := 1) X dX12_isCertain_59 (by decide) ?_
            refine g_goto (tgt := 64) X dX12_isCertain_60 (by decide) ?_
            refine g_locs (lv' := [(0, tR x0), (2, tI x2)]) (in_pick [0, 2] rfl) ?_
            exact w_X12_isCertain_64 X ih x0 x2 x1 1 hf
          · refine g_iconst (v := 0) X dX12_isCertain_63 (by decide) ?_
            refine g_locs (lv' := [(0, tR x0), (2, tI x2)]) (in_pick [0, 2] rfl) ?_
            exact w_X12_isCertain_64 X ih x0 x2 x1 0 hf
    · refine g_iload_n X dX12_isCertain_72 1 rfl ?_
      exact g_zreturn2 X hf (by decide) (by decide) dX12_isCertain_73
def f_X12_isCertain  (a0 : Option Nat) (h : AH) : Option Int32 :=
  (gI 12 26 h a0).bind fun v1 =>
  if v1 < 0 then
    b_X12_isCertain_15 h FU a0 0 0
  else
    b_X12_isCertain_15 h FU a0 1 0
set_option maxRecDepth 20000 in
theorem m_X12_isCertain  {a0 : Option Nat} {h : AH} {w : Int32} (hf : f_X12_isCertain a0 h = some w) : CT yX12_isCertain (wU yX12_isCertain cX12_isCertain 3 (some .boolean)) (rmD 1 0 0) 0 0 [tR a0] h (some (tI w), h) := by
  refine CT.of (cc := cX12_isCertain) (nL := 3) (ret := (some .boolean)) (by decide) (by simp [lg_sl, vOf_cat, wOf]) ?_
  intro K X
  refine g_locs (lv' := [(0, tR a0)]) (fun q hq => hq) ?_
  unfold f_X12_isCertain at hf
  refine g_aload_n X dX12_isCertain_0 0 rfl ?_
  refine g_getI X hf (T := TX12) rfl (by decide) (by decide) in_RX12 tb_1161 rfl dX12_isCertain_1 (fun v1 hf => ?_)
  refine g_iflt (tgt := 11) X hf dX12_isCertain_4 (by decide) (fun hf => ?_) (fun hf => ?_)
  · refine g_iconst (v := 0) X dX12_isCertain_11 (by decide) ?_
    refine g_istore_n (lv' := [(0, tR a0), (1, tI 0)]) X dX12_isCertain_12 (by decide) (in_pick [1, 0] rfl) ?_
    refine g_iconst (v := 0) X dX12_isCertain_13 (by decide) ?_
    refine g_istore_n (lv' := [(0, tR a0), (1, tI 0), (2, tI 0)]) X dX12_isCertain_14 (by decide) (in_pick [1, 2, 0] rfl) ?_
    exact w_X12_isCertain_15 X FU a0 0 0 hf
  · refine g_iconst (v := 1) X dX12_isCertain_7 (by decide) ?_
    refine g_goto (tgt := 12) X dX12_isCertain_8 (by decide) ?_
    refine g_istore_n (lv' := [(0, tR a0), (1, tI 1)]) X dX12_isCertain_12 (by decide) (in_pick [1, 0] rfl) ?_
    refine g_iconst (v := 0) X dX12_isCertain_13 (by decide) ?_
    refine g_istore_n (lv' := [(0, tR a0), (1, tI 1), (2, tI 0)]) X dX12_isCertain_14 (by decide) (in_pick [1, 2, 0] rfl) ?_
    exact w_X12_isCertain_15 X FU a0 1 0 hf
def f_X12_isKnownDay  (a0 : Option Nat) (a1 : Int32) (h : AH) : Option Int32 :=
  (gR 12 0 h a0).bind fun v1 =>
  (aI h v1 0).bind fun v2 =>
  (f_X12_in a1 0 v2 h).bind fun v3 =>
  rZ v3
set_option maxRecDepth 20000 in
theorem m_X12_isKnownDay  {a0 : Option Nat} {a1 : Int32} {h : AH} {w : Int32} (hf : f_X12_isKnownDay a0 a1 h = some w) : CT yX12_isKnownDay (wU yX12_isKnownDay cX12_isKnownDay 2 (some .boolean)) (rmD 2 0 0) 0 0 [tR a0, tI a1] h (some (tI w), h) := by
  refine CT.of (cc := cX12_isKnownDay) (nL := 2) (ret := (some .boolean)) (by decide) (by simp [lg_sl, vOf_cat, wOf]) ?_
  intro K X
  refine g_locs (lv' := [(0, tR a0), (1, tI a1)]) (fun q hq => hq) ?_
  unfold f_X12_isKnownDay at hf
  refine g_iload_n X dX12_isKnownDay_0 1 rfl ?_
  refine g_iconst (v := 0) X dX12_isKnownDay_1 (by decide) ?_
  refine g_aload_n X dX12_isKnownDay_2 0 rfl ?_
  refine g_getR X hf (T := TX12) rfl (by decide) (by decide) in_RX12 tb_1135 rfl dX12_isKnownDay_3 (fun v1 hf => ?_)
  refine g_iconst (v := 0) X dX12_isKnownDay_6 (by decide) ?_
  refine g_iaload X hf dX12_isKnownDay_7 (fun v2 hf => ?_)
  refine g_callS (n := 3) (av := [tI a1, tI 0, tI v2]) (rest := []) X hf (fun v3 => (some (tI v3), h)) (fun _ q => m_X12_in q) (gdS tb_1226 tb_1227 tb_12 tb_1228) rfl (by decide +kernel) rfl (by decide) (by decide) rfl (Nat.le_of_ble_eq_true rfl) dX12_isKnownDay_8 (fun v3 hf => ?_)
  exact g_zreturn2 X hf (by decide) (by decide) dX12_isKnownDay_11
def f_X12_count  (a0 : Option Nat) (a1 : Int32) (a2 : Int32) (h : AH) : Option (Int32 × AH) :=
  (ck 12 h a0 (f_X12_isKnownDay a0 a1 h)).bind fun v1 =>
  if v1 = 0 then
    some ((-1), h)
  else
    (f_X12_in a2 0 6 h).bind fun v2 =>
    if v2 = 0 then
      some ((-1), h)
    else
      (ck 12 h a0 (f_X12_countAt a0 a1 h)).bind fun h3 =>
      if a2 < 0 ∨ 5 < a2 then
        (ck 12 h3 a0 (f_X12_isCertain a0 h3)).bind fun v4 =>
        if v4 = 0 then
          some (0, h3)
        else
          some (1, h3)
      else if a2 = 0 then
        (gI 12 22 h3 a0).bind fun v5 =>
        some (v5, h3)
      else if a2 = 1 then
        (gI 12 23 h3 a0).bind fun v6 =>
        if v6 < 0 then
          some ((-3), h3)
        else
          (gI 12 23 h3 a0).bind fun v7 =>
          some (v7, h3)
      else if a2 = 2 then
        (ck 12 h3 a0 (f_X12_leastOfFirst a0 h3)).bind fun v8 =>
        some (v8, h3)
      else if a2 = 3 then
        (gI 12 24 h3 a0).bind fun v9 =>
        some (v9, h3)
      else if a2 = 4 then
        (gI 12 25 h3 a0).bind fun v10 =>
        some (v10, h3)
      else if a2 = 5 then
        (gI 12 26 h3 a0).bind fun v11 =>
        if v11 < 0 then
          some ((-3), h3)
        else
          (gI 12 26 h3 a0).bind fun v12 =>
          some (v12, h3)
      else none
set_option maxRecDepth 20000 in
theorem m_X12_count  {a0 : Option Nat} {a1 : Int32} {a2 : Int32} {h : AH} {w : (Int32 × AH)} (hf : f_X12_count a0 a1 a2 h = some w) : CT yX12_count (wU yX12_count cX12_count 3 (some .int)) (rmD 41 0 0) 0 0 [tR a0, tI a1, tI a2] h (some (tI w.1), w.2) := by
  refine CT.of (cc := cX12_count) (nL := 3) (ret := (some .int)) (by decide) (by simp [lg_sl, vOf_cat, wOf]) ?_
  intro K X
  refine g_locs (lv' := [(0, tR a0), (1, tI a1), (2, tI a2)]) (fun q hq => hq) ?_
  unfold f_X12_count at hf
  refine g_aload_n X dX12_count_0 0 rfl ?_
  refine g_iload_n X dX12_count_1 1 rfl ?_
  refine g_callV (n := 1) (av := [tI a1]) (rest := []) (k := 12) X hf (fun v1 => (some (tI v1), h)) (fun _ q => m_X12_isKnownDay q) (gdV tb_1442 tb_1443 tb_1718 tb_12 tb_1444) rfl (by decide +kernel) rfl (by decide) rfl (by decide) (by decide) rfl (Nat.le_of_ble_eq_true rfl) dX12_count_2 (fun v1 hf => ?_)
  refine g_ifeq (tgt := 18) X hf dX12_count_5 (by decide) (fun hf => ?_) (fun hf => ?_)
  · refine g_iconst (v := (-1)) X dX12_count_18 (by decide) ?_
    exact g_ireturn X (zW hf) (by decide) (by decide) dX12_count_19
  · refine g_iload_n X dX12_count_8 2 rfl ?_
    refine g_iconst (v := 0) X dX12_count_9 (by decide) ?_
    refine g_bipush (v := 6) X dX12_count_10 (by decide) ?_
    refine g_callS (n := 3) (av := [tI a2, tI 0, tI 6]) (rest := []) X hf (fun v2 => (some (tI v2), h)) (fun _ q => m_X12_in q) (gdS tb_1226 tb_1227 tb_12 tb_1228) rfl (by decide +kernel) rfl (by decide) (by decide) rfl (Nat.le_of_ble_eq_true rfl) dX12_count_12 (fun v2 hf => ?_)
    refine g_ifne (tgt := 20) X hf dX12_count_15 (by decide) (fun hf => ?_) (fun hf => ?_)
    · refine g_iconst (v := (-1)) X dX12_count_18 (by decide) ?_
      exact g_ireturn X (zW hf) (by decide) (by decide) dX12_count_19
    · refine g_aload_n X dX12_count_20 0 rfl ?_
      refine g_iload_n X dX12_count_21 1 rfl ?_
      refine g_callV (n := 1) (av := [tI a1]) (rest := []) (k := 12) X hf (fun h3 => (none, h3)) (fun _ q => m_X12_countAt q) (gdV tb_1445 tb_1446 tb_1719 tb_12 tb_1447) rfl (by decide +kernel) rfl (by decide) rfl (by decide) (by decide) rfl (Nat.le_of_ble_eq_true rfl) dX12_count_22 (fun h3 hf => ?_)
      refine g_iload_n X dX12_count_25 2 rfl ?_
      by_cases hsw : a2 < 0 ∨ 5 < a2
      · rw [if_pos hsw] at hf
        refine g_tabOut (tgt := 118) X dX12_count_26 (tab_out hsw) (by decide) ?_
        refine g_aload_n X dX12_count_118 0 rfl ?_
        refine g_callV (n := 0) (av := []) (rest := []) (k := 12) X hf (fun v4 => (some (tI v4), h3)) (fun _ q => m_X12_isCertain q) (gdV tb_1457 tb_1458 tb_1723 tb_12 tb_1459) rfl (by decide +kernel) rfl (by decide) rfl (by decide) (by decide) rfl (Nat.le_of_ble_eq_true rfl) dX12_count_119 (fun v4 hf => ?_)
        refine g_ifeq (tgt := 129) X hf dX12_count_122 (by decide) (fun hf => ?_) (fun hf => ?_)
        · refine g_iconst (v := 0) X dX12_count_129 (by decide) ?_
          exact g_ireturn X (zW hf) (by decide) (by decide) dX12_count_130
        · refine g_iconst (v := 1) X dX12_count_125 (by decide) ?_
          refine g_goto (tgt := 130) X dX12_count_126 (by decide) ?_
          exact g_ireturn X (zW hf) (by decide) (by decide) dX12_count_130
      rw [if_neg hsw] at hf
      by_cases hs0 : a2 = 0
      · rw [if_pos hs0] at hf
        refine g_tabIn (off := 38) (tgt := 64) X 0 hs0 dX12_count_26 (by decide) (by decide) (by decide +kernel) (by decide) ?_
        refine g_aload_n X dX12_count_64 0 rfl ?_
        refine g_getI X hf (T := TX12) rfl (by decide) (by decide) in_RX12 tb_1157 rfl dX12_count_65 (fun v5 hf => ?_)
        exact g_ireturn X (zW hf) (by decide) (by decide) dX12_count_68
      rw [if_neg hs0] at hf
      by_cases hs1 : a2 = 1
      · rw [if_pos hs1] at hf
        refine g_tabIn (off := 43) (tgt := 69) X 1 hs1 dX12_count_26 (by decide) (by decide) (by decide +kernel) (by decide) ?_
        refine g_aload_n X dX12_count_69 0 rfl ?_
        refine g_getI X hf (T := TX12) rfl (by decide) (by decide) in_RX12 tb_1158 rfl dX12_count_70 (fun v6 hf => ?_)
        refine g_ifge (tgt := 81) X hf dX12_count_73 (by decide) (fun hf => ?_) (fun hf => ?_)
        · refine g_bipush (v := (-3)) X dX12_count_76 (by decide) ?_
          refine g_goto (tgt := 85) X dX12_count_78 (by decide) ?_
          exact g_ireturn X (zW hf) (by decide) (by decide) dX12_count_85
        · refine g_aload_n X dX12_count_81 0 rfl ?_
          refine g_getI X hf (T := TX12) rfl (by decide) (by decide) in_RX12 tb_1158 rfl dX12_count_82 (fun v7 hf => ?_)
          exact g_ireturn X (zW hf) (by decide) (by decide) dX12_count_85
      rw [if_neg hs1] at hf
      by_cases hs2 : a2 = 2
      · rw [if_pos hs2] at hf
        refine g_tabIn (off := 60) (tgt := 86) X 2 hs2 dX12_count_26 (by decide) (by decide) (by decide +kernel) (by decide) ?_
        refine g_aload_n X dX12_count_86 0 rfl ?_
        refine g_callV (n := 0) (av := []) (rest := []) (k := 12) X hf (fun v8 => (some (tI v8), h3)) (fun _ q => m_X12_leastOfFirst q) (gdV tb_1451 tb_1452 tb_1721 tb_12 tb_1453) rfl (by decide +kernel) rfl (by decide) rfl (by decide) (by decide) rfl (Nat.le_of_ble_eq_true rfl) dX12_count_87 (fun v8 hf => ?_)
        exact g_ireturn X (zW hf) (by decide) (by decide) dX12_count_90
      rw [if_neg hs2] at hf
      by_cases hs3 : a2 = 3
      · rw [if_pos hs3] at hf
        refine g_tabIn (off := 65) (tgt := 91) X 3 hs3 dX12_count_26 (by decide) (by decide) (by decide +kernel) (by decide) ?_
        refine g_aload_n X dX12_count_91 0 rfl ?_
        refine g_getI X hf (T := TX12) rfl (by decide) (by decide) in_RX12 tb_1159 rfl dX12_count_92 (fun v9 hf => ?_)
        exact g_ireturn X (zW hf) (by decide) (by decide) dX12_count_95
      rw [if_neg hs3] at hf
      by_cases hs4 : a2 = 4
      · rw [if_pos hs4] at hf
        refine g_tabIn (off := 70) (tgt := 96) X 4 hs4 dX12_count_26 (by decide) (by decide) (by decide +kernel) (by decide) ?_
        refine g_aload_n X dX12_count_96 0 rfl ?_
        refine g_getI X hf (T := TX12) rfl (by decide) (by decide) in_RX12 tb_1160 rfl dX12_count_97 (fun v10 hf => ?_)
        exact g_ireturn X (zW hf) (by decide) (by decide) dX12_count_100
      rw [if_neg hs4] at hf
      by_cases hs5 : a2 = 5
      · rw [if_pos hs5] at hf
        refine g_tabIn (off := 75) (tgt := 101) X 5 hs5 dX12_count_26 (by decide) (by decide) (by decide +kernel) (by decide) ?_
        refine g_aload_n X dX12_count_101 0 rfl ?_
        refine g_getI X hf (T := TX12) rfl (by decide) (by decide) in_RX12 tb_1161 rfl dX12_count_102 (fun v11 hf => ?_)
        refine g_ifge (tgt := 113) X hf dX12_count_105 (by decide) (fun hf => ?_) (fun hf => ?_)
        · refine g_bipush (v := (-3)) X dX12_count_108 (by decide) ?_
          refine g_goto (tgt := 117) X dX12_count_110 (by decide) ?_
          exact g_ireturn X (zW hf) (by decide) (by decide) dX12_count_117
        · refine g_aload_n X dX12_count_113 0 rfl ?_
          refine g_getI X hf (T := TX12) rfl (by decide) (by decide) in_RX12 tb_1161 rfl dX12_count_114 (fun v12 hf => ?_)
          exact g_ireturn X (zW hf) (by decide) (by decide) dX12_count_117
      rw [if_neg hs5] at hf
      cases hf
def f_X12_counted  (a0 : Option Nat) (a1 : Int32) (a2 : Int32) (a3 : Int32) (h : AH) : Option (Int32 × AH) :=
  (ck 12 h a0 (f_X12_isMan a0 a1 h)).bind fun v1 =>
  if v1 = 0 then
    some ((-1), h)
  else
    (ck 12 h a0 (f_X12_isKnownDay a0 a2 h)).bind fun v2 =>
    if v2 = 0 then
      some ((-1), h)
    else
      (ck 12 h a0 (f_X12_countAt a0 a2 h)).bind fun h3 =>
      if a3 = 0 then
        (gR 12 19 h3 a0).bind fun v4 =>
        (aI h3 v4 a1).bind fun v5 =>
        some (v5, h3)
      else
        (gR 12 20 h3 a0).bind fun v6 =>
        (aI h3 v6 a1).bind fun v7 =>
        some (v7, h3)
set_option maxRecDepth 20000 in
theorem m_X12_counted  {a0 : Option Nat} {a1 : Int32} {a2 : Int32} {a3 : Int32} {h : AH} {w : (Int32 × AH)} (hf : f_X12_counted a0 a1 a2 a3 h = some w) : CT yX12_counted (wU yX12_counted cX12_counted 4 (some .int)) (rmD 41 0 0) 0 0 [tR a0, tI a1, tI a2, tI a3] h (some (tI w.1), w.2) := by
  refine CT.of (cc := cX12_counted) (nL := 4) (ret := (some .int)) (by decide) (by simp [lg_sl, vOf_cat, wOf]) ?_
  intro K X
  refine g_locs (lv' := [(0, tR a0), (1, tI a1), (2, tI a2), (3, tI a3)]) (fun q hq => hq) ?_
  unfold f_X12_counted at hf
  refine g_aload_n X dX12_counted_0 0 rfl ?_
  refine g_iload_n X dX12_counted_1 1 rfl ?_
  refine g_callV (n := 1) (av := [tI a1]) (rest := []) (k := 12) X hf (fun v1 => (some (tI v1), h)) (fun _ q => m_X12_isMan q) (gdV tb_1267 tb_1268 tb_1691 tb_12 tb_1269) rfl (by decide +kernel) rfl (by decide) rfl (by decide) (by decide) rfl (Nat.le_of_ble_eq_true rfl) dX12_counted_2 (fun v1 hf => ?_)
  refine g_ifeq (tgt := 16) X hf dX12_counted_5 (by decide) (fun hf => ?_) (fun hf => ?_)
  · refine g_iconst (v := (-1)) X dX12_counted_16 (by decide) ?_
    exact g_ireturn X (zW hf) (by decide) (by decide) dX12_counted_17
  · refine g_aload_n X dX12_counted_8 0 rfl ?_
    refine g_iload_n X dX12_counted_9 2 rfl ?_
    refine g_callV (n := 1) (av := [tI a2]) (rest := []) (k := 12) X hf (fun v2 => (some (tI v2), h)) (fun _ q => m_X12_isKnownDay q) (gdV tb_1442 tb_1443 tb_1718 tb_12 tb_1444) rfl (by decide +kernel) rfl (by decide) rfl (by decide) (by decide) rfl (Nat.le_of_ble_eq_true rfl) dX12_counted_10 (fun v2 hf => ?_)
    refine g_ifne (tgt := 18) X hf dX12_counted_13 (by decide) (fun hf => ?_) (fun hf => ?_)
    · refine g_iconst (v := (-1)) X dX12_counted_16 (by decide) ?_
      exact g_ireturn X (zW hf) (by decide) (by decide) dX12_counted_17
    · refine g_aload_n X dX12_counted_18 0 rfl ?_
      refine g_iload_n X dX12_counted_19 2 rfl ?_
      refine g_callV (n := 1) (av := [tI a2]) (rest := []) (k := 12) X hf (fun h3 => (none, h3)) (fun _ q => m_X12_countAt q) (gdV tb_1445 tb_1446 tb_1719 tb_12 tb_1447) rfl (by decide +kernel) rfl (by decide) rfl (by decide) (by decide) rfl (Nat.le_of_ble_eq_true rfl) dX12_counted_20 (fun h3 hf => ?_)
      refine g_iload_n X dX12_counted_23 3 rfl ?_
      refine g_ifeq (tgt := 36) X hf dX12_counted_24 (by decide) (fun hf => ?_) (fun hf => ?_)
      · refine g_aload_n X dX12_counted_36 0 rfl ?_
        refine g_getR X hf (T := TX12) rfl (by decide) (by decide) in_RX12 tb_1154 rfl dX12_counted_37 (fun v4 hf => ?_)
        refine g_iload_n X dX12_counted_40 1 rfl ?_
        refine g_iaload X hf dX12_counted_41 (fun v5 hf => ?_)
        exact g_ireturn X (zW hf) (by decide) (by decide) dX12_counted_42
      · refine g_aload_n X dX12_counted_27 0 rfl ?_
        refine g_getR X hf (T := TX12) rfl (by decide) (by decide) in_RX12 tb_1155 rfl dX12_counted_28 (fun v6 hf => ?_)
        refine g_iload_n X dX12_counted_31 1 rfl ?_
        refine g_iaload X hf dX12_counted_32 (fun v7 hf => ?_)
        refine g_goto (tgt := 42) X dX12_counted_33 (by decide) ?_
        exact g_ireturn X (zW hf) (by decide) (by decide) dX12_counted_42
def f_X12_tally  (a0 : Option Nat) (a1 : Int32) (a2 : Int32) (a3 : Int32) (h : AH) : Option (Int32 × AH) :=
  (f_X12_in a1 0 1 h).bind fun v1 =>
  if v1 = 0 then
    some ((-1), h)
  else
    (f_X12_in a2 0 4 h).bind fun v2 =>
    if v2 = 0 then
      some ((-1), h)
    else
      (f_X12_in a3 0 99 h).bind fun v3 =>
      if v3 = 0 then
        some ((-1), h)
      else
        (gR 12 0 h a0).bind fun v4 =>
        (aI h v4 ((13 + (5 * a1)) + a2)).bind fun v5 =>
        (gR 12 0 h a0).bind fun v6 =>
        (sI h v6 ((13 + (5 * a1)) + a2) a3).bind fun h7 =>
        some (v5, h7)
set_option maxRecDepth 20000 in
theorem m_X12_tally  {a0 : Option Nat} {a1 : Int32} {a2 : Int32} {a3 : Int32} {h : AH} {w : (Int32 × AH)} (hf : f_X12_tally a0 a1 a2 a3 h = some w) : CT yX12_tally (wU yX12_tally cX12_tally 5 (some .int)) (rmD 2 0 0) 0 0 [tR a0, tI a1, tI a2, tI a3] h (some (tI w.1), w.2) := by
  refine CT.of (cc := cX12_tally) (nL := 5) (ret := (some .int)) (by decide) (by simp [lg_sl, vOf_cat, wOf]) ?_
  intro K X
  refine g_locs (lv' := [(0, tR a0), (1, tI a1), (2, tI a2), (3, tI a3)]) (fun q hq => hq) ?_
  unfold f_X12_tally at hf
  refine g_iload_n X dX12_tally_0 1 rfl ?_
  refine g_iconst (v := 0) X dX12_tally_1 (by decide) ?_
  refine g_iconst (v := 1) X dX12_tally_2 (by decide) ?_
  refine g_callS (n := 3) (av := [tI a1, tI 0, tI 1]) (rest := []) X hf (fun v1 => (some (tI v1), h)) (fun _ q => m_X12_in q) (gdS tb_1226 tb_1227 tb_12 tb_1228) rfl (by decide +kernel) rfl (by decide) (by decide) rfl (Nat.le_of_ble_eq_true rfl) dX12_tally_3 (fun v1 hf => ?_)
  refine g_ifeq (tgt := 28) X hf dX12_tally_6 (by decide) (fun hf => ?_) (fun hf => ?_)
  · refine g_iconst (v := (-1)) X dX12_tally_28 (by decide) ?_
    exact g_ireturn X (zW hf) (by decide) (by decide) dX12_tally_29
  · refine g_iload_n X dX12_tally_9 2 rfl ?_
    refine g_iconst (v := 0) X dX12_tally_10 (by decide) ?_
    refine g_iconst (v := 4) X dX12_tally_11 (by decide) ?_
    refine g_callS (n := 3) (av := [tI a2, tI 0, tI 4]) (rest := []) X hf (fun v2 => (some (tI v2), h)) (fun _ q => m_X12_in q) (gdS tb_1226 tb_1227 tb_12 tb_1228) rfl (by decide +kernel) rfl (by decide) (by decide) rfl (Nat.le_of_ble_eq_true rfl) dX12_tally_12 (fun v2 hf => ?_)
    refine g_ifeq (tgt := 28) X hf dX12_tally_15 (by decide) (fun hf => ?_) (fun hf => ?_)
    · refine g_iconst (v := (-1)) X dX12_tally_28 (by decide) ?_
      exact g_ireturn X (zW hf) (by decide) (by decide) dX12_tally_29
    · refine g_iload_n X dX12_tally_18 3 rfl ?_
      refine g_iconst (v := 0) X dX12_tally_19 (by decide) ?_
      refine g_bipush (v := 99) X dX12_tally_20 (by decide) ?_
      refine g_callS (n := 3) (av := [tI a3, tI 0, tI 99]) (rest := []) X hf (fun v3 => (some (tI v3), h)) (fun _ q => m_X12_in q) (gdS tb_1226 tb_1227 tb_12 tb_1228) rfl (by decide +kernel) rfl (by decide) (by decide) rfl (Nat.le_of_ble_eq_true rfl) dX12_tally_22 (fun v3 hf => ?_)
      refine g_ifne (tgt := 30) X hf dX12_tally_25 (by decide) (fun hf => ?_) (fun hf => ?_)
      · refine g_iconst (v := (-1)) X dX12_tally_28 (by decide) ?_
        exact g_ireturn X (zW hf) (by decide) (by decide) dX12_tally_29
      · refine g_aload_n X dX12_tally_30 0 rfl ?_
        refine g_getR X hf (T := TX12) rfl (by decide) (by decide) in_RX12 tb_1135 rfl dX12_tally_31 (fun v4 hf => ?_)
        refine g_bipush (v := 13) X dX12_tally_34 (by decide) ?_
        refine g_iconst (v := 5) X dX12_tally_36 (by decide) ?_
        refine g_iload_n X dX12_tally_37 1 rfl ?_
        refine g_imul X dX12_tally_38 ?_
        refine g_iadd X dX12_tally_39 ?_
        refine g_iload_n X dX12_tally_40 2 rfl ?_
        refine g_iadd X dX12_tally_41 ?_
        refine g_iaload X hf dX12_tally_42 (fun v5 hf => ?_)
        refine g_istore (lv' := [(0, tR a0), (1, tI a1), (2, tI a2), (3, tI a3), (4, tI v5)]) X dX12_tally_43 (by decide) (in_pick [1, 2, 3, 4, 0] rfl) ?_
        refine g_aload_n X dX12_tally_45 0 rfl ?_
        refine g_getR X hf (T := TX12) rfl (by decide) (by decide) in_RX12 tb_1135 rfl dX12_tally_46 (fun v6 hf => ?_)
        refine g_bipush (v := 13) X dX12_tally_49 (by decide) ?_
        refine g_iconst (v := 5) X dX12_tally_51 (by decide) ?_
        refine g_iload_n X dX12_tally_52 1 rfl ?_
        refine g_imul X dX12_tally_53 ?_
        refine g_iadd X dX12_tally_54 ?_
        refine g_iload_n X dX12_tally_55 2 rfl ?_
        refine g_iadd X dX12_tally_56 ?_
        refine g_iload_n X dX12_tally_57 3 rfl ?_
        refine g_iastore X hf dX12_tally_58 (fun h7 hf => ?_)
        refine g_iload X dX12_tally_59 4 rfl ?_
        exact g_ireturn X (zW hf) (by decide) (by decide) dX12_tally_61
def b_X12_tallies_182  (k137 : Option Nat → Int32 → Int32 → Int32 → AH → Option (Int32 × AH)) (x0 : Option Nat) (x1 : Int32) (x5 : Int32) (s0 : Int32) (s1 : Int32) (h : AH) : Option (Int32 × AH) :=
  k137 x0 x1 (s0 + s1) (x5 + 1) h
set_option maxRecDepth 20000 in
theorem w_X12_tallies_182 {K : KT} {w : (Int32 × AH)} {k137 : Option Nat → Int32 → Int32 → Int32 → AH → Option (Int32 × AH)}  (X : CX K cX12_tallies RX12 TB (some .int) "tallies" (rmD 41 0 0) 6 0 0) (hk137 : ∀ (x0 : Option Nat) (x1 : Int32) (x4 : Int32) (x5 : Int32) (h : AH), k137 x0 x1 x4 x5 h = some w → GG K (some (tI w.1), w.2) 0 0 137 [(0, tR x0), (1, tI x1), (4, tI x4), (5, tI x5)] [] h) (x0 : Option Nat) (x1 : Int32) (x5 : Int32) (s0 : Int32) (s1 : Int32) (h : AH) (hf : b_X12_tallies_182 k137 x0 x1 x5 s0 s1 h = some w) : GG K (some (tI w.1), w.2) 0 0 182 [(0, tR x0), (1, tI x1), (5, tI x5)] [tI s1, tI s0] h := by
  unfold b_X12_tallies_182 at hf
  refine g_iadd X dX12_tallies_182 ?_
  refine g_istore (lv' := [(0, tR x0), (1, tI x1), (4, tI (s0 + s1)), (5, tI x5)]) X dX12_tallies_183 (by decide) (in_pick [1, 2, 0, 3] rfl) ?_
  refine g_iinc (v := (x5 + 1)) (lv' := [(0, tR x0), (1, tI x1), (4, tI (s0 + s1)), (5, tI (x5 + 1))]) X dX12_tallies_185 3 rfl (by rfl) (by decide) (in_pick [1, 2, 3, 0] rfl) ?_
  refine g_goto (tgt := 137) X dX12_tallies_188 (by decide) ?_
  exact hk137 x0 x1 (s0 + s1) (x5 + 1) h hf
def b_X12_tallies_137    : Nat → Option Nat → Int32 → Int32 → Int32 → AH → Option (Int32 × AH)
  | 0 => fun _ _ _ _ _ => none
  | n + 1 => fun x0 x1 x4 x5 h =>
    (gR 12 0 h x0).bind fun v1 =>
    (aI h v1 5).bind fun v2 =>
    if x5 < v2 then
      (gR 12 21 h x0).bind fun v3 =>
      (aZ h v3 x5).bind fun v4 =>
      if v4 = 0 then
        b_X12_tallies_182 (b_X12_tallies_137 n) x0 x1 x5 x4 0 h
      else
        (gR 12 0 h x0).bind fun v5 =>
        (aI h v5 (771 + x5)).bind fun v6 =>
        if v6 = (x1 - 3) then
          b_X12_tallies_182 (b_X12_tallies_137 n) x0 x1 x5 x4 1 h
        else
          b_X12_tallies_182 (b_X12_tallies_137 n) x0 x1 x5 x4 0 h
    else
      (gR 12 0 h x0).bind fun v7 =>
      (aI h v7 ((13 + x1) - 3)).bind fun v8 =>
      some (((v8 - x4) + 100), h)
set_option maxRecDepth 20000 in
theorem w_X12_tallies_137 {K : KT} {w : (Int32 × AH)}   (X : CX K cX12_tallies RX12 TB (some .int) "tallies" (rmD 41 0 0) 6 0 0)  : ∀ (n : Nat) (x0 : Option Nat) (x1 : Int32) (x4 : Int32) (x5 : Int32) (h : AH), b_X12_tallies_137 n x0 x1 x4 x5 h = some w → GG K (some (tI w.1), w.2) 0 0 137 [(0, tR x0), (1, tI x1), (4, tI x4), (5, tI x5)] [] h := by
  intro n
  induction n with
  | zero =>
    intro x0 x1 x4 x5 h hf
    cases (show none = some w from hf)
  | succ n ih =>
    intro x0 x1 x4 x5 h hf
    rw [b_X12_tallies_137] at hf
    refine g_iload X dX12_tallies_137 3 rfl ?_
    refine g_aload_n X dX12_tallies_139 0 rfl ?_
    refine g_getR X hf (T := TX12) rfl (by decide) (by decide) in_RX12 tb_1135 rfl dX12_tallies_140 (fun v1 hf => ?_)
    refine g_iconst (v := 5) X dX12_tallies_143 (by decide) ?_
    refine g_iaload X hf dX12_tallies_144 (fun v2 hf => ?_)
    refine g_icmpge (tgt := 191) X hf dX12_tallies_145 (by decide) (fun hf => ?_) (fun hf => ?_)
    · refine g_iload X dX12_tallies_148 2 rfl ?_
      refine g_aload_n X dX12_tallies_150 0 rfl ?_
      refine g_getR X hf (T := TX12) rfl (by decide) (by decide) in_RX12 tb_1156 rfl dX12_tallies_151 (fun v3 hf => ?_)
      refine g_iload X dX12_tallies_154 3 rfl ?_
      refine g_baload X hf dX12_tallies_156 (fun v4 hf => ?_)
      refine g_ifeq (tgt := 181) X hf dX12_tallies_157 (by decide) (fun hf => ?_) (fun hf => ?_)
      · refine g_iconst (v := 0) X dX12_tallies_181 (by decide) ?_
        refine g_locs (lv' := [(0, tR x0), (1, tI x1), (5, tI x5)]) (in_pick [0, 1, 3] rfl) ?_
        exact w_X12_tallies_182 X ih x0 x1 x5 x4 0 h hf
      · refine g_aload_n X dX12_tallies_160 0 rfl ?_
        refine g_getR X hf (T := TX12) rfl (by decide) (by decide) in_RX12 tb_1135 rfl dX12_tallies_161 (fun v5 hf => ?_)
        refine g_sipush (v := 771) X dX12_tallies_164 (by decide) ?_
        refine g_iload X dX12_tallies_167 3 rfl ?_
        refine g_iadd X dX12_tallies_169 ?_
        refine g_iaload X hf dX12_tallies_170 (fun v6 hf => ?_)
        refine g_iload_n X dX12_tallies_171 1 rfl ?_
        refine g_iconst (v := 3) X dX12_tallies_172 (by decide) ?_
        refine g_isub X dX12_tallies_173 ?_
        refine g_icmpne (tgt := 181) X hf dX12_tallies_174 (by decide) (fun hf => ?_) (fun hf => ?_)
        · refine g_iconst (v := 1) X dX12_tallies_177 (by decide) ?_
          refine g_goto (tgt := 182) X dX12_tallies_178 (by decide) ?_
          refine g_locs (lv' := [(0, tR x0), (1, tI x1), (5, tI x5)]) (in_pick [0, 1, 3] rfl) ?_
          exact w_X12_tallies_182 X ih x0 x1 x5 x4 1 h hf
        · refine g_iconst (v := 0) X dX12_tallies_181 (by decide) ?_
          refine g_locs (lv' := [(0, tR x0), (1, tI x1), (5, tI x5)]) (in_pick [0, 1, 3] rfl) ?_
          exact w_X12_tallies_182 X ih x0 x1 x5 x4 0 h hf
    · refine g_aload_n X dX12_tallies_191 0 rfl ?_
      refine g_getR X hf (T := TX12) rfl (by decide) (by decide) in_RX12 tb_1135 rfl dX12_tallies_192 (fun v7 hf => ?_)
      refine g_bipush (v := 13) X dX12_tallies_195 (by decide) ?_
      refine g_iload_n X dX12_tallies_197 1 rfl ?_
      refine g_iadd X dX12_tallies_198 ?_
      refine g_iconst (v := 3) X dX12_tallies_199 (by decide) ?_
      refine g_isub X dX12_tallies_200 ?_
      refine g_iaload X hf dX12_tallies_201 (fun v8 hf => ?_)
      refine g_iload X dX12_tallies_202 2 rfl ?_
      refine g_isub X dX12_tallies_204 ?_
      refine g_bipush (v := 100) X dX12_tallies_205 (by decide) ?_
      refine g_iadd X dX12_tallies_207 ?_
      exact g_ireturn X (zW hf) (by decide) (by decide) dX12_tallies_208
def b_X12_tallies_74  (k20 : Option Nat → Int32 → Int32 → Int32 → Int32 → AH → Option (Int32 × AH)) (x0 : Option Nat) (x1 : Int32) (x2 : Int32) (x4 : Int32) (s0 : Int32) (s1 : Int32) (h : AH) : Option (Int32 × AH) :=
  k20 x0 x1 x2 (s0 + s1) (x4 + (-1)) h
set_option maxRecDepth 20000 in
theorem w_X12_tallies_74 {K : KT} {w : (Int32 × AH)} {k20 : Option Nat → Int32 → Int32 → Int32 → Int32 → AH → Option (Int32 × AH)}  (X : CX K cX12_tallies RX12 TB (some .int) "tallies" (rmD 41 0 0) 6 0 0) (hk20 : ∀ (x0 : Option Nat) (x1 : Int32) (x2 : Int32) (x3 : Int32) (x4 : Int32) (h : AH), k20 x0 x1 x2 x3 x4 h = some w → GG K (some (tI w.1), w.2) 0 0 20 [(0, tR x0), (1, tI x1), (2, tI x2), (3, tI x3), (4, tI x4)] [] h) (x0 : Option Nat) (x1 : Int32) (x2 : Int32) (x4 : Int32) (s0 : Int32) (s1 : Int32) (h : AH) (hf : b_X12_tallies_74 k20 x0 x1 x2 x4 s0 s1 h = some w) : GG K (some (tI w.1), w.2) 0 0 74 [(0, tR x0), (1, tI x1), (2, tI x2), (4, tI x4)] [tI s1, tI s0] h := by
  unfold b_X12_tallies_74 at hf
  refine g_iadd X dX12_tallies_74 ?_
  refine g_istore_n (lv' := [(0, tR x0), (1, tI x1), (2, tI x2), (3, tI (s0 + s1)), (4, tI x4)]) X dX12_tallies_75 (by decide) (in_pick [1, 2, 3, 0, 4] rfl) ?_
  refine g_iinc (v := (x4 + (-1))) (lv' := [(0, tR x0), (1, tI x1), (2, tI x2), (3, tI (s0 + s1)), (4, tI (x4 + (-1)))]) X dX12_tallies_76 4 rfl (by rfl) (by decide) (in_pick [1, 2, 3, 4, 0] rfl) ?_
  refine g_goto (tgt := 20) X dX12_tallies_79 (by decide) ?_
  exact hk20 x0 x1 x2 (s0 + s1) (x4 + (-1)) h hf
def b_X12_tallies_59  (k20 : Option Nat → Int32 → Int32 → Int32 → Int32 → AH → Option (Int32 × AH)) (x0 : Option Nat) (x1 : Int32) (x3 : Int32) (x4 : Int32) (x5 : Int32) (s0 : Int32) (h : AH) : Option (Int32 × AH) :=
  if x5 < 0 then
    b_X12_tallies_74 k20 x0 x1 s0 x4 x3 (-x5) h
  else
    b_X12_tallies_74 k20 x0 x1 s0 x4 x3 x5 h
set_option maxRecDepth 20000 in
theorem w_X12_tallies_59 {K : KT} {w : (Int32 × AH)} {k20 : Option Nat → Int32 → Int32 → Int32 → Int32 → AH → Option (Int32 × AH)}  (X : CX K cX12_tallies RX12 TB (some .int) "tallies" (rmD 41 0 0) 6 0 0) (hk20 : ∀ (x0 : Option Nat) (x1 : Int32) (x2 : Int32) (x3 : Int32) (x4 : Int32) (h : AH), k20 x0 x1 x2 x3 x4 h = some w → GG K (some (tI w.1), w.2) 0 0 20 [(0, tR x0), (1, tI x1), (2, tI x2), (3, tI x3), (4, tI x4)] [] h) (x0 : Option Nat) (x1 : Int32) (x3 : Int32) (x4 : Int32) (x5 : Int32) (s0 : Int32) (h : AH) (hf : b_X12_tallies_59 k20 x0 x1 x3 x4 x5 s0 h = some w) : GG K (some (tI w.1), w.2) 0 0 59 [(0, tR x0), (1, tI x1), (3, tI x3), (4, tI x4), (5, tI x5)] [tI s0] h := by
  unfold b_X12_tallies_59 at hf
  refine g_istore_n (lv' := [(0, tR x0), (1, tI x1), (2, tI s0), (3, tI x3), (4, tI x4), (5, tI x5)]) X dX12_tallies_59 (by decide) (in_pick [1, 2, 0, 3, 4, 5] rfl) ?_
  refine g_iload_n X dX12_tallies_60 3 rfl ?_
  refine g_iload X dX12_tallies_61 5 rfl ?_
  refine g_ifge (tgt := 72) X hf dX12_tallies_63 (by decide) (fun hf => ?_) (fun hf => ?_)
  · refine g_iload X dX12_tallies_66 5 rfl ?_
    refine g_ineg X dX12_tallies_68 ?_
    refine g_goto (tgt := 74) X dX12_tallies_69 (by decide) ?_
    refine g_locs (lv' := [(0, tR x0), (1, tI x1), (2, tI s0), (4, tI x4)]) (in_pick [0, 1, 2, 4] rfl) ?_
    exact w_X12_tallies_74 X hk20 x0 x1 s0 x4 x3 (-x5) h hf
  · refine g_iload X dX12_tallies_72 5 rfl ?_
    refine g_locs (lv' := [(0, tR x0), (1, tI x1), (2, tI s0), (4, tI x4)]) (in_pick [0, 1, 2, 4] rfl) ?_
    exact w_X12_tallies_74 X hk20 x0 x1 s0 x4 x3 x5 h hf
def b_X12_tallies_20    : Nat → Option Nat → Int32 → Int32 → Int32 → Int32 → AH → Option (Int32 × AH)
  | 0 => fun _ _ _ _ _ _ => none
  | n + 1 => fun x0 x1 x2 x3 x4 h =>
    if x4 < 0 then
      if x1 < 2 then
        if x1 = 0 then
          some (x2, h)
        else
          some (x3, h)
      else
        (gR 12 0 h x0).bind fun v1 =>
        (aI h v1 0).bind fun v2 =>
        (ck 12 h x0 (f_X12_countAt x0 v2 h)).bind fun h3 =>
        if x1 = 2 then
          (ck 12 h3 x0 (f_X12_leastOfFirst x0 h3)).bind fun v4 =>
          (gI 12 24 h3 x0).bind fun v5 =>
          if x3 < (v4 - v5) then
            some (0, h3)
          else
            some (1, h3)
        else
          b_X12_tallies_137 FU x0 x1 0 0 h3
    else
      (gR 12 0 h x0).bind fun v6 =>
      (aI h v6 (13 + x4)).bind fun v7 =>
      (gR 12 0 h x0).bind fun v8 =>
      (aI h v8 (18 + x4)).bind fun v9 =>
      if (v7 - v9) = 0 then
        b_X12_tallies_59 (b_X12_tallies_20 n) x0 x1 x3 x4 (v7 - v9) x2 h
      else
        b_X12_tallies_59 (b_X12_tallies_20 n) x0 x1 x3 x4 (v7 - v9) x4 h
set_option maxRecDepth 20000 in
theorem w_X12_tallies_20 {K : KT} {w : (Int32 × AH)}   (X : CX K cX12_tallies RX12 TB (some .int) "tallies" (rmD 41 0 0) 6 0 0)  : ∀ (n : Nat) (x0 : Option Nat) (x1 : Int32) (x2 : Int32) (x3 : Int32) (x4 : Int32) (h : AH), b_X12_tallies_20 n x0 x1 x2 x3 x4 h = some w → GG K (some (tI w.1), w.2) 0 0 20 [(0, tR x0), (1, tI x1), (2, tI x2), (3, tI x3), (4, tI x4)] [] h := by
  intro n
  induction n with
  | zero =>
    intro x0 x1 x2 x3 x4 h hf
    cases (show none = some w from hf)
  | succ n ih =>
    intro x0 x1 x2 x3 x4 h hf
    rw [b_X12_tallies_20] at hf
    refine g_iload X dX12_tallies_20 4 rfl ?_
    refine g_iflt (tgt := 82) X hf dX12_tallies_22 (by decide) (fun hf => ?_) (fun hf => ?_)
    · refine g_iload_n X dX12_tallies_82 1 rfl ?_
      refine g_iconst (v := 2) X dX12_tallies_83 (by decide) ?_
      refine g_icmpge (tgt := 97) X hf dX12_tallies_84 (by decide) (fun hf => ?_) (fun hf => ?_)
      · refine g_iload_n X dX12_tallies_87 1 rfl ?_
        refine g_ifne (tgt := 95) X hf dX12_tallies_88 (by decide) (fun hf => ?_) (fun hf => ?_)
        · refine g_iload_n X dX12_tallies_91 2 rfl ?_
          refine g_goto (tgt := 96) X dX12_tallies_92 (by decide) ?_
          exact g_ireturn X (zW hf) (by decide) (by decide) dX12_tallies_96
        · refine g_iload_n X dX12_tallies_95 3 rfl ?_
          exact g_ireturn X (zW hf) (by decide) (by decide) dX12_tallies_96
      · refine g_aload_n X dX12_tallies_97 0 rfl ?_
        refine g_aload_n X dX12_tallies_98 0 rfl ?_
        refine g_getR X hf (T := TX12) rfl (by decide) (by decide) in_RX12 tb_1135 rfl dX12_tallies_99 (fun v1 hf => ?_)
        refine g_iconst (v := 0) X dX12_tallies_102 (by decide) ?_
        refine g_iaload X hf dX12_tallies_103 (fun v2 hf => ?_)
        refine g_callV (n := 1) (av := [tI v2]) (rest := []) (k := 12) X hf (fun h3 => (none, h3)) (fun _ q => m_X12_countAt q) (gdV tb_1445 tb_1446 tb_1719 tb_12 tb_1447) rfl (by decide +kernel) rfl (by decide) rfl (by decide) (by decide) rfl (Nat.le_of_ble_eq_true rfl) dX12_tallies_104 (fun h3 hf => ?_)
        refine g_iload_n X dX12_tallies_107 1 rfl ?_
        refine g_iconst (v := 2) X dX12_tallies_108 (by decide) ?_
        refine g_icmpne (tgt := 131) X hf dX12_tallies_109 (by decide) (fun hf => ?_) (fun hf => ?_)
        · refine g_iload_n X dX12_tallies_112 3 rfl ?_
          refine g_aload_n X dX12_tallies_113 0 rfl ?_
          refine g_callV (n := 0) (av := []) (rest := [tI x3]) (k := 12) X hf (fun v4 => (some (tI v4), h3)) (fun _ q => m_X12_leastOfFirst q) (gdV tb_1451 tb_1452 tb_1721 tb_12 tb_1453) rfl (by decide +kernel) rfl (by decide) rfl (by decide) (by decide) rfl (Nat.le_of_ble_eq_true rfl) dX12_tallies_114 (fun v4 hf => ?_)
          refine g_aload_n X dX12_tallies_117 0 rfl ?_
          refine g_getI X hf (T := TX12) rfl (by decide) (by decide) in_RX12 tb_1159 rfl dX12_tallies_118 (fun v5 hf => ?_)
          refine g_isub X dX12_tallies_121 ?_
          refine g_icmplt (tgt := 129) X hf dX12_tallies_122 (by decide) (fun hf => ?_) (fun hf => ?_)
          · refine g_iconst (v := 0) X dX12_tallies_129 (by decide) ?_
            exact g_ireturn X (zW hf) (by decide) (by decide) dX12_tallies_130
          · refine g_iconst (v := 1) X dX12_tallies_125 (by decide) ?_
            refine g_goto (tgt := 130) X dX12_tallies_126 (by decide) ?_
            exact g_ireturn X (zW hf) (by decide) (by decide) dX12_tallies_130
        · refine g_iconst (v := 0) X dX12_tallies_131 (by decide) ?_
          refine g_istore (lv' := [(0, tR x0), (1, tI x1), (2, tI x2), (3, tI x3), (4, tI 0)]) X dX12_tallies_132 (by decide) (in_pick [1, 2, 3, 4, 0] rfl) ?_
          refine g_iconst (v := 0) X dX12_tallies_134 (by decide) ?_
          refine g_istore (lv' := [(0, tR x0), (1, tI x1), (2, tI x2), (3, tI x3), (4, tI 0), (5, tI 0)]) X dX12_tallies_135 (by decide) (in_pick [1, 2, 3, 4, 5, 0] rfl) ?_
          refine g_locs (lv' := [(0, tR x0), (1, tI x1), (4, tI 0), (5, tI 0)]) (in_pick [0, 1, 4, 5] rfl) ?_
          exact w_X12_tallies_137 X FU x0 x1 0 0 h3 hf
    · refine g_aload_n X dX12_tallies_25 0 rfl ?_
      refine g_getR X hf (T := TX12) rfl (by decide) (by decide) in_RX12 tb_1135 rfl dX12_tallies_26 (fun v6 hf => ?_)
      refine g_bipush (v := 13) X dX12_tallies_29 (by decide) ?_
      refine g_iload X dX12_tallies_31 4 rfl ?_
      refine g_iadd X dX12_tallies_33 ?_
      refine g_iaload X hf dX12_tallies_34 (fun v7 hf => ?_)
      refine g_aload_n X dX12_tallies_35 0 rfl ?_
      refine g_getR X hf (T := TX12) rfl (by decide) (by decide) in_RX12 tb_1135 rfl dX12_tallies_36 (fun v8 hf => ?_)
      refine g_bipush (v := 18) X dX12_tallies_39 (by decide) ?_
      refine g_iload X dX12_tallies_41 4 rfl ?_
      refine g_iadd X dX12_tallies_43 ?_
      refine g_iaload X hf dX12_tallies_44 (fun v9 hf => ?_)
      refine g_isub X dX12_tallies_45 ?_
      refine g_istore (lv' := [(0, tR x0), (1, tI x1), (2, tI x2), (3, tI x3), (4, tI x4), (5, tI (v7 - v9))]) X dX12_tallies_46 (by decide) (in_pick [1, 2, 3, 4, 5, 0] rfl) ?_
      refine g_iload X dX12_tallies_48 5 rfl ?_
      refine g_ifeq (tgt := 58) X hf dX12_tallies_50 (by decide) (fun hf => ?_) (fun hf => ?_)
      · refine g_iload_n X dX12_tallies_58 2 rfl ?_
        refine g_locs (lv' := [(0, tR x0), (1, tI x1), (3, tI x3), (4, tI x4), (5, tI (v7 - v9))]) (in_pick [0, 1, 3, 4, 5] rfl) ?_
        exact w_X12_tallies_59 X ih x0 x1 x3 x4 (v7 - v9) x2 h hf
      · refine g_iload X dX12_tallies_53 4 rfl ?_
        refine g_goto (tgt := 59) X dX12_tallies_55 (by decide) ?_
        refine g_locs (lv' := [(0, tR x0), (1, tI x1), (3, tI x3), (4, tI x4), (5, tI (v7 - v9))]) (in_pick [0, 1, 3, 4, 5] rfl) ?_
        exact w_X12_tallies_59 X ih x0 x1 x3 x4 (v7 - v9) x4 h hf
def f_X12_tallies  (a0 : Option Nat) (a1 : Int32) (h : AH) : Option (Int32 × AH) :=
  (f_X12_in a1 0 7 h).bind fun v1 =>
  if v1 = 0 then
    some ((-1), h)
  else
    b_X12_tallies_20 FU a0 a1 (-3) 0 4 h
set_option maxRecDepth 20000 in
theorem m_X12_tallies  {a0 : Option Nat} {a1 : Int32} {h : AH} {w : (Int32 × AH)} (hf : f_X12_tallies a0 a1 h = some w) : CT yX12_tallies (wU yX12_tallies cX12_tallies 6 (some .int)) (rmD 41 0 0) 0 0 [tR a0, tI a1] h (some (tI w.1), w.2) := by
  refine CT.of (cc := cX12_tallies) (nL := 6) (ret := (some .int)) (by decide) (by simp [lg_sl, vOf_cat, wOf]) ?_
  intro K X
  refine g_locs (lv' := [(0, tR a0), (1, tI a1)]) (fun q hq => hq) ?_
  unfold f_X12_tallies at hf
  refine g_iload_n X dX12_tallies_0 1 rfl ?_
  refine g_iconst (v := 0) X dX12_tallies_1 (by decide) ?_
  refine g_bipush (v := 7) X dX12_tallies_2 (by decide) ?_
  refine g_callS (n := 3) (av := [tI a1, tI 0, tI 7]) (rest := []) X hf (fun v1 => (some (tI v1), h)) (fun _ q => m_X12_in q) (gdS tb_1226 tb_1227 tb_12 tb_1228) rfl (by decide +kernel) rfl (by decide) (by decide) rfl (Nat.le_of_ble_eq_true rfl) dX12_tallies_4 (fun v1 hf => ?_)
  refine g_ifne (tgt := 12) X hf dX12_tallies_7 (by decide) (fun hf => ?_) (fun hf => ?_)
  · refine g_iconst (v := (-1)) X dX12_tallies_10 (by decide) ?_
    exact g_ireturn X (zW hf) (by decide) (by decide) dX12_tallies_11
  · refine g_bipush (v := (-3)) X dX12_tallies_12 (by decide) ?_
    refine g_istore_n (lv' := [(0, tR a0), (1, tI a1), (2, tI (-3))]) X dX12_tallies_14 (by decide) (in_pick [1, 2, 0] rfl) ?_
    refine g_iconst (v := 0) X dX12_tallies_15 (by decide) ?_
    refine g_istore_n (lv' := [(0, tR a0), (1, tI a1), (2, tI (-3)), (3, tI 0)]) X dX12_tallies_16 (by decide) (in_pick [1, 2, 3, 0] rfl) ?_
    refine g_iconst (v := 4) X dX12_tallies_17 (by decide) ?_
    refine g_istore (lv' := [(0, tR a0), (1, tI a1), (2, tI (-3)), (3, tI 0), (4, tI 4)]) X dX12_tallies_18 (by decide) (in_pick [1, 2, 3, 4, 0] rfl) ?_
    exact w_X12_tallies_20 X FU a0 a1 (-3) 0 4 h hf
def f_X12_send  (a0 : Option Nat) (h : AH) : Option (Int32 × AH) :=
  (gR 12 0 h a0).bind fun v1 =>
  (aI h v1 0).bind fun v2 =>
  (ck 12 h a0 (f_X12_countAt a0 v2 h)).bind fun h3 =>
  (gI 12 26 h3 a0).bind fun v4 =>
  if v4 < 0 then
    some ((-3), h3)
  else
    (gI 12 26 h3 a0).bind fun v5 =>
    (gR 12 0 h3 a0).bind fun v6 =>
    (aI h3 v6 0).bind fun v7 =>
    (ck 12 h3 a0 (f_X12_isSent a0 v5 v7 h3)).bind fun v8 =>
    if v8 = 0 then
      (gR 12 0 h3 a0).bind fun v9 =>
      (gR 12 0 h3 a0).bind fun v10 =>
      (aI h3 v10 0).bind fun v11 =>
      (sI h3 v9 (171 + v5) v11).bind fun h12 =>
      (gR 12 0 h12 a0).bind fun v13 =>
      (gR 12 0 h12 a0).bind fun v14 =>
      (aI h12 v14 0).bind fun v15 =>
      (ck 12 h12 a0 (f_X12_years a0 h12)).bind fun p16 =>
      (sI p16.2 v13 (187 + v5) ((v15 + (360 * p16.1)) - 1)).bind fun h17 =>
      (gR 12 0 h17 a0).bind fun v18 =>
      (sI h17 v18 (203 + v5) 0).bind fun h19 =>
      some (v5, h19)
    else
      some ((-4), h3)
set_option maxRecDepth 20000 in
theorem m_X12_send  {a0 : Option Nat} {h : AH} {w : (Int32 × AH)} (hf : f_X12_send a0 h = some w) : CT yX12_send (wU yX12_send cX12_send 2 (some .int)) (rmD 41 0 0) 0 0 [tR a0] h (some (tI w.1), w.2) := by
  refine CT.of (cc := cX12_send) (nL := 2) (ret := (some .int)) (by decide) (by simp [lg_sl, vOf_cat, wOf]) ?_
  intro K X
  refine g_locs (lv' := [(0, tR a0)]) (fun q hq => hq) ?_
  unfold f_X12_send at hf
  refine g_aload_n X dX12_send_0 0 rfl ?_
  refine g_aload_n X dX12_send_1 0 rfl ?_
  refine g_getR X hf (T := TX12) rfl (by decide) (by decide) in_RX12 tb_1135 rfl dX12_send_2 (fun v1 hf => ?_)
  refine g_iconst (v := 0) X dX12_send_5 (by decide) ?_
  refine g_iaload X hf dX12_send_6 (fun v2 hf => ?_)
  refine g_callV (n := 1) (av := [tI v2]) (rest := []) (k := 12) X hf (fun h3 => (none, h3)) (fun _ q => m_X12_countAt q) (gdV tb_1445 tb_1446 tb_1719 tb_12 tb_1447) rfl (by decide +kernel) rfl (by decide) rfl (by decide) (by decide) rfl (Nat.le_of_ble_eq_true rfl) dX12_send_7 (fun h3 hf => ?_)
  refine g_aload_n X dX12_send_10 0 rfl ?_
  refine g_getI X hf (T := TX12) rfl (by decide) (by decide) in_RX12 tb_1161 rfl dX12_send_11 (fun v4 hf => ?_)
  refine g_ifge (tgt := 20) X hf dX12_send_14 (by decide) (fun hf => ?_) (fun hf => ?_)
  · refine g_bipush (v := (-3)) X dX12_send_17 (by decide) ?_
    exact g_ireturn X (zW hf) (by decide) (by decide) dX12_send_19
  · refine g_aload_n X dX12_send_20 0 rfl ?_
    refine g_getI X hf (T := TX12) rfl (by decide) (by decide) in_RX12 tb_1161 rfl dX12_send_21 (fun v5 hf => ?_)
    refine g_istore_n (lv' := [(0, tR a0), (1, tI v5)]) X dX12_send_24 (by decide) (in_pick [1, 0] rfl) ?_
    refine g_aload_n X dX12_send_25 0 rfl ?_
    refine g_iload_n X dX12_send_26 1 rfl ?_
    refine g_aload_n X dX12_send_27 0 rfl ?_
    refine g_getR X hf (T := TX12) rfl (by decide) (by decide) in_RX12 tb_1135 rfl dX12_send_28 (fun v6 hf => ?_)
    refine g_iconst (v := 0) X dX12_send_31 (by decide) ?_
    refine g_iaload X hf dX12_send_32 (fun v7 hf => ?_)
    refine g_callV (n := 2) (av := [tI v5, tI v7]) (rest := []) (k := 12) X hf (fun v8 => (some (tI v8), h3)) (fun _ q => m_X12_isSent q) (gdV tb_1318 tb_1319 tb_1695 tb_12 tb_1320) rfl (by decide +kernel) rfl (by decide) rfl (by decide) (by decide) rfl (Nat.le_of_ble_eq_true rfl) dX12_send_33 (fun v8 hf => ?_)
    refine g_ifeq (tgt := 42) X hf dX12_send_36 (by decide) (fun hf => ?_) (fun hf => ?_)
    · refine g_aload_n X dX12_send_42 0 rfl ?_
      refine g_getR X hf (T := TX12) rfl (by decide) (by decide) in_RX12 tb_1135 rfl dX12_send_43 (fun v9 hf => ?_)
      refine g_sipush (v := 171) X dX12_send_46 (by decide) ?_
      refine g_iload_n X dX12_send_49 1 rfl ?_
      refine g_iadd X dX12_send_50 ?_
      refine g_aload_n X dX12_send_51 0 rfl ?_
      refine g_getR X hf (T := TX12) rfl (by decide) (by decide) in_RX12 tb_1135 rfl dX12_send_52 (fun v10 hf => ?_)
      refine g_iconst (v := 0) X dX12_send_55 (by decide) ?_
      refine g_iaload X hf dX12_send_56 (fun v11 hf => ?_)
      refine g_iastore X hf dX12_send_57 (fun h12 hf => ?_)
      refine g_aload_n X dX12_send_58 0 rfl ?_
      refine g_getR X hf (T := TX12) rfl (by decide) (by decide) in_RX12 tb_1135 rfl dX12_send_59 (fun v13 hf => ?_)
      refine g_sipush (v := 187) X dX12_send_62 (by decide) ?_
      refine g_iload_n X dX12_send_65 1 rfl ?_
      refine g_iadd X dX12_send_66 ?_
      refine g_aload_n X dX12_send_67 0 rfl ?_
      refine g_getR X hf (T := TX12) rfl (by decide) (by decide) in_RX12 tb_1135 rfl dX12_send_68 (fun v14 hf => ?_)
      refine g_iconst (v := 0) X dX12_send_71 (by decide) ?_
      refine g_iaload X hf dX12_send_72 (fun v15 hf => ?_)
      refine g_sipush (v := 360) X dX12_send_73 (by decide) ?_
      refine g_aload_n X dX12_send_76 0 rfl ?_
      refine g_callV (n := 0) (av := []) (rest := [tI 360, tI v15, tI (187 + v5), tR v13]) (k := 12) X hf (fun p16 => (some (tI p16.1), p16.2)) (fun _ q => m_X12_years q) (gdV tb_1435 tb_1436 tb_1717 tb_12 tb_1437) rfl (by decide +kernel) rfl (by decide) rfl (by decide) (by decide) rfl (Nat.le_of_ble_eq_true rfl) dX12_send_77 (fun p16 hf => ?_)
      refine g_imul X dX12_send_80 ?_
      refine g_iadd X dX12_send_81 ?_
      refine g_iconst (v := 1) X dX12_send_82 (by decide) ?_
      refine g_isub X dX12_send_83 ?_
      refine g_iastore X hf dX12_send_84 (fun h17 hf => ?_)
      refine g_aload_n X dX12_send_85 0 rfl ?_
      refine g_getR X hf (T := TX12) rfl (by decide) (by decide) in_RX12 tb_1135 rfl dX12_send_86 (fun v18 hf => ?_)
      refine g_sipush (v := 203) X dX12_send_89 (by decide) ?_
      refine g_iload_n X dX12_send_92 1 rfl ?_
      refine g_iadd X dX12_send_93 ?_
      refine g_iconst (v := 0) X dX12_send_94 (by decide) ?_
      refine g_iastore X hf dX12_send_95 (fun h19 hf => ?_)
      refine g_iload_n X dX12_send_96 1 rfl ?_
      exact g_ireturn X (zW hf) (by decide) (by decide) dX12_send_97
    · refine g_bipush (v := (-4)) X dX12_send_39 (by decide) ?_
      exact g_ireturn X (zW hf) (by decide) (by decide) dX12_send_41
def b_X12_recall_75   (x0 : Option Nat) (x1 : Int32) (s0 : Option Nat) (s1 : Int32) (s2 : Int32) (h : AH) : Option (Int32 × AH) :=
  (ck 12 h s0 (f_X12_ruled s0 s1 s2 h)).bind fun p1 =>
  if p1.1 = 0 then
    some (0, p1.2)
  else
    (gR 12 0 p1.2 x0).bind fun v2 =>
    (gR 12 0 p1.2 x0).bind fun v3 =>
    (aI p1.2 v3 0).bind fun v4 =>
    (sI p1.2 v2 (187 + x1) (v4 - 1)).bind fun h5 =>
    (gR 12 0 h5 x0).bind fun v6 =>
    (sI h5 v6 (203 + x1) 1).bind fun h7 =>
    some (1, h7)
set_option maxRecDepth 20000 in
theorem w_X12_recall_75 {K : KT} {w : (Int32 × AH)}   (X : CX K cX12_recall RX12 TB (some .int) "recall" (rmD 39 0 0) 4 0 0)  (x0 : Option Nat) (x1 : Int32) (s0 : Option Nat) (s1 : Int32) (s2 : Int32) (h : AH) (hf : b_X12_recall_75 x0 x1 s0 s1 s2 h = some w) : GG K (some (tI w.1), w.2) 0 0 75 [(0, tR x0), (1, tI x1)] [tI s2, tI s1, tR s0] h := by
  unfold b_X12_recall_75 at hf
  refine g_callV (n := 2) (av := [tI s1, tI s2]) (rest := []) (k := 12) X hf (fun p1 => (some (tI p1.1), p1.2)) (fun _ q => m_X12_ruled q) (gdV tb_1375 tb_1376 tb_1704 tb_12 tb_1377) rfl (by decide +kernel) rfl (by decide) rfl (by decide) (by decide) rfl (Nat.le_of_ble_eq_true rfl) dX12_recall_75 (fun p1 hf => ?_)
  refine g_ifne (tgt := 83) X hf dX12_recall_78 (by decide) (fun hf => ?_) (fun hf => ?_)
  · refine g_iconst (v := 0) X dX12_recall_81 (by decide) ?_
    exact g_ireturn X (zW hf) (by decide) (by decide) dX12_recall_82
  · refine g_aload_n X dX12_recall_83 0 rfl ?_
    refine g_getR X hf (T := TX12) rfl (by decide) (by decide) in_RX12 tb_1135 rfl dX12_recall_84 (fun v2 hf => ?_)
    refine g_sipush (v := 187) X dX12_recall_87 (by decide) ?_
    refine g_iload_n X dX12_recall_90 1 rfl ?_
    refine g_iadd X dX12_recall_91 ?_
    refine g_aload_n X dX12_recall_92 0 rfl ?_
    refine g_getR X hf (T := TX12) rfl (by decide) (by decide) in_RX12 tb_1135 rfl dX12_recall_93 (fun v3 hf => ?_)
    refine g_iconst (v := 0) X dX12_recall_96 (by decide) ?_
    refine g_iaload X hf dX12_recall_97 (fun v4 hf => ?_)
    refine g_iconst (v := 1) X dX12_recall_98 (by decide) ?_
    refine g_isub X dX12_recall_99 ?_
    refine g_iastore X hf dX12_recall_100 (fun h5 hf => ?_)
    refine g_aload_n X dX12_recall_101 0 rfl ?_
    refine g_getR X hf (T := TX12) rfl (by decide) (by decide) in_RX12 tb_1135 rfl dX12_recall_102 (fun v6 hf => ?_)
    refine g_sipush (v := 203) X dX12_recall_105 (by decide) ?_
    refine g_iload_n X dX12_recall_108 1 rfl ?_
    refine g_iadd X dX12_recall_109 ?_
    refine g_iconst (v := 1) X dX12_recall_110 (by decide) ?_
    refine g_iastore X hf dX12_recall_111 (fun h7 hf => ?_)
    refine g_iconst (v := 1) X dX12_recall_112 (by decide) ?_
    exact g_ireturn X (zW hf) (by decide) (by decide) dX12_recall_113
def f_X12_recall  (a0 : Option Nat) (a1 : Int32) (a2 : Int32) (a3 : Int32) (h : AH) : Option (Int32 × AH) :=
  (ck 12 h a0 (f_X12_isMan a0 a1 h)).bind fun v1 =>
  if v1 = 0 then
    some ((-1), h)
  else
    (f_X12_in a3 0 9999 h).bind fun v2 =>
    if v2 = 0 then
      some ((-1), h)
    else
      (f_X12_in a2 0 a3 h).bind fun v3 =>
      if v3 = 0 then
        some ((-1), h)
      else
        (gR 12 0 h a0).bind fun v4 =>
        (aI h v4 0).bind fun v5 =>
        (ck 12 h a0 (f_X12_isSent a0 a1 v5 h)).bind fun v6 =>
        if v6 = 0 then
          some ((-4), h)
        else
          (gR 12 8 h a0).bind fun v7 =>
          (sI h v7 0 a2).bind fun h8 =>
          (gR 12 8 h8 a0).bind fun v9 =>
          (sI h8 v9 1 a3).bind fun h10 =>
          if a3 < (a2 + a2) then
            b_X12_recall_75 a0 a1 a0 2 1 h10
          else
            b_X12_recall_75 a0 a1 a0 2 0 h10
set_option maxRecDepth 20000 in
theorem m_X12_recall  {a0 : Option Nat} {a1 : Int32} {a2 : Int32} {a3 : Int32} {h : AH} {w : (Int32 × AH)} (hf : f_X12_recall a0 a1 a2 a3 h = some w) : CT yX12_recall (wU yX12_recall cX12_recall 4 (some .int)) (rmD 39 0 0) 0 0 [tR a0, tI a1, tI a2, tI a3] h (some (tI w.1), w.2) := by
  refine CT.of (cc := cX12_recall) (nL := 4) (ret := (some .int)) (by decide) (by simp [lg_sl, vOf_cat, wOf]) ?_
  intro K X
  refine g_locs (lv' := [(0, tR a0), (1, tI a1), (2, tI a2), (3, tI a3)]) (fun q hq => hq) ?_
  unfold f_X12_recall at hf
  refine g_aload_n X dX12_recall_0 0 rfl ?_
  refine g_iload_n X dX12_recall_1 1 rfl ?_
  refine g_callV (n := 1) (av := [tI a1]) (rest := []) (k := 12) X hf (fun v1 => (some (tI v1), h)) (fun _ q => m_X12_isMan q) (gdV tb_1267 tb_1268 tb_1691 tb_12 tb_1269) rfl (by decide +kernel) rfl (by decide) rfl (by decide) (by decide) rfl (Nat.le_of_ble_eq_true rfl) dX12_recall_2 (fun v1 hf => ?_)
  refine g_ifeq (tgt := 28) X hf dX12_recall_5 (by decide) (fun hf => ?_) (fun hf => ?_)
  · refine g_iconst (v := (-1)) X dX12_recall_28 (by decide) ?_
    exact g_ireturn X (zW hf) (by decide) (by decide) dX12_recall_29
  · refine g_iload_n X dX12_recall_8 3 rfl ?_
    refine g_iconst (v := 0) X dX12_recall_9 (by decide) ?_
    refine g_sipush (v := 9999) X dX12_recall_10 (by decide) ?_
    refine g_callS (n := 3) (av := [tI a3, tI 0, tI 9999]) (rest := []) X hf (fun v2 => (some (tI v2), h)) (fun _ q => m_X12_in q) (gdS tb_1226 tb_1227 tb_12 tb_1228) rfl (by decide +kernel) rfl (by decide) (by decide) rfl (Nat.le_of_ble_eq_true rfl) dX12_recall_13 (fun v2 hf => ?_)
    refine g_ifeq (tgt := 28) X hf dX12_recall_16 (by decide) (fun hf => ?_) (fun hf => ?_)
    · refine g_iconst (v := (-1)) X dX12_recall_28 (by decide) ?_
      exact g_ireturn X (zW hf) (by decide) (by decide) dX12_recall_29
    · refine g_iload_n X dX12_recall_19 2 rfl ?_
      refine g_iconst (v := 0) X dX12_recall_20 (by decide) ?_
      refine g_iload_n X dX12_recall_21 3 rfl ?_
      refine g_callS (n := 3) (av := [tI a2, tI 0, tI a3]) (rest := []) X hf (fun v3 => (some (tI v3), h)) (fun _ q => m_X12_in q) (gdS tb_1226 tb_1227 tb_12 tb_1228) rfl (by decide +kernel) rfl (by decide) (by decide) rfl (Nat.le_of_ble_eq_true rfl) dX12_recall_22 (fun v3 hf => ?_)
      refine g_ifne (tgt := 30) X hf dX12_recall_25 (by decide) (fun hf => ?_) (fun hf => ?_)
      · refine g_iconst (v := (-1)) X dX12_recall_28 (by decide) ?_
        exact g_ireturn X (zW hf) (by decide) (by decide) dX12_recall_29
      · refine g_aload_n X dX12_recall_30 0 rfl ?_
        refine g_iload_n X dX12_recall_31 1 rfl ?_
        refine g_aload_n X dX12_recall_32 0 rfl ?_
        refine g_getR X hf (T := TX12) rfl (by decide) (by decide) in_RX12 tb_1135 rfl dX12_recall_33 (fun v4 hf => ?_)
        refine g_iconst (v := 0) X dX12_recall_36 (by decide) ?_
        refine g_iaload X hf dX12_recall_37 (fun v5 hf => ?_)
        refine g_callV (n := 2) (av := [tI a1, tI v5]) (rest := []) (k := 12) X hf (fun v6 => (some (tI v6), h)) (fun _ q => m_X12_isSent q) (gdV tb_1318 tb_1319 tb_1695 tb_12 tb_1320) rfl (by decide +kernel) rfl (by decide) rfl (by decide) (by decide) rfl (Nat.le_of_ble_eq_true rfl) dX12_recall_38 (fun v6 hf => ?_)
        refine g_ifne (tgt := 47) X hf dX12_recall_41 (by decide) (fun hf => ?_) (fun hf => ?_)
        · refine g_bipush (v := (-4)) X dX12_recall_44 (by decide) ?_
          exact g_ireturn X (zW hf) (by decide) (by decide) dX12_recall_46
        · refine g_aload_n X dX12_recall_47 0 rfl ?_
          refine g_getR X hf (T := TX12) rfl (by decide) (by decide) in_RX12 tb_1143 rfl dX12_recall_48 (fun v7 hf => ?_)
          refine g_iconst (v := 0) X dX12_recall_51 (by decide) ?_
          refine g_iload_n X dX12_recall_52 2 rfl ?_
          refine g_iastore X hf dX12_recall_53 (fun h8 hf => ?_)
          refine g_aload_n X dX12_recall_54 0 rfl ?_
          refine g_getR X hf (T := TX12) rfl (by decide) (by decide) in_RX12 tb_1143 rfl dX12_recall_55 (fun v9 hf => ?_)
          refine g_iconst (v := 1) X dX12_recall_58 (by decide) ?_
          refine g_iload_n X dX12_recall_59 3 rfl ?_
          refine g_iastore X hf dX12_recall_60 (fun h10 hf => ?_)
          refine g_aload_n X dX12_recall_61 0 rfl ?_
          refine g_iconst (v := 2) X dX12_recall_62 (by decide) ?_
          refine g_iload_n X dX12_recall_63 2 rfl ?_
          refine g_iload_n X dX12_recall_64 2 rfl ?_
          refine g_iadd X dX12_recall_65 ?_
          refine g_iload_n X dX12_recall_66 3 rfl ?_
          refine g_icmple (tgt := 74) X hf dX12_recall_67 (by decide) (fun hf => ?_) (fun hf => ?_)
          · refine g_iconst (v := 1) X dX12_recall_70 (by decide) ?_
            refine g_goto (tgt := 75) X dX12_recall_71 (by decide) ?_
            refine g_locs (lv' := [(0, tR a0), (1, tI a1)]) (in_pick [0, 1] rfl) ?_
            exact w_X12_recall_75 X a0 a1 a0 2 1 h10 hf
          · refine g_iconst (v := 0) X dX12_recall_74 (by decide) ?_
            refine g_locs (lv' := [(0, tR a0), (1, tI a1)]) (in_pick [0, 1] rfl) ?_
            exact w_X12_recall_75 X a0 a1 a0 2 0 h10 hf
def f_X12_may  (a0 : Option Nat) (a1 : Int32) (a2 : Int32) (h : AH) : Option (Int32 × AH) :=
  (ck 12 h a0 (f_X12_isMan a0 a1 h)).bind fun v1 =>
  if v1 = 0 then
    some ((-1), h)
  else
    (f_X12_isDay a2 h).bind fun v2 =>
    if v2 = 0 then
      some ((-1), h)
    else
      (ck 12 h a0 (f_X12_isSent a0 a1 a2 h)).bind fun v3 =>
      if v3 = 0 then
        some ((-4), h)
      else
        (ck 12 h a0 (f_X12_years a0 h)).bind fun p4 =>
        (gR 12 8 p4.2 a0).bind fun v5 =>
        (gR 12 0 p4.2 a0).bind fun v6 =>
        (aI p4.2 v6 (171 + a1)).bind fun v7 =>
        (sI p4.2 v5 0 (a2 - v7)).bind fun h8 =>
        (gR 12 8 h8 a0).bind fun v9 =>
        (sI h8 v9 1 p4.1).bind fun h10 =>
        (ck 12 h10 a0 (f_X12_ruled a0 3 0 h10)).bind fun p11 =>
        some (p11.1, p11.2)
set_option maxRecDepth 20000 in
theorem m_X12_may  {a0 : Option Nat} {a1 : Int32} {a2 : Int32} {h : AH} {w : (Int32 × AH)} (hf : f_X12_may a0 a1 a2 h = some w) : CT yX12_may (wU yX12_may cX12_may 4 (some .int)) (rmD 40 0 0) 0 0 [tR a0, tI a1, tI a2] h (some (tI w.1), w.2) := by
  refine CT.of (cc := cX12_may) (nL := 4) (ret := (some .int)) (by decide) (by simp [lg_sl, vOf_cat, wOf]) ?_
  intro K X
  refine g_locs (lv' := [(0, tR a0), (1, tI a1), (2, tI a2)]) (fun q hq => hq) ?_
  unfold f_X12_may at hf
  refine g_aload_n X dX12_may_0 0 rfl ?_
  refine g_iload_n X dX12_may_1 1 rfl ?_
  refine g_callV (n := 1) (av := [tI a1]) (rest := []) (k := 12) X hf (fun v1 => (some (tI v1), h)) (fun _ q => m_X12_isMan q) (gdV tb_1267 tb_1268 tb_1691 tb_12 tb_1269) rfl (by decide +kernel) rfl (by decide) rfl (by decide) (by decide) rfl (Nat.le_of_ble_eq_true rfl) dX12_may_2 (fun v1 hf => ?_)
  refine g_ifeq (tgt := 15) X hf dX12_may_5 (by decide) (fun hf => ?_) (fun hf => ?_)
  · refine g_iconst (v := (-1)) X dX12_may_15 (by decide) ?_
    exact g_ireturn X (zW hf) (by decide) (by decide) dX12_may_16
  · refine g_iload_n X dX12_may_8 2 rfl ?_
    refine g_callS (n := 1) (av := [tI a2]) (rest := []) X hf (fun v2 => (some (tI v2), h)) (fun _ q => m_X12_isDay q) (gdS tb_1239 tb_1240 tb_12 tb_1241) rfl (by decide +kernel) rfl (by decide) (by decide) rfl (Nat.le_of_ble_eq_true rfl) dX12_may_9 (fun v2 hf => ?_)
    refine g_ifne (tgt := 17) X hf dX12_may_12 (by decide) (fun hf => ?_) (fun hf => ?_)
    · refine g_iconst (v := (-1)) X dX12_may_15 (by decide) ?_
      exact g_ireturn X (zW hf) (by decide) (by decide) dX12_may_16
    · refine g_aload_n X dX12_may_17 0 rfl ?_
      refine g_iload_n X dX12_may_18 1 rfl ?_
      refine g_iload_n X dX12_may_19 2 rfl ?_
      refine g_callV (n := 2) (av := [tI a1, tI a2]) (rest := []) (k := 12) X hf (fun v3 => (some (tI v3), h)) (fun _ q => m_X12_isSent q) (gdV tb_1318 tb_1319 tb_1695 tb_12 tb_1320) rfl (by decide +kernel) rfl (by decide) rfl (by decide) (by decide) rfl (Nat.le_of_ble_eq_true rfl) dX12_may_20 (fun v3 hf => ?_)
      refine g_ifne (tgt := 29) X hf dX12_may_23 (by decide) (fun hf => ?_) (fun hf => ?_)
      · refine g_bipush (v := (-4)) X dX12_may_26 (by decide) ?_
        exact g_ireturn X (zW hf) (by decide) (by decide) dX12_may_28
      · refine g_aload_n X dX12_may_29 0 rfl ?_
        refine g_callV (n := 0) (av := []) (rest := []) (k := 12) X hf (fun p4 => (some (tI p4.1), p4.2)) (fun _ q => m_X12_years q) (gdV tb_1435 tb_1436 tb_1717 tb_12 tb_1437) rfl (by decide +kernel) rfl (by decide) rfl (by decide) (by decide) rfl (Nat.le_of_ble_eq_true rfl) dX12_may_30 (fun p4 hf => ?_)
        refine g_istore_n (lv' := [(0, tR a0), (1, tI a1), (2, tI a2), (3, tI p4.1)]) X dX12_may_33 (by decide) (in_pick [1, 2, 3, 0] rfl) ?_
        refine g_aload_n X dX12_may_34 0 rfl ?_
        refine g_getR X hf (T := TX12) rfl (by decide) (by decide) in_RX12 tb_1143 rfl dX12_may_35 (fun v5 hf => ?_)
        refine g_iconst (v := 0) X dX12_may_38 (by decide) ?_
        refine g_iload_n X dX12_may_39 2 rfl ?_
        refine g_aload_n X dX12_may_40 0 rfl ?_
        refine g_getR X hf (T := TX12) rfl (by decide) (by decide) in_RX12 tb_1135 rfl dX12_may_41 (fun v6 hf => ?_)
        refine g_sipush (v := 171) X dX12_may_44 (by decide) ?_
        refine g_iload_n X dX12_may_47 1 rfl ?_
        refine g_iadd X dX12_may_48 ?_
        refine g_iaload X hf dX12_may_49 (fun v7 hf => ?_)
        refine g_isub X dX12_may_50 ?_
        refine g_iastore X hf dX12_may_51 (fun h8 hf => ?_)
        refine g_aload_n X dX12_may_52 0 rfl ?_
        refine g_getR X hf (T := TX12) rfl (by decide) (by decide) in_RX12 tb_1143 rfl dX12_may_53 (fun v9 hf => ?_)
        refine g_iconst (v := 1) X dX12_may_56 (by decide) ?_
        refine g_iload_n X dX12_may_57 3 rfl ?_
        refine g_iastore X hf dX12_may_58 (fun h10 hf => ?_)
        refine g_aload_n X dX12_may_59 0 rfl ?_
        refine g_iconst (v := 3) X dX12_may_60 (by decide) ?_
        refine g_iconst (v := 0) X dX12_may_61 (by decide) ?_
        refine g_callV (n := 2) (av := [tI 3, tI 0]) (rest := []) (k := 12) X hf (fun p11 => (some (tI p11.1), p11.2)) (fun _ q => m_X12_ruled q) (gdV tb_1375 tb_1376 tb_1704 tb_12 tb_1377) rfl (by decide +kernel) rfl (by decide) rfl (by decide) (by decide) rfl (Nat.le_of_ble_eq_true rfl) dX12_may_62 (fun p11 hf => ?_)
        exact g_ireturn X (zW hf) (by decide) (by decide) dX12_may_65
def b_X12_castAll_42  (k2 : Option Nat → Int32 → Int32 → Int32 → AH → Option AH) (x0 : Option Nat) (x1 : Int32) (x2 : Int32) (x3 : Int32) (s0 : Option Nat) (s1 : Int32) (s2 : Int32) (h : AH) : Option AH :=
  (sI h s0 s1 s2).bind fun h1 =>
  k2 x0 x1 x2 (x3 + 1) h1
set_option maxRecDepth 20000 in
theorem w_X12_castAll_42 {K : KT} {w : AH} {k2 : Option Nat → Int32 → Int32 → Int32 → AH → Option AH}  (X : CX K cX12_castAll RX12 TB none "castAll" (rmD 4 0 0) 4 0 0) (hk2 : ∀ (x0 : Option Nat) (x1 : Int32) (x2 : Int32) (x3 : Int32) (h : AH), k2 x0 x1 x2 x3 h = some w → GG K (none, w) 0 0 2 [(0, tR x0), (1, tI x1), (2, tI x2), (3, tI x3)] [] h) (x0 : Option Nat) (x1 : Int32) (x2 : Int32) (x3 : Int32) (s0 : Option Nat) (s1 : Int32) (s2 : Int32) (h : AH) (hf : b_X12_castAll_42 k2 x0 x1 x2 x3 s0 s1 s2 h = some w) : GG K (none, w) 0 0 42 [(0, tR x0), (1, tI x1), (2, tI x2), (3, tI x3)] [tI s2, tI s1, tR s0] h := by
  unfold b_X12_castAll_42 at hf
  refine g_iastore X hf dX12_castAll_42 (fun h1 hf => ?_)
  refine g_iinc (v := (x3 + 1)) (lv' := [(0, tR x0), (1, tI x1), (2, tI x2), (3, tI (x3 + 1))]) X dX12_castAll_43 3 rfl (by rfl) (by decide) (in_pick [1, 2, 3, 0] rfl) ?_
  refine g_goto (tgt := 2) X dX12_castAll_46 (by decide) ?_
  exact hk2 x0 x1 x2 (x3 + 1) h1 hf
def b_X12_castAll_2    : Nat → Option Nat → Int32 → Int32 → Int32 → AH → Option AH
  | 0 => fun _ _ _ _ _ => none
  | n + 1 => fun x0 x1 x2 x3 h =>
    (gR 12 0 h x0).bind fun v1 =>
    (aI h v1 2).bind fun v2 =>
    if x3 < v2 then
      (gR 12 27 h x0).bind fun v3 =>
      if x3 = x2 then
        b_X12_castAll_42 (b_X12_castAll_2 n) x0 x1 x2 x3 v3 x3 (-1) h
      else
        (ck 12 h x0 (f_X12_doesCome x0 x3 x1 h)).bind fun v4 =>
        if v4 = 0 then
          b_X12_castAll_42 (b_X12_castAll_2 n) x0 x1 x2 x3 v3 x3 (-1) h
        else
          (ck 12 h x0 (f_X12_castOf x0 x3 x1 x2 h)).bind fun v5 =>
          b_X12_castAll_42 (b_X12_castAll_2 n) x0 x1 x2 x3 v3 x3 v5 h
    else
      some h
set_option maxRecDepth 20000 in
theorem w_X12_castAll_2 {K : KT} {w : AH}   (X : CX K cX12_castAll RX12 TB none "castAll" (rmD 4 0 0) 4 0 0)  : ∀ (n : Nat) (x0 : Option Nat) (x1 : Int32) (x2 : Int32) (x3 : Int32) (h : AH), b_X12_castAll_2 n x0 x1 x2 x3 h = some w → GG K (none, w) 0 0 2 [(0, tR x0), (1, tI x1), (2, tI x2), (3, tI x3)] [] h := by
  intro n
  induction n with
  | zero =>
    intro x0 x1 x2 x3 h hf
    cases (show none = some w from hf)
  | succ n ih =>
    intro x0 x1 x2 x3 h hf
    rw [b_X12_castAll_2] at hf
    refine g_iload_n X dX12_castAll_2 3 rfl ?_
    refine g_aload_n X dX12_castAll_3 0 rfl ?_
    refine g_getR X hf (T := TX12) rfl (by decide) (by decide) in_RX12 tb_1135 rfl dX12_castAll_4 (fun v1 hf => ?_)
    refine g_iconst (v := 2) X dX12_castAll_7 (by decide) ?_
    refine g_iaload X hf dX12_castAll_8 (fun v2 hf => ?_)
    refine g_icmpge (tgt := 49) X hf dX12_castAll_9 (by decide) (fun hf => ?_) (fun hf => ?_)
    · refine g_aload_n X dX12_castAll_12 0 rfl ?_
      refine g_getR X hf (T := TX12) rfl (by decide) (by decide) in_RX12 tb_1162 rfl dX12_castAll_13 (fun v3 hf => ?_)
      refine g_iload_n X dX12_castAll_16 3 rfl ?_
      refine g_iload_n X dX12_castAll_17 3 rfl ?_
      refine g_iload_n X dX12_castAll_18 2 rfl ?_
      refine g_icmpeq (tgt := 41) X hf dX12_castAll_19 (by decide) (fun hf => ?_) (fun hf => ?_)
      · refine g_iconst (v := (-1)) X dX12_castAll_41 (by decide) ?_
        exact w_X12_castAll_42 X ih x0 x1 x2 x3 v3 x3 (-1) h hf
      · refine g_aload_n X dX12_castAll_22 0 rfl ?_
        refine g_iload_n X dX12_castAll_23 3 rfl ?_
        refine g_iload_n X dX12_castAll_24 1 rfl ?_
        refine g_callV (n := 2) (av := [tI x3, tI x1]) (rest := [tI x3, tR v3]) (k := 12) X hf (fun v4 => (some (tI v4), h)) (fun _ q => m_X12_doesCome q) (gdV tb_1315 tb_1316 tb_1694 tb_12 tb_1317) rfl (by decide +kernel) rfl (by decide) rfl (by decide) (by decide) rfl (Nat.le_of_ble_eq_true rfl) dX12_castAll_25 (fun v4 hf => ?_)
        refine g_ifeq (tgt := 41) X hf dX12_castAll_28 (by decide) (fun hf => ?_) (fun hf => ?_)
        · refine g_iconst (v := (-1)) X dX12_castAll_41 (by decide) ?_
          exact w_X12_castAll_42 X ih x0 x1 x2 x3 v3 x3 (-1) h hf
        · refine g_aload_n X dX12_castAll_31 0 rfl ?_
          refine g_iload_n X dX12_castAll_32 3 rfl ?_
          refine g_iload_n X dX12_castAll_33 1 rfl ?_
          refine g_iload_n X dX12_castAll_34 2 rfl ?_
          refine g_callV (n := 3) (av := [tI x3, tI x1, tI x2]) (rest := [tI x3, tR v3]) (k := 12) X hf (fun v5 => (some (tI v5), h)) (fun _ q => m_X12_castOf q) (gdV tb_1325 tb_1326 tb_1696 tb_12 tb_1327) rfl (by decide +kernel) rfl (by decide) rfl (by decide) (by decide) rfl (Nat.le_of_ble_eq_true rfl) dX12_castAll_35 (fun v5 hf => ?_)
          refine g_goto (tgt := 42) X dX12_castAll_38 (by decide) ?_
          exact w_X12_castAll_42 X ih x0 x1 x2 x3 v3 x3 v5 h hf
    · exact g_vreturn X (zV hf) (by decide) (by decide) dX12_castAll_49
def f_X12_castAll  (a0 : Option Nat) (a1 : Int32) (a2 : Int32) (h : AH) : Option AH :=
  b_X12_castAll_2 FU a0 a1 a2 0 h
set_option maxRecDepth 20000 in
theorem m_X12_castAll  {a0 : Option Nat} {a1 : Int32} {a2 : Int32} {h : AH} {w : AH} (hf : f_X12_castAll a0 a1 a2 h = some w) : CT yX12_castAll (wU yX12_castAll cX12_castAll 4 none) (rmD 4 0 0) 0 0 [tR a0, tI a1, tI a2] h (none, w) := by
  refine CT.of (cc := cX12_castAll) (nL := 4) (ret := none) (by decide) (by simp [lg_sl, vOf_cat, wOf]) ?_
  intro K X
  refine g_locs (lv' := [(0, tR a0), (1, tI a1), (2, tI a2)]) (fun q hq => hq) ?_
  unfold f_X12_castAll at hf
  refine g_iconst (v := 0) X dX12_castAll_0 (by decide) ?_
  refine g_istore_n (lv' := [(0, tR a0), (1, tI a1), (2, tI a2), (3, tI 0)]) X dX12_castAll_1 (by decide) (in_pick [1, 2, 3, 0] rfl) ?_
  exact w_X12_castAll_2 X FU a0 a1 a2 0 h hf
def b_X12_goesBy_140  (k86 : Option Nat → Int32 → Int32 → AH → Option (Int32 × AH)) (x0 : Option Nat) (x2 : Int32) (s0 : Int32) (s1 : Int32) (h : AH) : Option (Int32 × AH) :=
  k86 x0 (s0 ||| s1) (x2 + 1) h
set_option maxRecDepth 20000 in
theorem w_X12_goesBy_140 {K : KT} {w : (Int32 × AH)} {k86 : Option Nat → Int32 → Int32 → AH → Option (Int32 × AH)}  (X : CX K cX12_goesBy RX12 TB (some .int) "goesBy" (rmD 40 0 0) 3 0 0) (hk86 : ∀ (x0 : Option Nat) (x1 : Int32) (x2 : Int32) (h : AH), k86 x0 x1 x2 h = some w → GG K (some (tI w.1), w.2) 0 0 86 [(0, tR x0), (1, tI x1), (2, tI x2)] [] h) (x0 : Option Nat) (x2 : Int32) (s0 : Int32) (s1 : Int32) (h : AH) (hf : b_X12_goesBy_140 k86 x0 x2 s0 s1 h = some w) : GG K (some (tI w.1), w.2) 0 0 140 [(0, tR x0), (2, tI x2)] [tI s1, tI s0] h := by
  unfold b_X12_goesBy_140 at hf
  refine g_ior X dX12_goesBy_140 ?_
  refine g_istore_n (lv' := [(0, tR x0), (1, tI (s0 ||| s1)), (2, tI x2)]) X dX12_goesBy_141 (by decide) (in_pick [1, 0, 2] rfl) ?_
  refine g_iinc (v := (x2 + 1)) (lv' := [(0, tR x0), (1, tI (s0 ||| s1)), (2, tI (x2 + 1))]) X dX12_goesBy_142 2 rfl (by rfl) (by decide) (in_pick [1, 2, 0] rfl) ?_
  refine g_goto (tgt := 86) X dX12_goesBy_145 (by decide) ?_
  exact hk86 x0 (s0 ||| s1) (x2 + 1) h hf
def b_X12_goesBy_86    : Nat → Option Nat → Int32 → Int32 → AH → Option (Int32 × AH)
  | 0 => fun _ _ _ _ => none
  | n + 1 => fun x0 x1 x2 h =>
    (gR 12 0 h x0).bind fun v1 =>
    (aI h v1 2).bind fun v2 =>
    if x2 < v2 then
      (gI 12 23 h x0).bind fun v3 =>
      if v3 < 0 then
        b_X12_goesBy_140 (b_X12_goesBy_86 n) x0 x2 x1 0 h
      else
        (gR 12 27 h x0).bind fun v4 =>
        (aI h v4 x2).bind fun v5 =>
        (gI 12 23 h x0).bind fun v6 =>
        if v5 = v6 then
          (gR 12 0 h x0).bind fun v7 =>
          (gR 12 0 h x0).bind fun v8 =>
          (aI h v8 (75 + x2)).bind fun v9 =>
          (aI h v7 (23 + v9)).bind fun v10 =>
          b_X12_goesBy_140 (b_X12_goesBy_86 n) x0 x2 x1 (1 <<< (v10 &&& 31)) h
        else
          b_X12_goesBy_140 (b_X12_goesBy_86 n) x0 x2 x1 0 h
    else
      (ck 12 h x0 (f_X12_leastOfFirst x0 h)).bind fun v11 =>
      if 0 < v11 then
        (gI 12 22 h x0).bind fun v12 =>
        (ck 12 h x0 (f_X12_leastOfFirst x0 h)).bind fun v13 =>
        (gI 12 24 h x0).bind fun v14 =>
        (f_X12_bits x1 h).bind fun v15 =>
        (ck 12 h x0 (f_X12_isEnough x0 v12 v13 v14 v15 h)).bind fun p16 =>
        if p16.1 = 0 then
          some ((-1), p16.2)
        else
          (gI 12 23 p16.2 x0).bind fun v17 =>
          some (v17, p16.2)
      else
        some ((-1), h)
set_option maxRecDepth 20000 in
theorem w_X12_goesBy_86 {K : KT} {w : (Int32 × AH)}   (X : CX K cX12_goesBy RX12 TB (some .int) "goesBy" (rmD 40 0 0) 3 0 0)  : ∀ (n : Nat) (x0 : Option Nat) (x1 : Int32) (x2 : Int32) (h : AH), b_X12_goesBy_86 n x0 x1 x2 h = some w → GG K (some (tI w.1), w.2) 0 0 86 [(0, tR x0), (1, tI x1), (2, tI x2)] [] h := by
  intro n
  induction n with
  | zero =>
    intro x0 x1 x2 h hf
    cases (show none = some w from hf)
  | succ n ih =>
    intro x0 x1 x2 h hf
    rw [b_X12_goesBy_86] at hf
    refine g_iload_n X dX12_goesBy_86 2 rfl ?_
    refine g_aload_n X dX12_goesBy_87 0 rfl ?_
    refine g_getR X hf (T := TX12) rfl (by decide) (by decide) in_RX12 tb_1135 rfl dX12_goesBy_88 (fun v1 hf => ?_)
    refine g_iconst (v := 2) X dX12_goesBy_91 (by decide) ?_
    refine g_iaload X hf dX12_goesBy_92 (fun v2 hf => ?_)
    refine g_icmpge (tgt := 148) X hf dX12_goesBy_93 (by decide) (fun hf => ?_) (fun hf => ?_)
    · refine g_iload_n X dX12_goesBy_96 1 rfl ?_
      refine g_aload_n X dX12_goesBy_97 0 rfl ?_
      refine g_getI X hf (T := TX12) rfl (by decide) (by decide) in_RX12 tb_1158 rfl dX12_goesBy_98 (fun v3 hf => ?_)
      refine g_iflt (tgt := 139) X hf dX12_goesBy_101 (by decide) (fun hf => ?_) (fun hf => ?_)
      · refine g_iconst (v := 0) X dX12_goesBy_139 (by decide) ?_
        refine g_locs (lv' := [(0, tR x0), (2, tI x2)]) (in_pick [0, 2] rfl) ?_
        exact w_X12_goesBy_140 X ih x0 x2 x1 0 h hf
      · refine g_aload_n X dX12_goesBy_104 0 rfl ?_
        refine g_getR X hf (T := TX12) rfl (by decide) (by decide) in_RX12 tb_1162 rfl dX12_goesBy_105 (fun v4 hf => ?_)
        refine g_iload_n X dX12_goesBy_108 2 rfl ?_
        refine g_iaload X hf dX12_goesBy_109 (fun v5 hf => ?_)
        refine g_aload_n X dX12_goesBy_110 0 rfl ?_
        refine g_getI X hf (T := TX12) rfl (by decide) (by decide) in_RX12 tb_1158 rfl dX12_goesBy_111 (fun v6 hf => ?_)
        refine g_icmpne (tgt := 139) X hf dX12_goesBy_114 (by decide) (fun hf => ?_) (fun hf => ?_)
        · refine g_iconst (v := 1) X dX12_goesBy_117 (by decide) ?_
          refine g_aload_n X dX12_goesBy_118 0 rfl ?_
          refine g_getR X hf (T := TX12) rfl (by decide) (by decide) in_RX12 tb_1135 rfl dX12_goesBy_119 (fun v7 hf => ?_)
          refine g_bipush (v := 23) X dX12_goesBy_122 (by decide) ?_
          refine g_aload_n X dX12_goesBy_124 0 rfl ?_
          refine g_getR X hf (T := TX12) rfl (by decide) (by decide) in_RX12 tb_1135 rfl dX12_goesBy_125 (fun v8 hf => ?_)
          refine g_bipush (v := 75) X dX12_goesBy_128 (by decide) ?_
          refine g_iload_n X dX12_goesBy_130 2 rfl ?_
          refine g_iadd X dX12_goesBy_131 ?_
          refine g_iaload X hf dX12_goesBy_132 (fun v9 hf => ?_)
          refine g_iadd X dX12_goesBy_133 ?_
          refine g_iaload X hf dX12_goesBy_134 (fun v10 hf => ?_)
          refine g_ishl X dX12_goesBy_135 ?_
          refine g_goto (tgt := 140) X dX12_goesBy_136 (by decide) ?_
          refine g_locs (lv' := [(0, tR x0), (2, tI x2)]) (in_pick [0, 2] rfl) ?_
          exact w_X12_goesBy_140 X ih x0 x2 x1 (1 <<< (v10 &&& 31)) h hf
        · refine g_iconst (v := 0) X dX12_goesBy_139 (by decide) ?_
          refine g_locs (lv' := [(0, tR x0), (2, tI x2)]) (in_pick [0, 2] rfl) ?_
          exact w_X12_goesBy_140 X ih x0 x2 x1 0 h hf
    · refine g_aload_n X dX12_goesBy_148 0 rfl ?_
      refine g_callV (n := 0) (av := []) (rest := []) (k := 12) X hf (fun v11 => (some (tI v11), h)) (fun _ q => m_X12_leastOfFirst q) (gdV tb_1451 tb_1452 tb_1721 tb_12 tb_1453) rfl (by decide +kernel) rfl (by decide) rfl (by decide) (by decide) rfl (Nat.le_of_ble_eq_true rfl) dX12_goesBy_149 (fun v11 hf => ?_)
      refine g_ifle (tgt := 185) X hf dX12_goesBy_152 (by decide) (fun hf => ?_) (fun hf => ?_)
      · refine g_aload_n X dX12_goesBy_155 0 rfl ?_
        refine g_aload_n X dX12_goesBy_156 0 rfl ?_
        refine g_getI X hf (T := TX12) rfl (by decide) (by decide) in_RX12 tb_1157 rfl dX12_goesBy_157 (fun v12 hf => ?_)
        refine g_aload_n X dX12_goesBy_160 0 rfl ?_
        refine g_callV (n := 0) (av := []) (rest := [tI v12, tR x0]) (k := 12) X hf (fun v13 => (some (tI v13), h)) (fun _ q => m_X12_leastOfFirst q) (gdV tb_1451 tb_1452 tb_1721 tb_12 tb_1453) rfl (by decide +kernel) rfl (by decide) rfl (by decide) (by decide) rfl (Nat.le_of_ble_eq_true rfl) dX12_goesBy_161 (fun v13 hf => ?_)
        refine g_aload_n X dX12_goesBy_164 0 rfl ?_
        refine g_getI X hf (T := TX12) rfl (by decide) (by decide) in_RX12 tb_1159 rfl dX12_goesBy_165 (fun v14 hf => ?_)
        refine g_iload_n X dX12_goesBy_168 1 rfl ?_
        refine g_callS (n := 1) (av := [tI x1]) (rest := [tI v14, tI v13, tI v12, tR x0]) X hf (fun v15 => (some (tI v15), h)) (fun _ q => m_X12_bits q) (gdS tb_1369 tb_1370 tb_12 tb_1371) rfl (by decide +kernel) rfl (by decide) (by decide) rfl (Nat.le_of_ble_eq_true rfl) dX12_goesBy_169 (fun v15 hf => ?_)
        refine g_callV (n := 4) (av := [tI v12, tI v13, tI v14, tI v15]) (rest := []) (k := 12) X hf (fun p16 => (some (tI p16.1), p16.2)) (fun _ q => m_X12_isEnough q) (gdV tb_1454 tb_1455 tb_1722 tb_12 tb_1456) rfl (by decide +kernel) rfl (by decide) rfl (by decide) (by decide) rfl (Nat.le_of_ble_eq_true rfl) dX12_goesBy_172 (fun p16 hf => ?_)
        refine g_ifeq (tgt := 185) X hf dX12_goesBy_175 (by decide) (fun hf => ?_) (fun hf => ?_)
        · refine g_iconst (v := (-1)) X dX12_goesBy_185 (by decide) ?_
          exact g_ireturn X (zW hf) (by decide) (by decide) dX12_goesBy_186
        · refine g_aload_n X dX12_goesBy_178 0 rfl ?_
          refine g_getI X hf (T := TX12) rfl (by decide) (by decide) in_RX12 tb_1158 rfl dX12_goesBy_179 (fun v17 hf => ?_)
          refine g_goto (tgt := 186) X dX12_goesBy_182 (by decide) ?_
          exact g_ireturn X (zW hf) (by decide) (by decide) dX12_goesBy_186
      · refine g_iconst (v := (-1)) X dX12_goesBy_185 (by decide) ?_
        exact g_ireturn X (zW hf) (by decide) (by decide) dX12_goesBy_186
def b_X12_goesBy_28    : Nat → Option Nat → Int32 → AH → Option (Int32 × AH)
  | 0 => fun _ _ _ => none
  | n + 1 => fun x0 x1 h =>
    (gR 12 0 h x0).bind fun v1 =>
    (aI h v1 2).bind fun v2 =>
    if x1 < v2 then
      (gR 12 27 h x0).bind fun v3 =>
      (aI h v3 x1).bind fun v4 =>
      if v4 < 0 then
        b_X12_goesBy_28 n x0 (x1 + 1) h
      else
        (gR 12 19 h x0).bind fun v5 =>
        (gR 12 27 h x0).bind fun v6 =>
        (aI h v6 x1).bind fun v7 =>
        (aI h v5 v7).bind fun v8 =>
        (sI h v5 v7 (v8 + 1)).bind fun h9 =>
        (gI 12 22 h9 x0).bind fun v10 =>
        (pI 12 22 h9 x0 (v10 + 1)).bind fun h11 =>
        b_X12_goesBy_28 n x0 (x1 + 1) h11
    else
      (ck 12 h x0 (f_X12_rank x0 h)).bind fun h12 =>
      b_X12_goesBy_86 FU x0 0 0 h12
set_option maxRecDepth 20000 in
theorem w_X12_goesBy_28 {K : KT} {w : (Int32 × AH)}   (X : CX K cX12_goesBy RX12 TB (some .int) "goesBy" (rmD 40 0 0) 3 0 0)  : ∀ (n : Nat) (x0 : Option Nat) (x1 : Int32) (h : AH), b_X12_goesBy_28 n x0 x1 h = some w → GG K (some (tI w.1), w.2) 0 0 28 [(0, tR x0), (1, tI x1)] [] h := by
  intro n
  induction n with
  | zero =>
    intro x0 x1 h hf
    cases (show none = some w from hf)
  | succ n ih =>
    intro x0 x1 h hf
    rw [b_X12_goesBy_28] at hf
    refine g_iload_n X dX12_goesBy_28 1 rfl ?_
    refine g_aload_n X dX12_goesBy_29 0 rfl ?_
    refine g_getR X hf (T := TX12) rfl (by decide) (by decide) in_RX12 tb_1135 rfl dX12_goesBy_30 (fun v1 hf => ?_)
    refine g_iconst (v := 2) X dX12_goesBy_33 (by decide) ?_
    refine g_iaload X hf dX12_goesBy_34 (fun v2 hf => ?_)
    refine g_icmpge (tgt := 78) X hf dX12_goesBy_35 (by decide) (fun hf => ?_) (fun hf => ?_)
    · refine g_aload_n X dX12_goesBy_38 0 rfl ?_
      refine g_getR X hf (T := TX12) rfl (by decide) (by decide) in_RX12 tb_1162 rfl dX12_goesBy_39 (fun v3 hf => ?_)
      refine g_iload_n X dX12_goesBy_42 1 rfl ?_
      refine g_iaload X hf dX12_goesBy_43 (fun v4 hf => ?_)
      refine g_iflt (tgt := 72) X hf dX12_goesBy_44 (by decide) (fun hf => ?_) (fun hf => ?_)
      · refine g_iinc (v := (x1 + 1)) (lv' := [(0, tR x0), (1, tI (x1 + 1))]) X dX12_goesBy_72 1 rfl (by rfl) (by decide) (in_pick [1, 0] rfl) ?_
        refine g_goto (tgt := 28) X dX12_goesBy_75 (by decide) ?_
        exact ih x0 (x1 + 1) h hf
      · refine g_aload_n X dX12_goesBy_47 0 rfl ?_
        refine g_getR X hf (T := TX12) rfl (by decide) (by decide) in_RX12 tb_1154 rfl dX12_goesBy_48 (fun v5 hf => ?_)
        refine g_aload_n X dX12_goesBy_51 0 rfl ?_
        refine g_getR X hf (T := TX12) rfl (by decide) (by decide) in_RX12 tb_1162 rfl dX12_goesBy_52 (fun v6 hf => ?_)
        refine g_iload_n X dX12_goesBy_55 1 rfl ?_
        refine g_iaload X hf dX12_goesBy_56 (fun v7 hf => ?_)
        refine g_dup2 X dX12_goesBy_57 rfl rfl ?_
        refine g_iaload X hf dX12_goesBy_58 (fun v8 hf => ?_)
        refine g_iconst (v := 1) X dX12_goesBy_59 (by decide) ?_
        refine g_iadd X dX12_goesBy_60 ?_
        refine g_iastore X hf dX12_goesBy_61 (fun h9 hf => ?_)
        refine g_aload_n X dX12_goesBy_62 0 rfl ?_
        refine g_dup X dX12_goesBy_63 rfl ?_
        refine g_getI X hf (T := TX12) rfl (by decide) (by decide) in_RX12 tb_1157 rfl dX12_goesBy_64 (fun v10 hf => ?_)
        refine g_iconst (v := 1) X dX12_goesBy_67 (by decide) ?_
        refine g_iadd X dX12_goesBy_68 ?_
        refine g_putI X hf (T := TX12) rfl (by decide) (by decide) in_RX12 tyX12 tyX12_ok nmX12 tb_1157 rfl rfl rfl dX12_goesBy_69 (fun h11 hf => ?_)
        refine g_iinc (v := (x1 + 1)) (lv' := [(0, tR x0), (1, tI (x1 + 1))]) X dX12_goesBy_72 1 rfl (by rfl) (by decide) (in_pick [1, 0] rfl) ?_
        refine g_goto (tgt := 28) X dX12_goesBy_75 (by decide) ?_
        exact ih x0 (x1 + 1) h11 hf
    · refine g_aload_n X dX12_goesBy_78 0 rfl ?_
      refine g_callV (n := 0) (av := []) (rest := []) (k := 12) X hf (fun h12 => (none, h12)) (fun _ q => m_X12_rank q) (gdV tb_1448 tb_1449 tb_1720 tb_12 tb_1450) rfl (by decide +kernel) rfl (by decide) rfl (by decide) (by decide) rfl (Nat.le_of_ble_eq_true rfl) dX12_goesBy_79 (fun h12 hf => ?_)
      refine g_iconst (v := 0) X dX12_goesBy_82 (by decide) ?_
      refine g_istore_n (lv' := [(0, tR x0), (1, tI 0)]) X dX12_goesBy_83 (by decide) (in_pick [1, 0] rfl) ?_
      refine g_iconst (v := 0) X dX12_goesBy_84 (by decide) ?_
      refine g_istore_n (lv' := [(0, tR x0), (1, tI 0), (2, tI 0)]) X dX12_goesBy_85 (by decide) (in_pick [1, 2, 0] rfl) ?_
      exact w_X12_goesBy_86 X FU x0 0 0 h12 hf
def b_X12_goesBy_7    : Nat → Option Nat → Int32 → AH → Option (Int32 × AH)
  | 0 => fun _ _ _ => none
  | n + 1 => fun x0 x1 h =>
    if x1 < 16 then
      (gR 12 19 h x0).bind fun v1 =>
      (sI h v1 x1 0).bind fun h2 =>
      b_X12_goesBy_7 n x0 (x1 + 1) h2
    else
      b_X12_goesBy_28 FU x0 0 h
set_option maxRecDepth 20000 in
theorem w_X12_goesBy_7 {K : KT} {w : (Int32 × AH)}   (X : CX K cX12_goesBy RX12 TB (some .int) "goesBy" (rmD 40 0 0) 3 0 0)  : ∀ (n : Nat) (x0 : Option Nat) (x1 : Int32) (h : AH), b_X12_goesBy_7 n x0 x1 h = some w → GG K (some (tI w.1), w.2) 0 0 7 [(0, tR x0), (1, tI x1)] [] h := by
  intro n
  induction n with
  | zero =>
    intro x0 x1 h hf
    cases (show none = some w from hf)
  | succ n ih =>
    intro x0 x1 h hf
    rw [b_X12_goesBy_7] at hf
    refine g_iload_n X dX12_goesBy_7 1 rfl ?_
    refine g_bipush (v := 16) X dX12_goesBy_8 (by decide) ?_
    refine g_icmpge (tgt := 26) X hf dX12_goesBy_10 (by decide) (fun hf => ?_) (fun hf => ?_)
    · refine g_aload_n X dX12_goesBy_13 0 rfl ?_
      refine g_getR X hf (T := TX12) rfl (by decide) (by decide) in_RX12 tb_1154 rfl dX12_goesBy_14 (fun v1 hf => ?_)
      refine g_iload_n X dX12_goesBy_17 1 rfl ?_
      refine g_iconst (v := 0) X dX12_goesBy_18 (by decide) ?_
      refine g_iastore X hf dX12_goesBy_19 (fun h2 hf => ?_)
      refine g_iinc (v := (x1 + 1)) (lv' := [(0, tR x0), (1, tI (x1 + 1))]) X dX12_goesBy_20 1 rfl (by rfl) (by decide) (in_pick [1, 0] rfl) ?_
      refine g_goto (tgt := 7) X dX12_goesBy_23 (by decide) ?_
      exact ih x0 (x1 + 1) h2 hf
    · refine g_iconst (v := 0) X dX12_goesBy_26 (by decide) ?_
      refine g_istore_n (lv' := [(0, tR x0), (1, tI 0)]) X dX12_goesBy_27 (by decide) (in_pick [1, 0] rfl) ?_
      exact w_X12_goesBy_28 X FU x0 0 h hf
def f_X12_goesBy  (a0 : Option Nat) (h : AH) : Option (Int32 × AH) :=
  (pI 12 22 h a0 0).bind fun h1 =>
  b_X12_goesBy_7 FU a0 0 h1
set_option maxRecDepth 20000 in
theorem m_X12_goesBy  {a0 : Option Nat} {h : AH} {w : (Int32 × AH)} (hf : f_X12_goesBy a0 h = some w) : CT yX12_goesBy (wU yX12_goesBy cX12_goesBy 3 (some .int)) (rmD 40 0 0) 0 0 [tR a0] h (some (tI w.1), w.2) := by
  refine CT.of (cc := cX12_goesBy) (nL := 3) (ret := (some .int)) (by decide) (by simp [lg_sl, vOf_cat, wOf]) ?_
  intro K X
  refine g_locs (lv' := [(0, tR a0)]) (fun q hq => hq) ?_
  unfold f_X12_goesBy at hf
  refine g_aload_n X dX12_goesBy_0 0 rfl ?_
  refine g_iconst (v := 0) X dX12_goesBy_1 (by decide) ?_
  refine g_putI X hf (T := TX12) rfl (by decide) (by decide) in_RX12 tyX12 tyX12_ok nmX12 tb_1157 rfl rfl rfl dX12_goesBy_2 (fun h1 hf => ?_)
  refine g_iconst (v := 0) X dX12_goesBy_5 (by decide) ?_
  refine g_istore_n (lv' := [(0, tR a0), (1, tI 0)]) X dX12_goesBy_6 (by decide) (in_pick [1, 0] rfl) ?_
  exact w_X12_goesBy_7 X FU a0 0 h1 hf
def b_X12_beside_13   (x0 : Option Nat) (x1 : Int32) (x2 : Int32) (h : AH) : Option (Int32 × AH) :=
  (f_X12_isDay x2 h).bind fun v1 =>
  if v1 = 0 then
    some ((-1), h)
  else
    (ck 12 h x0 (f_X12_castAll x0 x2 x1 h)).bind fun h2 =>
    (ck 12 h2 x0 (f_X12_goesBy x0 h2)).bind fun p3 =>
    if p3.1 < 0 then
      some ((-3), p3.2)
    else
      some (p3.1, p3.2)
set_option maxRecDepth 20000 in
theorem w_X12_beside_13 {K : KT} {w : (Int32 × AH)}   (X : CX K cX12_beside RX12 TB (some .int) "beside" (rmD 41 0 0) 4 0 0)  (x0 : Option Nat) (x1 : Int32) (x2 : Int32) (h : AH) (hf : b_X12_beside_13 x0 x1 x2 h = some w) : GG K (some (tI w.1), w.2) 0 0 13 [(0, tR x0), (1, tI x1), (2, tI x2)] [] h := by
  unfold b_X12_beside_13 at hf
  refine g_iload_n X dX12_beside_13 2 rfl ?_
  refine g_callS (n := 1) (av := [tI x2]) (rest := []) X hf (fun v1 => (some (tI v1), h)) (fun _ q => m_X12_isDay q) (gdS tb_1239 tb_1240 tb_12 tb_1241) rfl (by decide +kernel) rfl (by decide) (by decide) rfl (Nat.le_of_ble_eq_true rfl) dX12_beside_14 (fun v1 hf => ?_)
  refine g_ifne (tgt := 22) X hf dX12_beside_17 (by decide) (fun hf => ?_) (fun hf => ?_)
  · refine g_iconst (v := (-1)) X dX12_beside_20 (by decide) ?_
    exact g_ireturn X (zW hf) (by decide) (by decide) dX12_beside_21
  · refine g_aload_n X dX12_beside_22 0 rfl ?_
    refine g_iload_n X dX12_beside_23 2 rfl ?_
    refine g_iload_n X dX12_beside_24 1 rfl ?_
    refine g_callV (n := 2) (av := [tI x2, tI x1]) (rest := []) (k := 12) X hf (fun h2 => (none, h2)) (fun _ q => m_X12_castAll q) (gdV tb_1488 tb_1489 tb_1724 tb_12 tb_1490) rfl (by decide +kernel) rfl (by decide) rfl (by decide) (by decide) rfl (Nat.le_of_ble_eq_true rfl) dX12_beside_25 (fun h2 hf => ?_)
    refine g_aload_n X dX12_beside_28 0 rfl ?_
    refine g_callV (n := 0) (av := []) (rest := []) (k := 12) X hf (fun p3 => (some (tI p3.1), p3.2)) (fun _ q => m_X12_goesBy q) (gdV tb_1491 tb_1492 tb_1725 tb_12 tb_1493) rfl (by decide +kernel) rfl (by decide) rfl (by decide) (by decide) rfl (Nat.le_of_ble_eq_true rfl) dX12_beside_29 (fun p3 hf => ?_)
    refine g_istore_n (lv' := [(0, tR x0), (1, tI x1), (2, tI x2), (3, tI p3.1)]) X dX12_beside_32 (by decide) (in_pick [1, 2, 3, 0] rfl) ?_
    refine g_iload_n X dX12_beside_33 3 rfl ?_
    refine g_ifge (tgt := 42) X hf dX12_beside_34 (by decide) (fun hf => ?_) (fun hf => ?_)
    · refine g_bipush (v := (-3)) X dX12_beside_37 (by decide) ?_
      refine g_goto (tgt := 43) X dX12_beside_39 (by decide) ?_
      exact g_ireturn X (zW hf) (by decide) (by decide) dX12_beside_43
    · refine g_iload_n X dX12_beside_42 3 rfl ?_
      exact g_ireturn X (zW hf) (by decide) (by decide) dX12_beside_43
def f_X12_beside  (a0 : Option Nat) (a1 : Int32) (a2 : Int32) (h : AH) : Option (Int32 × AH) :=
  if a1 = (-1) then
    b_X12_beside_13 a0 a1 a2 h
  else
    (ck 12 h a0 (f_X12_isMan a0 a1 h)).bind fun v1 =>
    if v1 = 0 then
      some ((-1), h)
    else
      b_X12_beside_13 a0 a1 a2 h
set_option maxRecDepth 20000 in
theorem m_X12_beside  {a0 : Option Nat} {a1 : Int32} {a2 : Int32} {h : AH} {w : (Int32 × AH)} (hf : f_X12_beside a0 a1 a2 h = some w) : CT yX12_beside (wU yX12_beside cX12_beside 4 (some .int)) (rmD 41 0 0) 0 0 [tR a0, tI a1, tI a2] h (some (tI w.1), w.2) := by
  refine CT.of (cc := cX12_beside) (nL := 4) (ret := (some .int)) (by decide) (by simp [lg_sl, vOf_cat, wOf]) ?_
  intro K X
  refine g_locs (lv' := [(0, tR a0), (1, tI a1), (2, tI a2)]) (fun q hq => hq) ?_
  unfold f_X12_beside at hf
  refine g_iload_n X dX12_beside_0 1 rfl ?_
  refine g_iconst (v := (-1)) X dX12_beside_1 (by decide) ?_
  refine g_icmpeq (tgt := 13) X hf dX12_beside_2 (by decide) (fun hf => ?_) (fun hf => ?_)
  · exact w_X12_beside_13 X a0 a1 a2 h hf
  · refine g_aload_n X dX12_beside_5 0 rfl ?_
    refine g_iload_n X dX12_beside_6 1 rfl ?_
    refine g_callV (n := 1) (av := [tI a1]) (rest := []) (k := 12) X hf (fun v1 => (some (tI v1), h)) (fun _ q => m_X12_isMan q) (gdV tb_1267 tb_1268 tb_1691 tb_12 tb_1269) rfl (by decide +kernel) rfl (by decide) rfl (by decide) (by decide) rfl (Nat.le_of_ble_eq_true rfl) dX12_beside_7 (fun v1 hf => ?_)
    refine g_ifeq (tgt := 20) X hf dX12_beside_10 (by decide) (fun hf => ?_) (fun hf => ?_)
    · refine g_iconst (v := (-1)) X dX12_beside_20 (by decide) ?_
      exact g_ireturn X (zW hf) (by decide) (by decide) dX12_beside_21
    · exact w_X12_beside_13 X a0 a1 a2 h hf
def b_X12_keptBy_100  (k17 : Option Nat → Int32 → Int32 → AH → Option (Int32 × AH)) (x0 : Option Nat) (x1 : Int32) (x2 : Int32) (s0 : Option Nat) (s1 : Int32) (s2 : Int32) (h : AH) : Option (Int32 × AH) :=
  (sI h s0 s1 s2).bind fun h1 =>
  k17 x0 x1 (x2 + 1) h1
set_option maxRecDepth 20000 in
theorem w_X12_keptBy_100 {K : KT} {w : (Int32 × AH)} {k17 : Option Nat → Int32 → Int32 → AH → Option (Int32 × AH)}  (X : CX K cX12_keptBy RX12 TB (some .int) "keptBy" (rmD 41 0 0) 4 0 0) (hk17 : ∀ (x0 : Option Nat) (x1 : Int32) (x2 : Int32) (h : AH), k17 x0 x1 x2 h = some w → GG K (some (tI w.1), w.2) 0 0 17 [(0, tR x0), (1, tI x1), (2, tI x2)] [] h) (x0 : Option Nat) (x1 : Int32) (x2 : Int32) (s0 : Option Nat) (s1 : Int32) (s2 : Int32) (h : AH) (hf : b_X12_keptBy_100 k17 x0 x1 x2 s0 s1 s2 h = some w) : GG K (some (tI w.1), w.2) 0 0 100 [(0, tR x0), (1, tI x1), (2, tI x2)] [tI s2, tI s1, tR s0] h := by
  unfold b_X12_keptBy_100 at hf
  refine g_iastore X hf dX12_keptBy_100 (fun h1 hf => ?_)
  refine g_iinc (v := (x2 + 1)) (lv' := [(0, tR x0), (1, tI x1), (2, tI (x2 + 1))]) X dX12_keptBy_101 2 rfl (by rfl) (by decide) (in_pick [1, 2, 0] rfl) ?_
  refine g_goto (tgt := 17) X dX12_keptBy_104 (by decide) ?_
  exact hk17 x0 x1 (x2 + 1) h1 hf
def b_X12_keptBy_94  (k17 : Option Nat → Int32 → Int32 → AH → Option (Int32 × AH)) (x0 : Option Nat) (x1 : Int32) (x2 : Int32) (s0 : Option Nat) (s1 : Int32) (h : AH) : Option (Int32 × AH) :=
  (gR 12 27 h x0).bind fun v1 =>
  (aI h v1 x2).bind fun v2 =>
  b_X12_keptBy_100 k17 x0 x1 x2 s0 s1 v2 h
set_option maxRecDepth 20000 in
theorem w_X12_keptBy_94 {K : KT} {w : (Int32 × AH)} {k17 : Option Nat → Int32 → Int32 → AH → Option (Int32 × AH)}  (X : CX K cX12_keptBy RX12 TB (some .int) "keptBy" (rmD 41 0 0) 4 0 0) (hk17 : ∀ (x0 : Option Nat) (x1 : Int32) (x2 : Int32) (h : AH), k17 x0 x1 x2 h = some w → GG K (some (tI w.1), w.2) 0 0 17 [(0, tR x0), (1, tI x1), (2, tI x2)] [] h) (x0 : Option Nat) (x1 : Int32) (x2 : Int32) (s0 : Option Nat) (s1 : Int32) (h : AH) (hf : b_X12_keptBy_94 k17 x0 x1 x2 s0 s1 h = some w) : GG K (some (tI w.1), w.2) 0 0 94 [(0, tR x0), (1, tI x1), (2, tI x2)] [tI s1, tR s0] h := by
  unfold b_X12_keptBy_94 at hf
  refine g_aload_n X dX12_keptBy_94 0 rfl ?_
  refine g_getR X hf (T := TX12) rfl (by decide) (by decide) in_RX12 tb_1162 rfl dX12_keptBy_95 (fun v1 hf => ?_)
  refine g_iload_n X dX12_keptBy_98 2 rfl ?_
  refine g_iaload X hf dX12_keptBy_99 (fun v2 hf => ?_)
  exact w_X12_keptBy_100 X hk17 x0 x1 x2 s0 s1 v2 h hf
def b_X12_keptBy_57  (k17 : Option Nat → Int32 → Int32 → AH → Option (Int32 × AH)) (x0 : Option Nat) (x1 : Int32) (x2 : Int32) (s0 : Int32) (h : AH) : Option (Int32 × AH) :=
  (gR 12 27 h x0).bind fun v1 =>
  if s0 < 0 then
    b_X12_keptBy_94 k17 x0 x1 x2 v1 x2 h
  else
    if s0 = x2 then
      b_X12_keptBy_94 k17 x0 x1 x2 v1 x2 h
    else
      (ck 12 h x0 (f_X12_isSent x0 s0 x1 h)).bind fun v2 =>
      if v2 = 0 then
        (ck 12 h x0 (f_X12_doesCome x0 x2 x1 h)).bind fun v3 =>
        if v3 = 0 then
          b_X12_keptBy_94 k17 x0 x1 x2 v1 x2 h
        else
          b_X12_keptBy_100 k17 x0 x1 x2 v1 x2 s0 h
      else
        b_X12_keptBy_94 k17 x0 x1 x2 v1 x2 h
set_option maxRecDepth 20000 in
theorem w_X12_keptBy_57 {K : KT} {w : (Int32 × AH)} {k17 : Option Nat → Int32 → Int32 → AH → Option (Int32 × AH)}  (X : CX K cX12_keptBy RX12 TB (some .int) "keptBy" (rmD 41 0 0) 4 0 0) (hk17 : ∀ (x0 : Option Nat) (x1 : Int32) (x2 : Int32) (h : AH), k17 x0 x1 x2 h = some w → GG K (some (tI w.1), w.2) 0 0 17 [(0, tR x0), (1, tI x1), (2, tI x2)] [] h) (x0 : Option Nat) (x1 : Int32) (x2 : Int32) (s0 : Int32) (h : AH) (hf : b_X12_keptBy_57 k17 x0 x1 x2 s0 h = some w) : GG K (some (tI w.1), w.2) 0 0 57 [(0, tR x0), (1, tI x1), (2, tI x2)] [tI s0] h := by
  unfold b_X12_keptBy_57 at hf
  refine g_istore_n (lv' := [(0, tR x0), (1, tI x1), (2, tI x2), (3, tI s0)]) X dX12_keptBy_57 (by decide) (in_pick [1, 2, 3, 0] rfl) ?_
  refine g_aload_n X dX12_keptBy_58 0 rfl ?_
  refine g_getR X hf (T := TX12) rfl (by decide) (by decide) in_RX12 tb_1162 rfl dX12_keptBy_59 (fun v1 hf => ?_)
  refine g_iload_n X dX12_keptBy_62 2 rfl ?_
  refine g_iload_n X dX12_keptBy_63 3 rfl ?_
  refine g_iflt (tgt := 94) X hf dX12_keptBy_64 (by decide) (fun hf => ?_) (fun hf => ?_)
  · refine g_locs (lv' := [(0, tR x0), (1, tI x1), (2, tI x2)]) (in_pick [0, 1, 2] rfl) ?_
    exact w_X12_keptBy_94 X hk17 x0 x1 x2 v1 x2 h hf
  · refine g_iload_n X dX12_keptBy_67 3 rfl ?_
    refine g_iload_n X dX12_keptBy_68 2 rfl ?_
    refine g_icmpeq (tgt := 94) X hf dX12_keptBy_69 (by decide) (fun hf => ?_) (fun hf => ?_)
    · refine g_locs (lv' := [(0, tR x0), (1, tI x1), (2, tI x2)]) (in_pick [0, 1, 2] rfl) ?_
      exact w_X12_keptBy_94 X hk17 x0 x1 x2 v1 x2 h hf
    · refine g_aload_n X dX12_keptBy_72 0 rfl ?_
      refine g_iload_n X dX12_keptBy_73 3 rfl ?_
      refine g_iload_n X dX12_keptBy_74 1 rfl ?_
      refine g_callV (n := 2) (av := [tI s0, tI x1]) (rest := [tI x2, tR v1]) (k := 12) X hf (fun v2 => (some (tI v2), h)) (fun _ q => m_X12_isSent q) (gdV tb_1318 tb_1319 tb_1695 tb_12 tb_1320) rfl (by decide +kernel) rfl (by decide) rfl (by decide) (by decide) rfl (Nat.le_of_ble_eq_true rfl) dX12_keptBy_75 (fun v2 hf => ?_)
      refine g_ifne (tgt := 94) X hf dX12_keptBy_78 (by decide) (fun hf => ?_) (fun hf => ?_)
      · refine g_aload_n X dX12_keptBy_81 0 rfl ?_
        refine g_iload_n X dX12_keptBy_82 2 rfl ?_
        refine g_iload_n X dX12_keptBy_83 1 rfl ?_
        refine g_callV (n := 2) (av := [tI x2, tI x1]) (rest := [tI x2, tR v1]) (k := 12) X hf (fun v3 => (some (tI v3), h)) (fun _ q => m_X12_doesCome q) (gdV tb_1315 tb_1316 tb_1694 tb_12 tb_1317) rfl (by decide +kernel) rfl (by decide) rfl (by decide) (by decide) rfl (Nat.le_of_ble_eq_true rfl) dX12_keptBy_84 (fun v3 hf => ?_)
        refine g_ifeq (tgt := 94) X hf dX12_keptBy_87 (by decide) (fun hf => ?_) (fun hf => ?_)
        · refine g_locs (lv' := [(0, tR x0), (1, tI x1), (2, tI x2)]) (in_pick [0, 1, 2] rfl) ?_
          exact w_X12_keptBy_94 X hk17 x0 x1 x2 v1 x2 h hf
        · refine g_iload_n X dX12_keptBy_90 3 rfl ?_
          refine g_goto (tgt := 100) X dX12_keptBy_91 (by decide) ?_
          refine g_locs (lv' := [(0, tR x0), (1, tI x1), (2, tI x2)]) (in_pick [0, 1, 2] rfl) ?_
          exact w_X12_keptBy_100 X hk17 x0 x1 x2 v1 x2 s0 h hf
      · refine g_locs (lv' := [(0, tR x0), (1, tI x1), (2, tI x2)]) (in_pick [0, 1, 2] rfl) ?_
        exact w_X12_keptBy_94 X hk17 x0 x1 x2 v1 x2 h hf
def b_X12_keptBy_17    : Nat → Option Nat → Int32 → Int32 → AH → Option (Int32 × AH)
  | 0 => fun _ _ _ _ => none
  | n + 1 => fun x0 x1 x2 h =>
    (gR 12 0 h x0).bind fun v1 =>
    (aI h v1 2).bind fun v2 =>
    if x2 < v2 then
      (gR 12 0 h x0).bind fun v3 =>
      (aI h v3 (91 + x2)).bind fun v4 =>
      if v4 < 0 then
        b_X12_keptBy_57 (b_X12_keptBy_17 n) x0 x1 x2 (-1) h
      else
        (gR 12 0 h x0).bind fun v5 =>
        (aI h v5 (91 + x2)).bind fun v6 =>
        (ck 12 h x0 (f_X12_boundTo x0 v6 x1 h)).bind fun v7 =>
        b_X12_keptBy_57 (b_X12_keptBy_17 n) x0 x1 x2 v7 h
    else
      (ck 12 h x0 (f_X12_goesBy x0 h)).bind fun p8 =>
      if p8.1 < 0 then
        some ((-3), p8.2)
      else
        some (p8.1, p8.2)
set_option maxRecDepth 20000 in
theorem w_X12_keptBy_17 {K : KT} {w : (Int32 × AH)}   (X : CX K cX12_keptBy RX12 TB (some .int) "keptBy" (rmD 41 0 0) 4 0 0)  : ∀ (n : Nat) (x0 : Option Nat) (x1 : Int32) (x2 : Int32) (h : AH), b_X12_keptBy_17 n x0 x1 x2 h = some w → GG K (some (tI w.1), w.2) 0 0 17 [(0, tR x0), (1, tI x1), (2, tI x2)] [] h := by
  intro n
  induction n with
  | zero =>
    intro x0 x1 x2 h hf
    cases (show none = some w from hf)
  | succ n ih =>
    intro x0 x1 x2 h hf
    rw [b_X12_keptBy_17] at hf
    refine g_iload_n X dX12_keptBy_17 2 rfl ?_
    refine g_aload_n X dX12_keptBy_18 0 rfl ?_
    refine g_getR X hf (T := TX12) rfl (by decide) (by decide) in_RX12 tb_1135 rfl dX12_keptBy_19 (fun v1 hf => ?_)
    refine g_iconst (v := 2) X dX12_keptBy_22 (by decide) ?_
    refine g_iaload X hf dX12_keptBy_23 (fun v2 hf => ?_)
    refine g_icmpge (tgt := 107) X hf dX12_keptBy_24 (by decide) (fun hf => ?_) (fun hf => ?_)
    · refine g_aload_n X dX12_keptBy_27 0 rfl ?_
      refine g_getR X hf (T := TX12) rfl (by decide) (by decide) in_RX12 tb_1135 rfl dX12_keptBy_28 (fun v3 hf => ?_)
      refine g_bipush (v := 91) X dX12_keptBy_31 (by decide) ?_
      refine g_iload_n X dX12_keptBy_33 2 rfl ?_
      refine g_iadd X dX12_keptBy_34 ?_
      refine g_iaload X hf dX12_keptBy_35 (fun v4 hf => ?_)
      refine g_ifge (tgt := 43) X hf dX12_keptBy_36 (by decide) (fun hf => ?_) (fun hf => ?_)
      · refine g_iconst (v := (-1)) X dX12_keptBy_39 (by decide) ?_
        refine g_goto (tgt := 57) X dX12_keptBy_40 (by decide) ?_
        exact w_X12_keptBy_57 X ih x0 x1 x2 (-1) h hf
      · refine g_aload_n X dX12_keptBy_43 0 rfl ?_
        refine g_aload_n X dX12_keptBy_44 0 rfl ?_
        refine g_getR X hf (T := TX12) rfl (by decide) (by decide) in_RX12 tb_1135 rfl dX12_keptBy_45 (fun v5 hf => ?_)
        refine g_bipush (v := 91) X dX12_keptBy_48 (by decide) ?_
        refine g_iload_n X dX12_keptBy_50 2 rfl ?_
        refine g_iadd X dX12_keptBy_51 ?_
        refine g_iaload X hf dX12_keptBy_52 (fun v6 hf => ?_)
        refine g_iload_n X dX12_keptBy_53 1 rfl ?_
        refine g_callV (n := 2) (av := [tI v6, tI x1]) (rest := []) (k := 12) X hf (fun v7 => (some (tI v7), h)) (fun _ q => m_X12_boundTo q) (gdV tb_1308 tb_1309 tb_1693 tb_12 tb_1310) rfl (by decide +kernel) rfl (by decide) rfl (by decide) (by decide) rfl (Nat.le_of_ble_eq_true rfl) dX12_keptBy_54 (fun v7 hf => ?_)
        exact w_X12_keptBy_57 X ih x0 x1 x2 v7 h hf
    · refine g_aload_n X dX12_keptBy_107 0 rfl ?_
      refine g_callV (n := 0) (av := []) (rest := []) (k := 12) X hf (fun p8 => (some (tI p8.1), p8.2)) (fun _ q => m_X12_goesBy q) (gdV tb_1491 tb_1492 tb_1725 tb_12 tb_1493) rfl (by decide +kernel) rfl (by decide) rfl (by decide) (by decide) rfl (Nat.le_of_ble_eq_true rfl) dX12_keptBy_108 (fun p8 hf => ?_)
      refine g_istore_n (lv' := [(0, tR x0), (1, tI x1), (2, tI p8.1)]) X dX12_keptBy_111 (by decide) (in_pick [1, 2, 0] rfl) ?_
      refine g_iload_n X dX12_keptBy_112 2 rfl ?_
      refine g_ifge (tgt := 121) X hf dX12_keptBy_113 (by decide) (fun hf => ?_) (fun hf => ?_)
      · refine g_bipush (v := (-3)) X dX12_keptBy_116 (by decide) ?_
        refine g_goto (tgt := 122) X dX12_keptBy_118 (by decide) ?_
        exact g_ireturn X (zW hf) (by decide) (by decide) dX12_keptBy_122
      · refine g_iload_n X dX12_keptBy_121 2 rfl ?_
        exact g_ireturn X (zW hf) (by decide) (by decide) dX12_keptBy_122
def f_X12_keptBy  (a0 : Option Nat) (a1 : Int32) (h : AH) : Option (Int32 × AH) :=
  (f_X12_isDay a1 h).bind fun v1 =>
  if v1 = 0 then
    some ((-1), h)
  else
    (ck 12 h a0 (f_X12_castAll a0 a1 (-1) h)).bind fun h2 =>
    b_X12_keptBy_17 FU a0 a1 0 h2
set_option maxRecDepth 20000 in
theorem m_X12_keptBy  {a0 : Option Nat} {a1 : Int32} {h : AH} {w : (Int32 × AH)} (hf : f_X12_keptBy a0 a1 h = some w) : CT yX12_keptBy (wU yX12_keptBy cX12_keptBy 4 (some .int)) (rmD 41 0 0) 0 0 [tR a0, tI a1] h (some (tI w.1), w.2) := by
  refine CT.of (cc := cX12_keptBy) (nL := 4) (ret := (some .int)) (by decide) (by simp [lg_sl, vOf_cat, wOf]) ?_
  intro K X
  refine g_locs (lv' := [(0, tR a0), (1, tI a1)]) (fun q hq => hq) ?_
  unfold f_X12_keptBy at hf
  refine g_iload_n X dX12_keptBy_0 1 rfl ?_
  refine g_callS (n := 1) (av := [tI a1]) (rest := []) X hf (fun v1 => (some (tI v1), h)) (fun _ q => m_X12_isDay q) (gdS tb_1239 tb_1240 tb_12 tb_1241) rfl (by decide +kernel) rfl (by decide) (by decide) rfl (Nat.le_of_ble_eq_true rfl) dX12_keptBy_1 (fun v1 hf => ?_)
  refine g_ifne (tgt := 9) X hf dX12_keptBy_4 (by decide) (fun hf => ?_) (fun hf => ?_)
  · refine g_iconst (v := (-1)) X dX12_keptBy_7 (by decide) ?_
    exact g_ireturn X (zW hf) (by decide) (by decide) dX12_keptBy_8
  · refine g_aload_n X dX12_keptBy_9 0 rfl ?_
    refine g_iload_n X dX12_keptBy_10 1 rfl ?_
    refine g_iconst (v := (-1)) X dX12_keptBy_11 (by decide) ?_
    refine g_callV (n := 2) (av := [tI a1, tI (-1)]) (rest := []) (k := 12) X hf (fun h2 => (none, h2)) (fun _ q => m_X12_castAll q) (gdV tb_1488 tb_1489 tb_1724 tb_12 tb_1490) rfl (by decide +kernel) rfl (by decide) rfl (by decide) (by decide) rfl (Nat.le_of_ble_eq_true rfl) dX12_keptBy_12 (fun h2 hf => ?_)
    refine g_iconst (v := 0) X dX12_keptBy_15 (by decide) ?_
    refine g_istore_n (lv' := [(0, tR a0), (1, tI a1), (2, tI 0)]) X dX12_keptBy_16 (by decide) (in_pick [1, 2, 0] rfl) ?_
    exact w_X12_keptBy_17 X FU a0 a1 0 h2 hf
def b_X12_broken_85  (k37 : Option Nat → Int32 → Int32 → Int32 → Int32 → Int32 → AH → Option (Int32 × AH)) (x0 : Option Nat) (x1 : Int32) (x2 : Int32) (x3 : Int32) (x5 : Int32) (s0 : Int32) (s1 : Int32) (h : AH) : Option (Int32 × AH) :=
  k37 x0 x1 x2 x3 (s0 + s1) (x5 + 1) h
set_option maxRecDepth 20000 in
theorem w_X12_broken_85 {K : KT} {w : (Int32 × AH)} {k37 : Option Nat → Int32 → Int32 → Int32 → Int32 → Int32 → AH → Option (Int32 × AH)}  (X : CX K cX12_broken RX12 TB (some .int) "broken" (rmD 41 0 0) 6 0 0) (hk37 : ∀ (x0 : Option Nat) (x1 : Int32) (x2 : Int32) (x3 : Int32) (x4 : Int32) (x5 : Int32) (h : AH), k37 x0 x1 x2 x3 x4 x5 h = some w → GG K (some (tI w.1), w.2) 0 0 37 [(0, tR x0), (1, tI x1), (2, tI x2), (3, tI x3), (4, tI x4), (5, tI x5)] [] h) (x0 : Option Nat) (x1 : Int32) (x2 : Int32) (x3 : Int32) (x5 : Int32) (s0 : Int32) (s1 : Int32) (h : AH) (hf : b_X12_broken_85 k37 x0 x1 x2 x3 x5 s0 s1 h = some w) : GG K (some (tI w.1), w.2) 0 0 85 [(0, tR x0), (1, tI x1), (2, tI x2), (3, tI x3), (5, tI x5)] [tI s1, tI s0] h := by
  unfold b_X12_broken_85 at hf
  refine g_iadd X dX12_broken_85 ?_
  refine g_istore (lv' := [(0, tR x0), (1, tI x1), (2, tI x2), (3, tI x3), (4, tI (s0 + s1)), (5, tI x5)]) X dX12_broken_86 (by decide) (in_pick [1, 2, 3, 4, 0, 5] rfl) ?_
  refine g_iinc (v := (x5 + 1)) (lv' := [(0, tR x0), (1, tI x1), (2, tI x2), (3, tI x3), (4, tI (s0 + s1)), (5, tI (x5 + 1))]) X dX12_broken_88 5 rfl (by rfl) (by decide) (in_pick [1, 2, 3, 4, 5, 0] rfl) ?_
  refine g_goto (tgt := 37) X dX12_broken_91 (by decide) ?_
  exact hk37 x0 x1 x2 x3 (s0 + s1) (x5 + 1) h hf
def b_X12_broken_37    : Nat → Option Nat → Int32 → Int32 → Int32 → Int32 → Int32 → AH → Option (Int32 × AH)
  | 0 => fun _ _ _ _ _ _ _ => none
  | n + 1 => fun x0 x1 x2 x3 x4 x5 h =>
    (gR 12 0 h x0).bind fun v1 =>
    (aI h v1 2).bind fun v2 =>
    if x5 < v2 then
      (gR 12 0 h x0).bind fun v3 =>
      (aI h v3 (91 + x5)).bind fun v4 =>
      if v4 = x1 then
        if x5 = x3 then
          b_X12_broken_85 (b_X12_broken_37 n) x0 x1 x2 x3 x5 x4 0 h
        else
          (ck 12 h x0 (f_X12_doesCome x0 x5 x2 h)).bind fun v5 =>
          if v5 = 0 then
            b_X12_broken_85 (b_X12_broken_37 n) x0 x1 x2 x3 x5 x4 0 h
          else
            b_X12_broken_85 (b_X12_broken_37 n) x0 x1 x2 x3 x5 x4 1 h
      else
        b_X12_broken_85 (b_X12_broken_37 n) x0 x1 x2 x3 x5 x4 0 h
    else
      (ck 12 h x0 (f_X12_countAt x0 x2 h)).bind fun h6 =>
      (gR 12 20 h6 x0).bind fun v7 =>
      (aI h6 v7 x3).bind fun v8 =>
      if v8 < x4 then
        some (2, h6)
      else
        (gR 12 19 h6 x0).bind fun v9 =>
        (aI h6 v9 x3).bind fun v10 =>
        if v10 < x4 then
          some (1, h6)
        else
          some (0, h6)
set_option maxRecDepth 20000 in
theorem w_X12_broken_37 {K : KT} {w : (Int32 × AH)}   (X : CX K cX12_broken RX12 TB (some .int) "broken" (rmD 41 0 0) 6 0 0)  : ∀ (n : Nat) (x0 : Option Nat) (x1 : Int32) (x2 : Int32) (x3 : Int32) (x4 : Int32) (x5 : Int32) (h : AH), b_X12_broken_37 n x0 x1 x2 x3 x4 x5 h = some w → GG K (some (tI w.1), w.2) 0 0 37 [(0, tR x0), (1, tI x1), (2, tI x2), (3, tI x3), (4, tI x4), (5, tI x5)] [] h := by
  intro n
  induction n with
  | zero =>
    intro x0 x1 x2 x3 x4 x5 h hf
    cases (show none = some w from hf)
  | succ n ih =>
    intro x0 x1 x2 x3 x4 x5 h hf
    rw [b_X12_broken_37] at hf
    refine g_iload X dX12_broken_37 5 rfl ?_
    refine g_aload_n X dX12_broken_39 0 rfl ?_
    refine g_getR X hf (T := TX12) rfl (by decide) (by decide) in_RX12 tb_1135 rfl dX12_broken_40 (fun v1 hf => ?_)
    refine g_iconst (v := 2) X dX12_broken_43 (by decide) ?_
    refine g_iaload X hf dX12_broken_44 (fun v2 hf => ?_)
    refine g_icmpge (tgt := 94) X hf dX12_broken_45 (by decide) (fun hf => ?_) (fun hf => ?_)
    · refine g_iload X dX12_broken_48 4 rfl ?_
      refine g_aload_n X dX12_broken_50 0 rfl ?_
      refine g_getR X hf (T := TX12) rfl (by decide) (by decide) in_RX12 tb_1135 rfl dX12_broken_51 (fun v3 hf => ?_)
      refine g_bipush (v := 91) X dX12_broken_54 (by decide) ?_
      refine g_iload X dX12_broken_56 5 rfl ?_
      refine g_iadd X dX12_broken_58 ?_
      refine g_iaload X hf dX12_broken_59 (fun v4 hf => ?_)
      refine g_iload_n X dX12_broken_60 1 rfl ?_
      refine g_icmpne (tgt := 84) X hf dX12_broken_61 (by decide) (fun hf => ?_) (fun hf => ?_)
      · refine g_iload X dX12_broken_64 5 rfl ?_
        refine g_iload_n X dX12_broken_66 3 rfl ?_
        refine g_icmpeq (tgt := 84) X hf dX12_broken_67 (by decide) (fun hf => ?_) (fun hf => ?_)
        · refine g_iconst (v := 0) X dX12_broken_84 (by decide) ?_
          refine g_locs (lv' := [(0, tR x0), (1, tI x1), (2, tI x2), (3, tI x3), (5, tI x5)]) (in_pick [0, 1, 2, 3, 5] rfl) ?_
          exact w_X12_broken_85 X ih x0 x1 x2 x3 x5 x4 0 h hf
        · refine g_aload_n X dX12_broken_70 0 rfl ?_
          refine g_iload X dX12_broken_71 5 rfl ?_
          refine g_iload_n X dX12_broken_73 2 rfl ?_
          refine g_callV (n := 2) (av := [tI x5, tI x2]) (rest := [tI x4]) (k := 12) X hf (fun v5 => (some (tI v5), h)) (fun _ q => m_X12_doesCome q) (gdV tb_1315 tb_1316 tb_1694 tb_12 tb_1317) rfl (by decide +kernel) rfl (by decide) rfl (by decide) (by decide) rfl (Nat.le_of_ble_eq_true rfl) dX12_broken_74 (fun v5 hf => ?_)
          refine g_ifeq (tgt := 84) X hf dX12_broken_77 (by decide) (fun hf => ?_) (fun hf => ?_)
          · refine g_iconst (v := 0) X dX12_broken_84 (by decide) ?_
            refine g_locs (lv' := [(0, tR x0), (1, tI x1), (2, tI x2), (3, tI x3), (5, tI x5)]) (in_pick [0, 1, 2, 3, 5] rfl) ?_
            exact w_X12_broken_85 X ih x0 x1 x2 x3 x5 x4 0 h hf
          · refine g_iconst (v := 1) X dX12_broken_80 (by decide) ?_
            refine g_goto (tgt := 85) X dX12_broken_81 (by decide) ?_
            refine g_locs (lv' := [(0, tR x0), (1, tI x1), (2, tI x2), (3, tI x3), (5, tI x5)]) (in_pick [0, 1, 2, 3, 5] rfl) ?_
            exact w_X12_broken_85 X ih x0 x1 x2 x3 x5 x4 1 h hf
      · refine g_iconst (v := 0) X dX12_broken_84 (by decide) ?_
        refine g_locs (lv' := [(0, tR x0), (1, tI x1), (2, tI x2), (3, tI x3), (5, tI x5)]) (in_pick [0, 1, 2, 3, 5] rfl) ?_
        exact w_X12_broken_85 X ih x0 x1 x2 x3 x5 x4 0 h hf
    · refine g_aload_n X dX12_broken_94 0 rfl ?_
      refine g_iload_n X dX12_broken_95 2 rfl ?_
      refine g_callV (n := 1) (av := [tI x2]) (rest := []) (k := 12) X hf (fun h6 => (none, h6)) (fun _ q => m_X12_countAt q) (gdV tb_1445 tb_1446 tb_1719 tb_12 tb_1447) rfl (by decide +kernel) rfl (by decide) rfl (by decide) (by decide) rfl (Nat.le_of_ble_eq_true rfl) dX12_broken_96 (fun h6 hf => ?_)
      refine g_aload_n X dX12_broken_99 0 rfl ?_
      refine g_getR X hf (T := TX12) rfl (by decide) (by decide) in_RX12 tb_1155 rfl dX12_broken_100 (fun v7 hf => ?_)
      refine g_iload_n X dX12_broken_103 3 rfl ?_
      refine g_iaload X hf dX12_broken_104 (fun v8 hf => ?_)
      refine g_iload X dX12_broken_105 4 rfl ?_
      refine g_icmpge (tgt := 114) X hf dX12_broken_107 (by decide) (fun hf => ?_) (fun hf => ?_)
      · refine g_iconst (v := 2) X dX12_broken_110 (by decide) ?_
        refine g_goto (tgt := 130) X dX12_broken_111 (by decide) ?_
        exact g_ireturn X (zW hf) (by decide) (by decide) dX12_broken_130
      · refine g_aload_n X dX12_broken_114 0 rfl ?_
        refine g_getR X hf (T := TX12) rfl (by decide) (by decide) in_RX12 tb_1154 rfl dX12_broken_115 (fun v9 hf => ?_)
        refine g_iload_n X dX12_broken_118 3 rfl ?_
        refine g_iaload X hf dX12_broken_119 (fun v10 hf => ?_)
        refine g_iload X dX12_broken_120 4 rfl ?_
        refine g_icmpge (tgt := 129) X hf dX12_broken_122 (by decide) (fun hf => ?_) (fun hf => ?_)
        · refine g_iconst (v := 1) X dX12_broken_125 (by decide) ?_
          refine g_goto (tgt := 130) X dX12_broken_126 (by decide) ?_
          exact g_ireturn X (zW hf) (by decide) (by decide) dX12_broken_130
        · refine g_iconst (v := 0) X dX12_broken_129 (by decide) ?_
          exact g_ireturn X (zW hf) (by decide) (by decide) dX12_broken_130
def f_X12_broken  (a0 : Option Nat) (a1 : Int32) (a2 : Int32) (h : AH) : Option (Int32 × AH) :=
  (f_X12_isClub a1 h).bind fun v1 =>
  if v1 = 0 then
    some ((-1), h)
  else
    (ck 12 h a0 (f_X12_isKnownDay a0 a2 h)).bind fun v2 =>
    if v2 = 0 then
      some ((-1), h)
    else
      (ck 12 h a0 (f_X12_boundTo a0 a1 a2 h)).bind fun v3 =>
      if v3 < 0 then
        some ((-4), h)
      else
        b_X12_broken_37 FU a0 a1 a2 v3 0 0 h
set_option maxRecDepth 20000 in
theorem m_X12_broken  {a0 : Option Nat} {a1 : Int32} {a2 : Int32} {h : AH} {w : (Int32 × AH)} (hf : f_X12_broken a0 a1 a2 h = some w) : CT yX12_broken (wU yX12_broken cX12_broken 6 (some .int)) (rmD 41 0 0) 0 0 [tR a0, tI a1, tI a2] h (some (tI w.1), w.2) := by
  refine CT.of (cc := cX12_broken) (nL := 6) (ret := (some .int)) (by decide) (by simp [lg_sl, vOf_cat, wOf]) ?_
  intro K X
  refine g_locs (lv' := [(0, tR a0), (1, tI a1), (2, tI a2)]) (fun q hq => hq) ?_
  unfold f_X12_broken at hf
  refine g_iload_n X dX12_broken_0 1 rfl ?_
  refine g_callS (n := 1) (av := [tI a1]) (rest := []) X hf (fun v1 => (some (tI v1), h)) (fun _ q => m_X12_isClub q) (gdS tb_1301 tb_1302 tb_12 tb_1303) rfl (by decide +kernel) rfl (by decide) (by decide) rfl (Nat.le_of_ble_eq_true rfl) dX12_broken_1 (fun v1 hf => ?_)
  refine g_ifeq (tgt := 15) X hf dX12_broken_4 (by decide) (fun hf => ?_) (fun hf => ?_)
  · refine g_iconst (v := (-1)) X dX12_broken_15 (by decide) ?_
    exact g_ireturn X (zW hf) (by decide) (by decide) dX12_broken_16
  · refine g_aload_n X dX12_broken_7 0 rfl ?_
    refine g_iload_n X dX12_broken_8 2 rfl ?_
    refine g_callV (n := 1) (av := [tI a2]) (rest := []) (k := 12) X hf (fun v2 => (some (tI v2), h)) (fun _ q => m_X12_isKnownDay q) (gdV tb_1442 tb_1443 tb_1718 tb_12 tb_1444) rfl (by decide +kernel) rfl (by decide) rfl (by decide) (by decide) rfl (Nat.le_of_ble_eq_true rfl) dX12_broken_9 (fun v2 hf => ?_)
    refine g_ifne (tgt := 17) X hf dX12_broken_12 (by decide) (fun hf => ?_) (fun hf => ?_)
    · refine g_iconst (v := (-1)) X dX12_broken_15 (by decide) ?_
      exact g_ireturn X (zW hf) (by decide) (by decide) dX12_broken_16
    · refine g_aload_n X dX12_broken_17 0 rfl ?_
      refine g_iload_n X dX12_broken_18 1 rfl ?_
      refine g_iload_n X dX12_broken_19 2 rfl ?_
      refine g_callV (n := 2) (av := [tI a1, tI a2]) (rest := []) (k := 12) X hf (fun v3 => (some (tI v3), h)) (fun _ q => m_X12_boundTo q) (gdV tb_1308 tb_1309 tb_1693 tb_12 tb_1310) rfl (by decide +kernel) rfl (by decide) rfl (by decide) (by decide) rfl (Nat.le_of_ble_eq_true rfl) dX12_broken_20 (fun v3 hf => ?_)
      refine g_istore_n (lv' := [(0, tR a0), (1, tI a1), (2, tI a2), (3, tI v3)]) X dX12_broken_23 (by decide) (in_pick [1, 2, 3, 0] rfl) ?_
      refine g_iload_n X dX12_broken_24 3 rfl ?_
      refine g_ifge (tgt := 31) X hf dX12_broken_25 (by decide) (fun hf => ?_) (fun hf => ?_)
      · refine g_bipush (v := (-4)) X dX12_broken_28 (by decide) ?_
        exact g_ireturn X (zW hf) (by decide) (by decide) dX12_broken_30
      · refine g_iconst (v := 0) X dX12_broken_31 (by decide) ?_
        refine g_istore (lv' := [(0, tR a0), (1, tI a1), (2, tI a2), (3, tI v3), (4, tI 0)]) X dX12_broken_32 (by decide) (in_pick [1, 2, 3, 4, 0] rfl) ?_
        refine g_iconst (v := 0) X dX12_broken_34 (by decide) ?_
        refine g_istore (lv' := [(0, tR a0), (1, tI a1), (2, tI a2), (3, tI v3), (4, tI 0), (5, tI 0)]) X dX12_broken_35 (by decide) (in_pick [1, 2, 3, 4, 5, 0] rfl) ?_
        exact w_X12_broken_37 X FU a0 a1 a2 v3 0 0 h hf
def b_X12_turnFor_138  (k5 : Option Nat → Int32 → Int32 → Int32 → Int32 → AH → Option (Int32 × AH)) (k37 : Option Nat → Int32 → Int32 → Int32 → Int32 → Int32 → AH → Option (Int32 × AH)) (x0 : Option Nat) (x1 : Int32) (x2 : Int32) (x3 : Int32) (x4 : Int32) (x5 : Int32) (s0 : Option Nat) (s1 : Int32) (s2 : Int32) (h : AH) : Option (Int32 × AH) :=
  (sI h s0 s1 s2).bind fun h1 =>
  k37 x0 x1 x2 x3 x4 (x5 + 1) h1
set_option maxRecDepth 20000 in
theorem w_X12_turnFor_138 {K : KT} {w : (Int32 × AH)} {k5 : Option Nat → Int32 → Int32 → Int32 → Int32 → AH → Option (Int32 × AH)} {k37 : Option Nat → Int32 → Int32 → Int32 → Int32 → Int32 → AH → Option (Int32 × AH)}  (X : CX K cX12_turnFor RX12 TB (some .int) "turnFor" (rmD 41 0 0) 7 0 0) (hk5 : ∀ (x0 : Option Nat) (x1 : Int32) (x2 : Int32) (x3 : Int32) (x4 : Int32) (h : AH), k5 x0 x1 x2 x3 x4 h = some w → GG K (some (tI w.1), w.2) 0 0 5 [(0, tR x0), (1, tI x1), (2, tI x2), (3, tI x3), (4, tI x4)] [] h) (hk37 : ∀ (x0 : Option Nat) (x1 : Int32) (x2 : Int32) (x3 : Int32) (x4 : Int32) (x5 : Int32) (h : AH), k37 x0 x1 x2 x3 x4 x5 h = some w → GG K (some (tI w.1), w.2) 0 0 37 [(0, tR x0), (1, tI x1), (2, tI x2), (3, tI x3), (4, tI x4), (5, tI x5)] [] h) (x0 : Option Nat) (x1 : Int32) (x2 : Int32) (x3 : Int32) (x4 : Int32) (x5 : Int32) (s0 : Option Nat) (s1 : Int32) (s2 : Int32) (h : AH) (hf : b_X12_turnFor_138 k5 k37 x0 x1 x2 x3 x4 x5 s0 s1 s2 h = some w) : GG K (some (tI w.1), w.2) 0 0 138 [(0, tR x0), (1, tI x1), (2, tI x2), (3, tI x3), (4, tI x4), (5, tI x5)] [tI s2, tI s1, tR s0] h := by
  unfold b_X12_turnFor_138 at hf
  refine g_iastore X hf dX12_turnFor_138 (fun h1 hf => ?_)
  refine g_iinc (v := (x5 + 1)) (lv' := [(0, tR x0), (1, tI x1), (2, tI x2), (3, tI x3), (4, tI x4), (5, tI (x5 + 1))]) X dX12_turnFor_139 5 rfl (by rfl) (by decide) (in_pick [1, 2, 3, 4, 5, 0] rfl) ?_
  refine g_goto (tgt := 37) X dX12_turnFor_142 (by decide) ?_
  exact hk37 x0 x1 x2 x3 x4 (x5 + 1) h1 hf
def b_X12_turnFor_101  (k5 : Option Nat → Int32 → Int32 → Int32 → Int32 → AH → Option (Int32 × AH)) (k37 : Option Nat → Int32 → Int32 → Int32 → Int32 → Int32 → AH → Option (Int32 × AH)) (x0 : Option Nat) (x1 : Int32) (x2 : Int32) (x3 : Int32) (x4 : Int32) (x5 : Int32) (s0 : Int32) (h : AH) : Option (Int32 × AH) :=
  (gR 12 27 h x0).bind fun v1 =>
  if s0 = 0 then
    (gR 12 27 h x0).bind fun v2 =>
    (aI h v2 x5).bind fun v3 =>
    b_X12_turnFor_138 k5 k37 x0 x1 x2 x3 x4 x5 v1 x5 v3 h
  else
    (ck 12 h x0 (f_X12_isSent x0 x1 x2 h)).bind fun v4 =>
    if v4 = 0 then
      b_X12_turnFor_138 k5 k37 x0 x1 x2 x3 x4 x5 v1 x5 x1 h
    else
      b_X12_turnFor_138 k5 k37 x0 x1 x2 x3 x4 x5 v1 x5 (-1) h
set_option maxRecDepth 20000 in
theorem w_X12_turnFor_101 {K : KT} {w : (Int32 × AH)} {k5 : Option Nat → Int32 → Int32 → Int32 → Int32 → AH → Option (Int32 × AH)} {k37 : Option Nat → Int32 → Int32 → Int32 → Int32 → Int32 → AH → Option (Int32 × AH)}  (X : CX K cX12_turnFor RX12 TB (some .int) "turnFor" (rmD 41 0 0) 7 0 0) (hk5 : ∀ (x0 : Option Nat) (x1 : Int32) (x2 : Int32) (x3 : Int32) (x4 : Int32) (h : AH), k5 x0 x1 x2 x3 x4 h = some w → GG K (some (tI w.1), w.2) 0 0 5 [(0, tR x0), (1, tI x1), (2, tI x2), (3, tI x3), (4, tI x4)] [] h) (hk37 : ∀ (x0 : Option Nat) (x1 : Int32) (x2 : Int32) (x3 : Int32) (x4 : Int32) (x5 : Int32) (h : AH), k37 x0 x1 x2 x3 x4 x5 h = some w → GG K (some (tI w.1), w.2) 0 0 37 [(0, tR x0), (1, tI x1), (2, tI x2), (3, tI x3), (4, tI x4), (5, tI x5)] [] h) (x0 : Option Nat) (x1 : Int32) (x2 : Int32) (x3 : Int32) (x4 : Int32) (x5 : Int32) (s0 : Int32) (h : AH) (hf : b_X12_turnFor_101 k5 k37 x0 x1 x2 x3 x4 x5 s0 h = some w) : GG K (some (tI w.1), w.2) 0 0 101 [(0, tR x0), (1, tI x1), (2, tI x2), (3, tI x3), (4, tI x4), (5, tI x5)] [tI s0] h := by
  unfold b_X12_turnFor_101 at hf
  refine g_istore (lv' := [(0, tR x0), (1, tI x1), (2, tI x2), (3, tI x3), (4, tI x4), (5, tI x5), (6, tI s0)]) X dX12_turnFor_101 (by decide) (in_pick [1, 2, 3, 4, 5, 6, 0] rfl) ?_
  refine g_aload_n X dX12_turnFor_103 0 rfl ?_
  refine g_getR X hf (T := TX12) rfl (by decide) (by decide) in_RX12 tb_1162 rfl dX12_turnFor_104 (fun v1 hf => ?_)
  refine g_iload X dX12_turnFor_107 5 rfl ?_
  refine g_iload X dX12_turnFor_109 6 rfl ?_
  refine g_ifeq (tgt := 131) X hf dX12_turnFor_111 (by decide) (fun hf => ?_) (fun hf => ?_)
  · refine g_aload_n X dX12_turnFor_131 0 rfl ?_
    refine g_getR X hf (T := TX12) rfl (by decide) (by decide) in_RX12 tb_1162 rfl dX12_turnFor_132 (fun v2 hf => ?_)
    refine g_iload X dX12_turnFor_135 5 rfl ?_
    refine g_iaload X hf dX12_turnFor_137 (fun v3 hf => ?_)
    refine g_locs (lv' := [(0, tR x0), (1, tI x1), (2, tI x2), (3, tI x3), (4, tI x4), (5, tI x5)]) (in_pick [0, 1, 2, 3, 4, 5] rfl) ?_
    exact w_X12_turnFor_138 X hk5 hk37 x0 x1 x2 x3 x4 x5 v1 x5 v3 h hf
  · refine g_aload_n X dX12_turnFor_114 0 rfl ?_
    refine g_iload_n X dX12_turnFor_115 1 rfl ?_
    refine g_iload_n X dX12_turnFor_116 2 rfl ?_
    refine g_callV (n := 2) (av := [tI x1, tI x2]) (rest := [tI x5, tR v1]) (k := 12) X hf (fun v4 => (some (tI v4), h)) (fun _ q => m_X12_isSent q) (gdV tb_1318 tb_1319 tb_1695 tb_12 tb_1320) rfl (by decide +kernel) rfl (by decide) rfl (by decide) (by decide) rfl (Nat.le_of_ble_eq_true rfl) dX12_turnFor_117 (fun v4 hf => ?_)
    refine g_ifeq (tgt := 127) X hf dX12_turnFor_120 (by decide) (fun hf => ?_) (fun hf => ?_)
    · refine g_iload_n X dX12_turnFor_127 1 rfl ?_
      refine g_goto (tgt := 138) X dX12_turnFor_128 (by decide) ?_
      refine g_locs (lv' := [(0, tR x0), (1, tI x1), (2, tI x2), (3, tI x3), (4, tI x4), (5, tI x5)]) (in_pick [0, 1, 2, 3, 4, 5] rfl) ?_
      exact w_X12_turnFor_138 X hk5 hk37 x0 x1 x2 x3 x4 x5 v1 x5 x1 h hf
    · refine g_iconst (v := (-1)) X dX12_turnFor_123 (by decide) ?_
      refine g_goto (tgt := 138) X dX12_turnFor_124 (by decide) ?_
      refine g_locs (lv' := [(0, tR x0), (1, tI x1), (2, tI x2), (3, tI x3), (4, tI x4), (5, tI x5)]) (in_pick [0, 1, 2, 3, 4, 5] rfl) ?_
      exact w_X12_turnFor_138 X hk5 hk37 x0 x1 x2 x3 x4 x5 v1 x5 (-1) h hf
def b_X12_turnFor_37  (k5 : Option Nat → Int32 → Int32 → Int32 → Int32 → AH → Option (Int32 × AH))  : Nat → Option Nat → Int32 → Int32 → Int32 → Int32 → Int32 → AH → Option (Int32 × AH)
  | 0 => fun _ _ _ _ _ _ _ => none
  | n + 1 => fun x0 x1 x2 x3 x4 x5 h =>
    (gR 12 0 h x0).bind fun v1 =>
    (aI h v1 2).bind fun v2 =>
    if x5 < v2 then
      if x5 = x1 then
        b_X12_turnFor_101 k5 (b_X12_turnFor_37 k5 n) x0 x1 x2 x3 x4 x5 0 h
      else
        (gR 12 0 h x0).bind fun v3 =>
        (aI h v3 (91 + x5)).bind fun v4 =>
        if v4 < 0 then
          b_X12_turnFor_101 k5 (b_X12_turnFor_37 k5 n) x0 x1 x2 x3 x4 x5 0 h
        else
          (gR 12 0 h x0).bind fun v5 =>
          (aI h v5 (91 + x5)).bind fun v6 =>
          if ((x4 >>> (v6 &&& 31)) &&& 1) = 1 then
            (ck 12 h x0 (f_X12_doesCome x0 x5 x2 h)).bind fun v7 =>
            if v7 = 0 then
              b_X12_turnFor_101 k5 (b_X12_turnFor_37 k5 n) x0 x1 x2 x3 x4 x5 0 h
            else
              b_X12_turnFor_101 k5 (b_X12_turnFor_37 k5 n) x0 x1 x2 x3 x4 x5 1 h
          else
            b_X12_turnFor_101 k5 (b_X12_turnFor_37 k5 n) x0 x1 x2 x3 x4 x5 0 h
    else
      (ck 12 h x0 (f_X12_goesBy x0 h)).bind fun p8 =>
      if p8.1 = x1 then
        k5 x0 x1 x2 x4 (x4 + 1) p8.2
      else
        k5 x0 x1 x2 x3 (x4 + 1) p8.2
set_option maxRecDepth 20000 in
theorem w_X12_turnFor_37 {K : KT} {w : (Int32 × AH)} {k5 : Option Nat → Int32 → Int32 → Int32 → Int32 → AH → Option (Int32 × AH)}  (X : CX K cX12_turnFor RX12 TB (some .int) "turnFor" (rmD 41 0 0) 7 0 0) (hk5 : ∀ (x0 : Option Nat) (x1 : Int32) (x2 : Int32) (x3 : Int32) (x4 : Int32) (h : AH), k5 x0 x1 x2 x3 x4 h = some w → GG K (some (tI w.1), w.2) 0 0 5 [(0, tR x0), (1, tI x1), (2, tI x2), (3, tI x3), (4, tI x4)] [] h) : ∀ (n : Nat) (x0 : Option Nat) (x1 : Int32) (x2 : Int32) (x3 : Int32) (x4 : Int32) (x5 : Int32) (h : AH), b_X12_turnFor_37 k5 n x0 x1 x2 x3 x4 x5 h = some w → GG K (some (tI w.1), w.2) 0 0 37 [(0, tR x0), (1, tI x1), (2, tI x2), (3, tI x3), (4, tI x4), (5, tI x5)] [] h := by
  intro n
  induction n with
  | zero =>
    intro x0 x1 x2 x3 x4 x5 h hf
    cases (show none = some w from hf)
  | succ n ih =>
    intro x0 x1 x2 x3 x4 x5 h hf
    rw [b_X12_turnFor_37] at hf
    refine g_iload X dX12_turnFor_37 5 rfl ?_
    refine g_aload_n X dX12_turnFor_39 0 rfl ?_
    refine g_getR X hf (T := TX12) rfl (by decide) (by decide) in_RX12 tb_1135 rfl dX12_turnFor_40 (fun v1 hf => ?_)
    refine g_iconst (v := 2) X dX12_turnFor_43 (by decide) ?_
    refine g_iaload X hf dX12_turnFor_44 (fun v2 hf => ?_)
    refine g_icmpge (tgt := 145) X hf dX12_turnFor_45 (by decide) (fun hf => ?_) (fun hf => ?_)
    · refine g_iload X dX12_turnFor_48 5 rfl ?_
      refine g_iload_n X dX12_turnFor_50 1 rfl ?_
      refine g_icmpeq (tgt := 100) X hf dX12_turnFor_51 (by decide) (fun hf => ?_) (fun hf => ?_)
      · refine g_iconst (v := 0) X dX12_turnFor_100 (by decide) ?_
        exact w_X12_turnFor_101 X hk5 ih x0 x1 x2 x3 x4 x5 0 h hf
      · refine g_aload_n X dX12_turnFor_54 0 rfl ?_
        refine g_getR X hf (T := TX12) rfl (by decide) (by decide) in_RX12 tb_1135 rfl dX12_turnFor_55 (fun v3 hf => ?_)
        refine g_bipush (v := 91) X dX12_turnFor_58 (by decide) ?_
        refine g_iload X dX12_turnFor_60 5 rfl ?_
        refine g_iadd X dX12_turnFor_62 ?_
        refine g_iaload X hf dX12_turnFor_63 (fun v4 hf => ?_)
        refine g_iflt (tgt := 100) X hf dX12_turnFor_64 (by decide) (fun hf => ?_) (fun hf => ?_)
        · refine g_iconst (v := 0) X dX12_turnFor_100 (by decide) ?_
          exact w_X12_turnFor_101 X hk5 ih x0 x1 x2 x3 x4 x5 0 h hf
        · refine g_iload X dX12_turnFor_67 4 rfl ?_
          refine g_aload_n X dX12_turnFor_69 0 rfl ?_
          refine g_getR X hf (T := TX12) rfl (by decide) (by decide) in_RX12 tb_1135 rfl dX12_turnFor_70 (fun v5 hf => ?_)
          refine g_bipush (v := 91) X dX12_turnFor_73 (by decide) ?_
          refine g_iload X dX12_turnFor_75 5 rfl ?_
          refine g_iadd X dX12_turnFor_77 ?_
          refine g_iaload X hf dX12_turnFor_78 (fun v6 hf => ?_)
          refine g_ishr X dX12_turnFor_79 ?_
          refine g_iconst (v := 1) X dX12_turnFor_80 (by decide) ?_
          refine g_iand X dX12_turnFor_81 ?_
          refine g_iconst (v := 1) X dX12_turnFor_82 (by decide) ?_
          refine g_icmpne (tgt := 100) X hf dX12_turnFor_83 (by decide) (fun hf => ?_) (fun hf => ?_)
          · refine g_aload_n X dX12_turnFor_86 0 rfl ?_
            refine g_iload X dX12_turnFor_87 5 rfl ?_
            refine g_iload_n X dX12_turnFor_89 2 rfl ?_
            refine g_callV (n := 2) (av := [tI x5, tI x2]) (rest := []) (k := 12) X hf (fun v7 => (some (tI v7), h)) (fun _ q => m_X12_doesCome q) (gdV tb_1315 tb_1316 tb_1694 tb_12 tb_1317) rfl (by decide +kernel) rfl (by decide) rfl (by decide) (by decide) rfl (Nat.le_of_ble_eq_true rfl) dX12_turnFor_90 (fun v7 hf => ?_)
            refine g_ifeq (tgt := 100) X hf dX12_turnFor_93 (by decide) (fun hf => ?_) (fun hf => ?_)
            · refine g_iconst (v := 0) X dX12_turnFor_100 (by decide) ?_
              exact w_X12_turnFor_101 X hk5 ih x0 x1 x2 x3 x4 x5 0 h hf
            · refine g_iconst (v := 1) X dX12_turnFor_96 (by decide) ?_
              refine g_goto (tgt := 101) X dX12_turnFor_97 (by decide) ?_
              exact w_X12_turnFor_101 X hk5 ih x0 x1 x2 x3 x4 x5 1 h hf
          · refine g_iconst (v := 0) X dX12_turnFor_100 (by decide) ?_
            exact w_X12_turnFor_101 X hk5 ih x0 x1 x2 x3 x4 x5 0 h hf
    · refine g_aload_n X dX12_turnFor_145 0 rfl ?_
      refine g_callV (n := 0) (av := []) (rest := []) (k := 12) X hf (fun p8 => (some (tI p8.1), p8.2)) (fun _ q => m_X12_goesBy q) (gdV tb_1491 tb_1492 tb_1725 tb_12 tb_1493) rfl (by decide +kernel) rfl (by decide) rfl (by decide) (by decide) rfl (Nat.le_of_ble_eq_true rfl) dX12_turnFor_146 (fun p8 hf => ?_)
      refine g_iload_n X dX12_turnFor_149 1 rfl ?_
      refine g_icmpne (tgt := 158) X hf dX12_turnFor_150 (by decide) (fun hf => ?_) (fun hf => ?_)
      · refine g_iload X dX12_turnFor_153 4 rfl ?_
        refine g_goto (tgt := 159) X dX12_turnFor_155 (by decide) ?_
        refine g_istore_n (lv' := [(0, tR x0), (1, tI x1), (2, tI x2), (3, tI x4), (4, tI x4), (5, tI x5)]) X dX12_turnFor_159 (by decide) (in_pick [1, 2, 3, 0, 4, 5] rfl) ?_
        refine g_iinc (v := (x4 + 1)) (lv' := [(0, tR x0), (1, tI x1), (2, tI x2), (3, tI x4), (4, tI (x4 + 1)), (5, tI x5)]) X dX12_turnFor_160 4 rfl (by rfl) (by decide) (in_pick [1, 2, 3, 4, 0, 5] rfl) ?_
        refine g_goto (tgt := 5) X dX12_turnFor_163 (by decide) ?_
        refine g_locs (lv' := [(0, tR x0), (1, tI x1), (2, tI x2), (3, tI x4), (4, tI (x4 + 1))]) (in_pick [0, 1, 2, 3, 4] rfl) ?_
        exact hk5 x0 x1 x2 x4 (x4 + 1) p8.2 hf
      · refine g_iload_n X dX12_turnFor_158 3 rfl ?_
        refine g_istore_n (lv' := [(0, tR x0), (1, tI x1), (2, tI x2), (3, tI x3), (4, tI x4), (5, tI x5)]) X dX12_turnFor_159 (by decide) (in_pick [1, 2, 3, 0, 4, 5] rfl) ?_
        refine g_iinc (v := (x4 + 1)) (lv' := [(0, tR x0), (1, tI x1), (2, tI x2), (3, tI x3), (4, tI (x4 + 1)), (5, tI x5)]) X dX12_turnFor_160 4 rfl (by rfl) (by decide) (in_pick [1, 2, 3, 4, 0, 5] rfl) ?_
        refine g_goto (tgt := 5) X dX12_turnFor_163 (by decide) ?_
        refine g_locs (lv' := [(0, tR x0), (1, tI x1), (2, tI x2), (3, tI x3), (4, tI (x4 + 1))]) (in_pick [0, 1, 2, 3, 4] rfl) ?_
        exact hk5 x0 x1 x2 x3 (x4 + 1) p8.2 hf
def b_X12_turnFor_28  (k5 : Option Nat → Int32 → Int32 → Int32 → Int32 → AH → Option (Int32 × AH)) (x0 : Option Nat) (x1 : Int32) (x2 : Int32) (x3 : Int32) (x4 : Int32) (h : AH) : Option (Int32 × AH) :=
  (ck 12 h x0 (f_X12_castAll x0 x2 (-1) h)).bind fun h1 =>
  b_X12_turnFor_37 k5 FU x0 x1 x2 x3 x4 0 h1
set_option maxRecDepth 20000 in
theorem w_X12_turnFor_28 {K : KT} {w : (Int32 × AH)} {k5 : Option Nat → Int32 → Int32 → Int32 → Int32 → AH → Option (Int32 × AH)}  (X : CX K cX12_turnFor RX12 TB (some .int) "turnFor" (rmD 41 0 0) 7 0 0) (hk5 : ∀ (x0 : Option Nat) (x1 : Int32) (x2 : Int32) (x3 : Int32) (x4 : Int32) (h : AH), k5 x0 x1 x2 x3 x4 h = some w → GG K (some (tI w.1), w.2) 0 0 5 [(0, tR x0), (1, tI x1), (2, tI x2), (3, tI x3), (4, tI x4)] [] h) (x0 : Option Nat) (x1 : Int32) (x2 : Int32) (x3 : Int32) (x4 : Int32) (h : AH) (hf : b_X12_turnFor_28 k5 x0 x1 x2 x3 x4 h = some w) : GG K (some (tI w.1), w.2) 0 0 28 [(0, tR x0), (1, tI x1), (2, tI x2), (3, tI x3), (4, tI x4)] [] h := by
  unfold b_X12_turnFor_28 at hf
  refine g_aload_n X dX12_turnFor_28 0 rfl ?_
  refine g_iload_n X dX12_turnFor_29 2 rfl ?_
  refine g_iconst (v := (-1)) X dX12_turnFor_30 (by decide) ?_
  refine g_callV (n := 2) (av := [tI x2, tI (-1)]) (rest := []) (k := 12) X hf (fun h1 => (none, h1)) (fun _ q => m_X12_castAll q) (gdV tb_1488 tb_1489 tb_1724 tb_12 tb_1490) rfl (by decide +kernel) rfl (by decide) rfl (by decide) (by decide) rfl (Nat.le_of_ble_eq_true rfl) dX12_turnFor_31 (fun h1 hf => ?_)
  refine g_iconst (v := 0) X dX12_turnFor_34 (by decide) ?_
  refine g_istore (lv' := [(0, tR x0), (1, tI x1), (2, tI x2), (3, tI x3), (4, tI x4), (5, tI 0)]) X dX12_turnFor_35 (by decide) (in_pick [1, 2, 3, 4, 5, 0] rfl) ?_
  exact w_X12_turnFor_37 X hk5 FU x0 x1 x2 x3 x4 0 h1 hf
def b_X12_turnFor_5    : Nat → Option Nat → Int32 → Int32 → Int32 → Int32 → AH → Option (Int32 × AH)
  | 0 => fun _ _ _ _ _ _ => none
  | n + 1 => fun x0 x1 x2 x3 x4 h =>
    if x4 < 64 then
      if x3 < 0 then
        b_X12_turnFor_28 (b_X12_turnFor_5 n) x0 x1 x2 x3 x4 h
      else
        (f_X12_bits x4 h).bind fun v1 =>
        (f_X12_bits x3 h).bind fun v2 =>
        if v1 < v2 then
          b_X12_turnFor_28 (b_X12_turnFor_5 n) x0 x1 x2 x3 x4 h
        else
          b_X12_turnFor_5 n x0 x1 x2 x3 (x4 + 1) h
    else
      some (x3, h)
set_option maxRecDepth 20000 in
theorem w_X12_turnFor_5 {K : KT} {w : (Int32 × AH)}   (X : CX K cX12_turnFor RX12 TB (some .int) "turnFor" (rmD 41 0 0) 7 0 0)  : ∀ (n : Nat) (x0 : Option Nat) (x1 : Int32) (x2 : Int32) (x3 : Int32) (x4 : Int32) (h : AH), b_X12_turnFor_5 n x0 x1 x2 x3 x4 h = some w → GG K (some (tI w.1), w.2) 0 0 5 [(0, tR x0), (1, tI x1), (2, tI x2), (3, tI x3), (4, tI x4)] [] h := by
  intro n
  induction n with
  | zero =>
    intro x0 x1 x2 x3 x4 h hf
    cases (show none = some w from hf)
  | succ n ih =>
    intro x0 x1 x2 x3 x4 h hf
    rw [b_X12_turnFor_5] at hf
    refine g_iload X dX12_turnFor_5 4 rfl ?_
    refine g_bipush (v := 64) X dX12_turnFor_7 (by decide) ?_
    refine g_icmpge (tgt := 166) X hf dX12_turnFor_9 (by decide) (fun hf => ?_) (fun hf => ?_)
    · refine g_iload_n X dX12_turnFor_12 3 rfl ?_
      refine g_iflt (tgt := 28) X hf dX12_turnFor_13 (by decide) (fun hf => ?_) (fun hf => ?_)
      · exact w_X12_turnFor_28 X ih x0 x1 x2 x3 x4 h hf
      · refine g_iload X dX12_turnFor_16 4 rfl ?_
        refine g_callS (n := 1) (av := [tI x4]) (rest := []) X hf (fun v1 => (some (tI v1), h)) (fun _ q => m_X12_bits q) (gdS tb_1369 tb_1370 tb_12 tb_1371) rfl (by decide +kernel) rfl (by decide) (by decide) rfl (Nat.le_of_ble_eq_true rfl) dX12_turnFor_18 (fun v1 hf => ?_)
        refine g_iload_n X dX12_turnFor_21 3 rfl ?_
        refine g_callS (n := 1) (av := [tI x3]) (rest := [tI v1]) X hf (fun v2 => (some (tI v2), h)) (fun _ q => m_X12_bits q) (gdS tb_1369 tb_1370 tb_12 tb_1371) rfl (by decide +kernel) rfl (by decide) (by decide) rfl (Nat.le_of_ble_eq_true rfl) dX12_turnFor_22 (fun v2 hf => ?_)
        refine g_icmpge (tgt := 160) X hf dX12_turnFor_25 (by decide) (fun hf => ?_) (fun hf => ?_)
        · exact w_X12_turnFor_28 X ih x0 x1 x2 x3 x4 h hf
        · refine g_iinc (v := (x4 + 1)) (lv' := [(0, tR x0), (1, tI x1), (2, tI x2), (3, tI x3), (4, tI (x4 + 1))]) X dX12_turnFor_160 4 rfl (by rfl) (by decide) (in_pick [1, 2, 3, 4, 0] rfl) ?_
          refine g_goto (tgt := 5) X dX12_turnFor_163 (by decide) ?_
          exact ih x0 x1 x2 x3 (x4 + 1) h hf
    · refine g_iload_n X dX12_turnFor_166 3 rfl ?_
      exact g_ireturn X (zW hf) (by decide) (by decide) dX12_turnFor_167
def f_X12_turnFor  (a0 : Option Nat) (a1 : Int32) (a2 : Int32) (h : AH) : Option (Int32 × AH) :=
  b_X12_turnFor_5 FU a0 a1 a2 (-1) 0 h
set_option maxRecDepth 20000 in
theorem m_X12_turnFor  {a0 : Option Nat} {a1 : Int32} {a2 : Int32} {h : AH} {w : (Int32 × AH)} (hf : f_X12_turnFor a0 a1 a2 h = some w) : CT yX12_turnFor (wU yX12_turnFor cX12_turnFor 7 (some .int)) (rmD 41 0 0) 0 0 [tR a0, tI a1, tI a2] h (some (tI w.1), w.2) := by
  refine CT.of (cc := cX12_turnFor) (nL := 7) (ret := (some .int)) (by decide) (by simp [lg_sl, vOf_cat, wOf]) ?_
  intro K X
  refine g_locs (lv' := [(0, tR a0), (1, tI a1), (2, tI a2)]) (fun q hq => hq) ?_
  unfold f_X12_turnFor at hf
  refine g_iconst (v := (-1)) X dX12_turnFor_0 (by decide) ?_
  refine g_istore_n (lv' := [(0, tR a0), (1, tI a1), (2, tI a2), (3, tI (-1))]) X dX12_turnFor_1 (by decide) (in_pick [1, 2, 3, 0] rfl) ?_
  refine g_iconst (v := 0) X dX12_turnFor_2 (by decide) ?_
  refine g_istore (lv' := [(0, tR a0), (1, tI a1), (2, tI a2), (3, tI (-1)), (4, tI 0)]) X dX12_turnFor_3 (by decide) (in_pick [1, 2, 3, 4, 0] rfl) ?_
  exact w_X12_turnFor_5 X FU a0 a1 a2 (-1) 0 h hf
def f_X12_turn  (a0 : Option Nat) (a1 : Int32) (a2 : Int32) (h : AH) : Option (Int32 × AH) :=
  (ck 12 h a0 (f_X12_isMan a0 a1 h)).bind fun v1 =>
  if v1 = 0 then
    some ((-1), h)
  else
    (f_X12_isDay a2 h).bind fun v2 =>
    if v2 = 0 then
      some ((-1), h)
    else
      (ck 12 h a0 (f_X12_turnFor a0 a1 a2 h)).bind fun p3 =>
      if p3.1 < 0 then
        some ((-3), p3.2)
      else
        some (p3.1, p3.2)
set_option maxRecDepth 20000 in
theorem m_X12_turn  {a0 : Option Nat} {a1 : Int32} {a2 : Int32} {h : AH} {w : (Int32 × AH)} (hf : f_X12_turn a0 a1 a2 h = some w) : CT yX12_turn (wU yX12_turn cX12_turn 4 (some .int)) (rmD 42 0 0) 0 0 [tR a0, tI a1, tI a2] h (some (tI w.1), w.2) := by
  refine CT.of (cc := cX12_turn) (nL := 4) (ret := (some .int)) (by decide) (by simp [lg_sl, vOf_cat, wOf]) ?_
  intro K X
  refine g_locs (lv' := [(0, tR a0), (1, tI a1), (2, tI a2)]) (fun q hq => hq) ?_
  unfold f_X12_turn at hf
  refine g_aload_n X dX12_turn_0 0 rfl ?_
  refine g_iload_n X dX12_turn_1 1 rfl ?_
  refine g_callV (n := 1) (av := [tI a1]) (rest := []) (k := 12) X hf (fun v1 => (some (tI v1), h)) (fun _ q => m_X12_isMan q) (gdV tb_1267 tb_1268 tb_1691 tb_12 tb_1269) rfl (by decide +kernel) rfl (by decide) rfl (by decide) (by decide) rfl (Nat.le_of_ble_eq_true rfl) dX12_turn_2 (fun v1 hf => ?_)
  refine g_ifeq (tgt := 15) X hf dX12_turn_5 (by decide) (fun hf => ?_) (fun hf => ?_)
  · refine g_iconst (v := (-1)) X dX12_turn_15 (by decide) ?_
    exact g_ireturn X (zW hf) (by decide) (by decide) dX12_turn_16
  · refine g_iload_n X dX12_turn_8 2 rfl ?_
    refine g_callS (n := 1) (av := [tI a2]) (rest := []) X hf (fun v2 => (some (tI v2), h)) (fun _ q => m_X12_isDay q) (gdS tb_1239 tb_1240 tb_12 tb_1241) rfl (by decide +kernel) rfl (by decide) (by decide) rfl (Nat.le_of_ble_eq_true rfl) dX12_turn_9 (fun v2 hf => ?_)
    refine g_ifne (tgt := 17) X hf dX12_turn_12 (by decide) (fun hf => ?_) (fun hf => ?_)
    · refine g_iconst (v := (-1)) X dX12_turn_15 (by decide) ?_
      exact g_ireturn X (zW hf) (by decide) (by decide) dX12_turn_16
    · refine g_aload_n X dX12_turn_17 0 rfl ?_
      refine g_iload_n X dX12_turn_18 1 rfl ?_
      refine g_iload_n X dX12_turn_19 2 rfl ?_
      refine g_callV (n := 2) (av := [tI a1, tI a2]) (rest := []) (k := 12) X hf (fun p3 => (some (tI p3.1), p3.2)) (fun _ q => m_X12_turnFor q) (gdV tb_1506 tb_1507 tb_1726 tb_12 tb_1508) rfl (by decide +kernel) rfl (by decide) rfl (by decide) (by decide) rfl (Nat.le_of_ble_eq_true rfl) dX12_turn_20 (fun p3 hf => ?_)
      refine g_istore_n (lv' := [(0, tR a0), (1, tI a1), (2, tI a2), (3, tI p3.1)]) X dX12_turn_23 (by decide) (in_pick [1, 2, 3, 0] rfl) ?_
      refine g_iload_n X dX12_turn_24 3 rfl ?_
      refine g_ifge (tgt := 33) X hf dX12_turn_25 (by decide) (fun hf => ?_) (fun hf => ?_)
      · refine g_bipush (v := (-3)) X dX12_turn_28 (by decide) ?_
        refine g_goto (tgt := 34) X dX12_turn_30 (by decide) ?_
        exact g_ireturn X (zW hf) (by decide) (by decide) dX12_turn_34
      · refine g_iload_n X dX12_turn_33 3 rfl ?_
        exact g_ireturn X (zW hf) (by decide) (by decide) dX12_turn_34
def f_X12_clubsFor  (a0 : Option Nat) (a1 : Int32) (a2 : Int32) (h : AH) : Option (Int32 × AH) :=
  (ck 12 h a0 (f_X12_turnFor a0 a1 a2 h)).bind fun p1 =>
  if p1.1 < 0 then
    some ((-1), p1.2)
  else
    (f_X12_bits p1.1 p1.2).bind fun v2 =>
    some (v2, p1.2)
set_option maxRecDepth 20000 in
theorem m_X12_clubsFor  {a0 : Option Nat} {a1 : Int32} {a2 : Int32} {h : AH} {w : (Int32 × AH)} (hf : f_X12_clubsFor a0 a1 a2 h = some w) : CT yX12_clubsFor (wU yX12_clubsFor cX12_clubsFor 4 (some .int)) (rmD 42 0 0) 0 0 [tR a0, tI a1, tI a2] h (some (tI w.1), w.2) := by
  refine CT.of (cc := cX12_clubsFor) (nL := 4) (ret := (some .int)) (by decide) (by simp [lg_sl, vOf_cat, wOf]) ?_
  intro K X
  refine g_locs (lv' := [(0, tR a0), (1, tI a1), (2, tI a2)]) (fun q hq => hq) ?_
  unfold f_X12_clubsFor at hf
  refine g_aload_n X dX12_clubsFor_0 0 rfl ?_
  refine g_iload_n X dX12_clubsFor_1 1 rfl ?_
  refine g_iload_n X dX12_clubsFor_2 2 rfl ?_
  refine g_callV (n := 2) (av := [tI a1, tI a2]) (rest := []) (k := 12) X hf (fun p1 => (some (tI p1.1), p1.2)) (fun _ q => m_X12_turnFor q) (gdV tb_1506 tb_1507 tb_1726 tb_12 tb_1508) rfl (by decide +kernel) rfl (by decide) rfl (by decide) (by decide) rfl (Nat.le_of_ble_eq_true rfl) dX12_clubsFor_3 (fun p1 hf => ?_)
  refine g_istore_n (lv' := [(0, tR a0), (1, tI a1), (2, tI a2), (3, tI p1.1)]) X dX12_clubsFor_6 (by decide) (in_pick [1, 2, 3, 0] rfl) ?_
  refine g_iload_n X dX12_clubsFor_7 3 rfl ?_
  refine g_ifge (tgt := 15) X hf dX12_clubsFor_8 (by decide) (fun hf => ?_) (fun hf => ?_)
  · refine g_iconst (v := (-1)) X dX12_clubsFor_11 (by decide) ?_
    refine g_goto (tgt := 19) X dX12_clubsFor_12 (by decide) ?_
    exact g_ireturn X (zW hf) (by decide) (by decide) dX12_clubsFor_19
  · refine g_iload_n X dX12_clubsFor_15 3 rfl ?_
    refine g_callS (n := 1) (av := [tI p1.1]) (rest := []) X hf (fun v2 => (some (tI v2), p1.2)) (fun _ q => m_X12_bits q) (gdS tb_1369 tb_1370 tb_12 tb_1371) rfl (by decide +kernel) rfl (by decide) (by decide) rfl (Nat.le_of_ble_eq_true rfl) dX12_clubsFor_16 (fun v2 hf => ?_)
    exact g_ireturn X (zW hf) (by decide) (by decide) dX12_clubsFor_19
def b_X12_prove_21    : Nat → Option Nat → Int32 → Int32 → AH → Option (Int32 × AH)
  | 0 => fun _ _ _ _ => none
  | n + 1 => fun x0 x1 x2 h =>
    (gI 12 29 h x0).bind fun v1 =>
    if x2 < v1 then
      (gR 12 28 h x0).bind fun v2 =>
      (sI h v2 (2 * x2) x2).bind fun h3 =>
      (gR 12 28 h3 x0).bind fun v4 =>
      (ck 12 h3 x0 (f_X12_clubsFor x0 x2 x1 h3)).bind fun p5 =>
      (sI p5.2 v4 ((2 * x2) + 1) p5.1).bind fun h6 =>
      b_X12_prove_21 n x0 x1 (x2 + 1) h6
    else
      (gI 12 29 h x0).bind fun v7 =>
      some (v7, h)
set_option maxRecDepth 20000 in
theorem w_X12_prove_21 {K : KT} {w : (Int32 × AH)}   (X : CX K cX12_prove RX12 TB (some .int) "prove" (rmD 43 0 0) 3 0 0)  : ∀ (n : Nat) (x0 : Option Nat) (x1 : Int32) (x2 : Int32) (h : AH), b_X12_prove_21 n x0 x1 x2 h = some w → GG K (some (tI w.1), w.2) 0 0 21 [(0, tR x0), (1, tI x1), (2, tI x2)] [] h := by
  intro n
  induction n with
  | zero =>
    intro x0 x1 x2 h hf
    cases (show none = some w from hf)
  | succ n ih =>
    intro x0 x1 x2 h hf
    rw [b_X12_prove_21] at hf
    refine g_iload_n X dX12_prove_21 2 rfl ?_
    refine g_aload_n X dX12_prove_22 0 rfl ?_
    refine g_getI X hf (T := TX12) rfl (by decide) (by decide) in_RX12 tb_1164 rfl dX12_prove_23 (fun v1 hf => ?_)
    refine g_icmpge (tgt := 60) X hf dX12_prove_26 (by decide) (fun hf => ?_) (fun hf => ?_)
    · refine g_aload_n X dX12_prove_29 0 rfl ?_
      refine g_getR X hf (T := TX12) rfl (by decide) (by decide) in_RX12 tb_1163 rfl dX12_prove_30 (fun v2 hf => ?_)
      refine g_iconst (v := 2) X dX12_prove_33 (by decide) ?_
      refine g_iload_n X dX12_prove_34 2 rfl ?_
      refine g_imul X dX12_prove_35 ?_
      refine g_iload_n X dX12_prove_36 2 rfl ?_
      refine g_iastore X hf dX12_prove_37 (fun h3 hf => ?_)
      refine g_aload_n X dX12_prove_38 0 rfl ?_
      refine g_getR X hf (T := TX12) rfl (by decide) (by decide) in_RX12 tb_1163 rfl dX12_prove_39 (fun v4 hf => ?_)
      refine g_iconst (v := 2) X dX12_prove_42 (by decide) ?_
      refine g_iload_n X dX12_prove_43 2 rfl ?_
      refine g_imul X dX12_prove_44 ?_
      refine g_iconst (v := 1) X dX12_prove_45 (by decide) ?_
      refine g_iadd X dX12_prove_46 ?_
      refine g_aload_n X dX12_prove_47 0 rfl ?_
      refine g_iload_n X dX12_prove_48 2 rfl ?_
      refine g_iload_n X dX12_prove_49 1 rfl ?_
      refine g_callV (n := 2) (av := [tI x2, tI x1]) (rest := [tI ((2 * x2) + 1), tR v4]) (k := 12) X hf (fun p5 => (some (tI p5.1), p5.2)) (fun _ q => m_X12_clubsFor q) (gdV tb_1513 tb_1514 tb_1727 tb_12 tb_1515) rfl (by decide +kernel) rfl (by decide) rfl (by decide) (by decide) rfl (Nat.le_of_ble_eq_true rfl) dX12_prove_50 (fun p5 hf => ?_)
      refine g_iastore X hf dX12_prove_53 (fun h6 hf => ?_)
      refine g_iinc (v := (x2 + 1)) (lv' := [(0, tR x0), (1, tI x1), (2, tI (x2 + 1))]) X dX12_prove_54 2 rfl (by rfl) (by decide) (in_pick [1, 2, 0] rfl) ?_
      refine g_goto (tgt := 21) X dX12_prove_57 (by decide) ?_
      exact ih x0 x1 (x2 + 1) h6 hf
    · refine g_aload_n X dX12_prove_60 0 rfl ?_
      refine g_getI X hf (T := TX12) rfl (by decide) (by decide) in_RX12 tb_1164 rfl dX12_prove_61 (fun v7 hf => ?_)
      exact g_ireturn X (zW hf) (by decide) (by decide) dX12_prove_64
def f_X12_prove  (a0 : Option Nat) (a1 : Int32) (h : AH) : Option (Int32 × AH) :=
  (f_X12_isDay a1 h).bind fun v1 =>
  if v1 = 0 then
    some ((-1), h)
  else
    (gR 12 0 h a0).bind fun v2 =>
    (aI h v2 2).bind fun v3 =>
    (pI 12 29 h a0 v3).bind fun h4 =>
    b_X12_prove_21 FU a0 a1 0 h4
set_option maxRecDepth 20000 in
theorem m_X12_prove  {a0 : Option Nat} {a1 : Int32} {h : AH} {w : (Int32 × AH)} (hf : f_X12_prove a0 a1 h = some w) : CT yX12_prove (wU yX12_prove cX12_prove 3 (some .int)) (rmD 43 0 0) 0 0 [tR a0, tI a1] h (some (tI w.1), w.2) := by
  refine CT.of (cc := cX12_prove) (nL := 3) (ret := (some .int)) (by decide) (by simp [lg_sl, vOf_cat, wOf]) ?_
  intro K X
  refine g_locs (lv' := [(0, tR a0), (1, tI a1)]) (fun q hq => hq) ?_
  unfold f_X12_prove at hf
  refine g_iload_n X dX12_prove_0 1 rfl ?_
  refine g_callS (n := 1) (av := [tI a1]) (rest := []) X hf (fun v1 => (some (tI v1), h)) (fun _ q => m_X12_isDay q) (gdS tb_1239 tb_1240 tb_12 tb_1241) rfl (by decide +kernel) rfl (by decide) (by decide) rfl (Nat.le_of_ble_eq_true rfl) dX12_prove_1 (fun v1 hf => ?_)
  refine g_ifne (tgt := 9) X hf dX12_prove_4 (by decide) (fun hf => ?_) (fun hf => ?_)
  · refine g_iconst (v := (-1)) X dX12_prove_7 (by decide) ?_
    exact g_ireturn X (zW hf) (by decide) (by decide) dX12_prove_8
  · refine g_aload_n X dX12_prove_9 0 rfl ?_
    refine g_aload_n X dX12_prove_10 0 rfl ?_
    refine g_getR X hf (T := TX12) rfl (by decide) (by decide) in_RX12 tb_1135 rfl dX12_prove_11 (fun v2 hf => ?_)
    refine g_iconst (v := 2) X dX12_prove_14 (by decide) ?_
    refine g_iaload X hf dX12_prove_15 (fun v3 hf => ?_)
    refine g_putI X hf (T := TX12) rfl (by decide) (by decide) in_RX12 tyX12 tyX12_ok nmX12 tb_1164 rfl rfl rfl dX12_prove_16 (fun h4 hf => ?_)
    refine g_iconst (v := 0) X dX12_prove_19 (by decide) ?_
    refine g_istore_n (lv' := [(0, tR a0), (1, tI a1), (2, tI 0)]) X dX12_prove_20 (by decide) (in_pick [1, 2, 0] rfl) ?_
    exact w_X12_prove_21 X FU a0 a1 0 h4 hf
def f_X12_row  (a0 : Option Nat) (a1 : Int32) (a2 : Int32) (h : AH) : Option Int32 :=
  (gI 12 29 h a0).bind fun v1 =>
  (f_X12_in a1 0 (v1 - 1) h).bind fun v2 =>
  if v2 = 0 then
    some (-9)
  else
    (f_X12_in a2 0 1 h).bind fun v3 =>
    if v3 = 0 then
      some (-9)
    else
      (gR 12 28 h a0).bind fun v4 =>
      (aI h v4 ((2 * a1) + a2)).bind fun v5 =>
      some v5
set_option maxRecDepth 20000 in
theorem m_X12_row  {a0 : Option Nat} {a1 : Int32} {a2 : Int32} {h : AH} {w : Int32} (hf : f_X12_row a0 a1 a2 h = some w) : CT yX12_row (wU yX12_row cX12_row 3 (some .int)) (rmD 2 0 0) 0 0 [tR a0, tI a1, tI a2] h (some (tI w), h) := by
  refine CT.of (cc := cX12_row) (nL := 3) (ret := (some .int)) (by decide) (by simp [lg_sl, vOf_cat, wOf]) ?_
  intro K X
  refine g_locs (lv' := [(0, tR a0), (1, tI a1), (2, tI a2)]) (fun q hq => hq) ?_
  unfold f_X12_row at hf
  refine g_iload_n X dX12_row_0 1 rfl ?_
  refine g_iconst (v := 0) X dX12_row_1 (by decide) ?_
  refine g_aload_n X dX12_row_2 0 rfl ?_
  refine g_getI X hf (T := TX12) rfl (by decide) (by decide) in_RX12 tb_1164 rfl dX12_row_3 (fun v1 hf => ?_)
  refine g_iconst (v := 1) X dX12_row_6 (by decide) ?_
  refine g_isub X dX12_row_7 ?_
  refine g_callS (n := 3) (av := [tI a1, tI 0, tI (v1 - 1)]) (rest := []) X hf (fun v2 => (some (tI v2), h)) (fun _ q => m_X12_in q) (gdS tb_1226 tb_1227 tb_12 tb_1228) rfl (by decide +kernel) rfl (by decide) (by decide) rfl (Nat.le_of_ble_eq_true rfl) dX12_row_8 (fun v2 hf => ?_)
  refine g_ifeq (tgt := 36) X hf dX12_row_11 (by decide) (fun hf => ?_) (fun hf => ?_)
  · refine g_bipush (v := (-9)) X dX12_row_36 (by decide) ?_
    exact g_ireturn X (zP hf) (by decide) (by decide) dX12_row_38
  · refine g_iload_n X dX12_row_14 2 rfl ?_
    refine g_iconst (v := 0) X dX12_row_15 (by decide) ?_
    refine g_iconst (v := 1) X dX12_row_16 (by decide) ?_
    refine g_callS (n := 3) (av := [tI a2, tI 0, tI 1]) (rest := []) X hf (fun v3 => (some (tI v3), h)) (fun _ q => m_X12_in q) (gdS tb_1226 tb_1227 tb_12 tb_1228) rfl (by decide +kernel) rfl (by decide) (by decide) rfl (Nat.le_of_ble_eq_true rfl) dX12_row_17 (fun v3 hf => ?_)
    refine g_ifeq (tgt := 36) X hf dX12_row_20 (by decide) (fun hf => ?_) (fun hf => ?_)
    · refine g_bipush (v := (-9)) X dX12_row_36 (by decide) ?_
      exact g_ireturn X (zP hf) (by decide) (by decide) dX12_row_38
    · refine g_aload_n X dX12_row_23 0 rfl ?_
      refine g_getR X hf (T := TX12) rfl (by decide) (by decide) in_RX12 tb_1163 rfl dX12_row_24 (fun v4 hf => ?_)
      refine g_iconst (v := 2) X dX12_row_27 (by decide) ?_
      refine g_iload_n X dX12_row_28 1 rfl ?_
      refine g_imul X dX12_row_29 ?_
      refine g_iload_n X dX12_row_30 2 rfl ?_
      refine g_iadd X dX12_row_31 ?_
      refine g_iaload X hf dX12_row_32 (fun v5 hf => ?_)
      refine g_goto (tgt := 38) X dX12_row_33 (by decide) ?_
      exact g_ireturn X (zP hf) (by decide) (by decide) dX12_row_38
def f_X12_alterRow  (a0 : Option Nat) (a1 : Int32) (a2 : Int32) (a3 : Int32) (h : AH) : Option (Int32 × AH) :=
  (gI 12 29 h a0).bind fun v1 =>
  (f_X12_in a1 0 (v1 - 1) h).bind fun v2 =>
  if v2 = 0 then
    some ((-9), h)
  else
    (f_X12_in a2 0 1 h).bind fun v3 =>
    if v3 = 0 then
      some ((-9), h)
    else
      (gR 12 28 h a0).bind fun v4 =>
      (aI h v4 ((2 * a1) + a2)).bind fun v5 =>
      (gR 12 28 h a0).bind fun v6 =>
      (sI h v6 ((2 * a1) + a2) a3).bind fun h7 =>
      some (v5, h7)
set_option maxRecDepth 20000 in
theorem m_X12_alterRow  {a0 : Option Nat} {a1 : Int32} {a2 : Int32} {a3 : Int32} {h : AH} {w : (Int32 × AH)} (hf : f_X12_alterRow a0 a1 a2 a3 h = some w) : CT yX12_alterRow (wU yX12_alterRow cX12_alterRow 5 (some .int)) (rmD 2 0 0) 0 0 [tR a0, tI a1, tI a2, tI a3] h (some (tI w.1), w.2) := by
  refine CT.of (cc := cX12_alterRow) (nL := 5) (ret := (some .int)) (by decide) (by simp [lg_sl, vOf_cat, wOf]) ?_
  intro K X
  refine g_locs (lv' := [(0, tR a0), (1, tI a1), (2, tI a2), (3, tI a3)]) (fun q hq => hq) ?_
  unfold f_X12_alterRow at hf
  refine g_iload_n X dX12_alterRow_0 1 rfl ?_
  refine g_iconst (v := 0) X dX12_alterRow_1 (by decide) ?_
  refine g_aload_n X dX12_alterRow_2 0 rfl ?_
  refine g_getI X hf (T := TX12) rfl (by decide) (by decide) in_RX12 tb_1164 rfl dX12_alterRow_3 (fun v1 hf => ?_)
  refine g_iconst (v := 1) X dX12_alterRow_6 (by decide) ?_
  refine g_isub X dX12_alterRow_7 ?_
  refine g_callS (n := 3) (av := [tI a1, tI 0, tI (v1 - 1)]) (rest := []) X hf (fun v2 => (some (tI v2), h)) (fun _ q => m_X12_in q) (gdS tb_1226 tb_1227 tb_12 tb_1228) rfl (by decide +kernel) rfl (by decide) (by decide) rfl (Nat.le_of_ble_eq_true rfl) dX12_alterRow_8 (fun v2 hf => ?_)
  refine g_ifeq (tgt := 23) X hf dX12_alterRow_11 (by decide) (fun hf => ?_) (fun hf => ?_)
  · refine g_bipush (v := (-9)) X dX12_alterRow_23 (by decide) ?_
    exact g_ireturn X (zW hf) (by decide) (by decide) dX12_alterRow_25
  · refine g_iload_n X dX12_alterRow_14 2 rfl ?_
    refine g_iconst (v := 0) X dX12_alterRow_15 (by decide) ?_
    refine g_iconst (v := 1) X dX12_alterRow_16 (by decide) ?_
    refine g_callS (n := 3) (av := [tI a2, tI 0, tI 1]) (rest := []) X hf (fun v3 => (some (tI v3), h)) (fun _ q => m_X12_in q) (gdS tb_1226 tb_1227 tb_12 tb_1228) rfl (by decide +kernel) rfl (by decide) (by decide) rfl (Nat.le_of_ble_eq_true rfl) dX12_alterRow_17 (fun v3 hf => ?_)
    refine g_ifne (tgt := 26) X hf dX12_alterRow_20 (by decide) (fun hf => ?_) (fun hf => ?_)
    · refine g_bipush (v := (-9)) X dX12_alterRow_23 (by decide) ?_
      exact g_ireturn X (zW hf) (by decide) (by decide) dX12_alterRow_25
    · refine g_aload_n X dX12_alterRow_26 0 rfl ?_
      refine g_getR X hf (T := TX12) rfl (by decide) (by decide) in_RX12 tb_1163 rfl dX12_alterRow_27 (fun v4 hf => ?_)
      refine g_iconst (v := 2) X dX12_alterRow_30 (by decide) ?_
      refine g_iload_n X dX12_alterRow_31 1 rfl ?_
      refine g_imul X dX12_alterRow_32 ?_
      refine g_iload_n X dX12_alterRow_33 2 rfl ?_
      refine g_iadd X dX12_alterRow_34 ?_
      refine g_iaload X hf dX12_alterRow_35 (fun v5 hf => ?_)
      refine g_istore (lv' := [(0, tR a0), (1, tI a1), (2, tI a2), (3, tI a3), (4, tI v5)]) X dX12_alterRow_36 (by decide) (in_pick [1, 2, 3, 4, 0] rfl) ?_
      refine g_aload_n X dX12_alterRow_38 0 rfl ?_
      refine g_getR X hf (T := TX12) rfl (by decide) (by decide) in_RX12 tb_1163 rfl dX12_alterRow_39 (fun v6 hf => ?_)
      refine g_iconst (v := 2) X dX12_alterRow_42 (by decide) ?_
      refine g_iload_n X dX12_alterRow_43 1 rfl ?_
      refine g_imul X dX12_alterRow_44 ?_
      refine g_iload_n X dX12_alterRow_45 2 rfl ?_
      refine g_iadd X dX12_alterRow_46 ?_
      refine g_iload_n X dX12_alterRow_47 3 rfl ?_
      refine g_iastore X hf dX12_alterRow_48 (fun h7 hf => ?_)
      refine g_iload X dX12_alterRow_49 4 rfl ?_
      exact g_ireturn X (zW hf) (by decide) (by decide) dX12_alterRow_51
def b_X12_judge_11    : Nat → Option Nat → Int32 → Int32 → AH → Option (Int32 × AH)
  | 0 => fun _ _ _ _ => none
  | n + 1 => fun x0 x1 x2 h =>
    (gI 12 29 h x0).bind fun v1 =>
    if x2 < v1 then
      (gR 12 0 h x0).bind fun v2 =>
      (aI h v2 2).bind fun v3 =>
      if x2 < v3 then
        (gR 12 28 h x0).bind fun v4 =>
        (aI h v4 (2 * x2)).bind fun v5 =>
        if v5 = x2 then
          (gR 12 28 h x0).bind fun v6 =>
          (aI h v6 ((2 * x2) + 1)).bind fun v7 =>
          (ck 12 h x0 (f_X12_clubsFor x0 x2 x1 h)).bind fun p8 =>
          if v7 = p8.1 then
            b_X12_judge_11 n x0 x1 (x2 + 1) p8.2
          else
            some ((x2 + 1), p8.2)
        else
          some ((x2 + 1), h)
      else
        some ((x2 + 1), h)
    else
      (gI 12 29 h x0).bind fun v9 =>
      (gR 12 0 h x0).bind fun v10 =>
      (aI h v10 2).bind fun v11 =>
      if v9 < v11 then
        (gI 12 29 h x0).bind fun v12 =>
        some ((v12 + 1), h)
      else
        some (0, h)
set_option maxRecDepth 20000 in
theorem w_X12_judge_11 {K : KT} {w : (Int32 × AH)}   (X : CX K cX12_judge RX12 TB (some .int) "judge" (rmD 43 0 0) 3 0 0)  : ∀ (n : Nat) (x0 : Option Nat) (x1 : Int32) (x2 : Int32) (h : AH), b_X12_judge_11 n x0 x1 x2 h = some w → GG K (some (tI w.1), w.2) 0 0 11 [(0, tR x0), (1, tI x1), (2, tI x2)] [] h := by
  intro n
  induction n with
  | zero =>
    intro x0 x1 x2 h hf
    cases (show none = some w from hf)
  | succ n ih =>
    intro x0 x1 x2 h hf
    rw [b_X12_judge_11] at hf
    refine g_iload_n X dX12_judge_11 2 rfl ?_
    refine g_aload_n X dX12_judge_12 0 rfl ?_
    refine g_getI X hf (T := TX12) rfl (by decide) (by decide) in_RX12 tb_1164 rfl dX12_judge_13 (fun v1 hf => ?_)
    refine g_icmpge (tgt := 70) X hf dX12_judge_16 (by decide) (fun hf => ?_) (fun hf => ?_)
    · refine g_iload_n X dX12_judge_19 2 rfl ?_
      refine g_aload_n X dX12_judge_20 0 rfl ?_
      refine g_getR X hf (T := TX12) rfl (by decide) (by decide) in_RX12 tb_1135 rfl dX12_judge_21 (fun v2 hf => ?_)
      refine g_iconst (v := 2) X dX12_judge_24 (by decide) ?_
      refine g_iaload X hf dX12_judge_25 (fun v3 hf => ?_)
      refine g_icmpge (tgt := 60) X hf dX12_judge_26 (by decide) (fun hf => ?_) (fun hf => ?_)
      · refine g_aload_n X dX12_judge_29 0 rfl ?_
        refine g_getR X hf (T := TX12) rfl (by decide) (by decide) in_RX12 tb_1163 rfl dX12_judge_30 (fun v4 hf => ?_)
        refine g_iconst (v := 2) X dX12_judge_33 (by decide) ?_
        refine g_iload_n X dX12_judge_34 2 rfl ?_
        refine g_imul X dX12_judge_35 ?_
        refine g_iaload X hf dX12_judge_36 (fun v5 hf => ?_)
        refine g_iload_n X dX12_judge_37 2 rfl ?_
        refine g_icmpne (tgt := 60) X hf dX12_judge_38 (by decide) (fun hf => ?_) (fun hf => ?_)
        · refine g_aload_n X dX12_judge_41 0 rfl ?_
          refine g_getR X hf (T := TX12) rfl (by decide) (by decide) in_RX12 tb_1163 rfl dX12_judge_42 (fun v6 hf => ?_)
          refine g_iconst (v := 2) X dX12_judge_45 (by decide) ?_
          refine g_iload_n X dX12_judge_46 2 rfl ?_
          refine g_imul X dX12_judge_47 ?_
          refine g_iconst (v := 1) X dX12_judge_48 (by decide) ?_
          refine g_iadd X dX12_judge_49 ?_
          refine g_iaload X hf dX12_judge_50 (fun v7 hf => ?_)
          refine g_aload_n X dX12_judge_51 0 rfl ?_
          refine g_iload_n X dX12_judge_52 2 rfl ?_
          refine g_iload_n X dX12_judge_53 1 rfl ?_
          refine g_callV (n := 2) (av := [tI x2, tI x1]) (rest := [tI v7]) (k := 12) X hf (fun p8 => (some (tI p8.1), p8.2)) (fun _ q => m_X12_clubsFor q) (gdV tb_1513 tb_1514 tb_1727 tb_12 tb_1515) rfl (by decide +kernel) rfl (by decide) rfl (by decide) (by decide) rfl (Nat.le_of_ble_eq_true rfl) dX12_judge_54 (fun p8 hf => ?_)
          refine g_icmpeq (tgt := 64) X hf dX12_judge_57 (by decide) (fun hf => ?_) (fun hf => ?_)
          · refine g_iinc (v := (x2 + 1)) (lv' := [(0, tR x0), (1, tI x1), (2, tI (x2 + 1))]) X dX12_judge_64 2 rfl (by rfl) (by decide) (in_pick [1, 2, 0] rfl) ?_
            refine g_goto (tgt := 11) X dX12_judge_67 (by decide) ?_
            exact ih x0 x1 (x2 + 1) p8.2 hf
          · refine g_iload_n X dX12_judge_60 2 rfl ?_
            refine g_iconst (v := 1) X dX12_judge_61 (by decide) ?_
            refine g_iadd X dX12_judge_62 ?_
            exact g_ireturn X (zW hf) (by decide) (by decide) dX12_judge_63
        · refine g_iload_n X dX12_judge_60 2 rfl ?_
          refine g_iconst (v := 1) X dX12_judge_61 (by decide) ?_
          refine g_iadd X dX12_judge_62 ?_
          exact g_ireturn X (zW hf) (by decide) (by decide) dX12_judge_63
      · refine g_iload_n X dX12_judge_60 2 rfl ?_
        refine g_iconst (v := 1) X dX12_judge_61 (by decide) ?_
        refine g_iadd X dX12_judge_62 ?_
        exact g_ireturn X (zW hf) (by decide) (by decide) dX12_judge_63
    · refine g_aload_n X dX12_judge_70 0 rfl ?_
      refine g_getI X hf (T := TX12) rfl (by decide) (by decide) in_RX12 tb_1164 rfl dX12_judge_71 (fun v9 hf => ?_)
      refine g_aload_n X dX12_judge_74 0 rfl ?_
      refine g_getR X hf (T := TX12) rfl (by decide) (by decide) in_RX12 tb_1135 rfl dX12_judge_75 (fun v10 hf => ?_)
      refine g_iconst (v := 2) X dX12_judge_78 (by decide) ?_
      refine g_iaload X hf dX12_judge_79 (fun v11 hf => ?_)
      refine g_icmpge (tgt := 92) X hf dX12_judge_80 (by decide) (fun hf => ?_) (fun hf => ?_)
      · refine g_aload_n X dX12_judge_83 0 rfl ?_
        refine g_getI X hf (T := TX12) rfl (by decide) (by decide) in_RX12 tb_1164 rfl dX12_judge_84 (fun v12 hf => ?_)
        refine g_iconst (v := 1) X dX12_judge_87 (by decide) ?_
        refine g_iadd X dX12_judge_88 ?_
        refine g_goto (tgt := 93) X dX12_judge_89 (by decide) ?_
        exact g_ireturn X (zW hf) (by decide) (by decide) dX12_judge_93
      · refine g_iconst (v := 0) X dX12_judge_92 (by decide) ?_
        exact g_ireturn X (zW hf) (by decide) (by decide) dX12_judge_93
def f_X12_judge  (a0 : Option Nat) (a1 : Int32) (h : AH) : Option (Int32 × AH) :=
  (f_X12_isDay a1 h).bind fun v1 =>
  if v1 = 0 then
    some ((-1), h)
  else
    b_X12_judge_11 FU a0 a1 0 h
set_option maxRecDepth 20000 in
theorem m_X12_judge  {a0 : Option Nat} {a1 : Int32} {h : AH} {w : (Int32 × AH)} (hf : f_X12_judge a0 a1 h = some w) : CT yX12_judge (wU yX12_judge cX12_judge 3 (some .int)) (rmD 43 0 0) 0 0 [tR a0, tI a1] h (some (tI w.1), w.2) := by
  refine CT.of (cc := cX12_judge) (nL := 3) (ret := (some .int)) (by decide) (by simp [lg_sl, vOf_cat, wOf]) ?_
  intro K X
  refine g_locs (lv' := [(0, tR a0), (1, tI a1)]) (fun q hq => hq) ?_
  unfold f_X12_judge at hf
  refine g_iload_n X dX12_judge_0 1 rfl ?_
  refine g_callS (n := 1) (av := [tI a1]) (rest := []) X hf (fun v1 => (some (tI v1), h)) (fun _ q => m_X12_isDay q) (gdS tb_1239 tb_1240 tb_12 tb_1241) rfl (by decide +kernel) rfl (by decide) (by decide) rfl (Nat.le_of_ble_eq_true rfl) dX12_judge_1 (fun v1 hf => ?_)
  refine g_ifne (tgt := 9) X hf dX12_judge_4 (by decide) (fun hf => ?_) (fun hf => ?_)
  · refine g_iconst (v := (-1)) X dX12_judge_7 (by decide) ?_
    exact g_ireturn X (zW hf) (by decide) (by decide) dX12_judge_8
  · refine g_iconst (v := 0) X dX12_judge_9 (by decide) ?_
    refine g_istore_n (lv' := [(0, tR a0), (1, tI a1), (2, tI 0)]) X dX12_judge_10 (by decide) (in_pick [1, 2, 0] rfl) ?_
    exact w_X12_judge_11 X FU a0 a1 0 h hf
def b_X12_best_122  (k26 : Option Nat → Int32 → Int32 → Int32 → Int32 → Int32 → AH → Option (Int32 × AH)) (x0 : Option Nat) (x1 : Int32) (x2 : Int32) (x4 : Int32) (x5 : Int32) (x6 : Int32) (s0 : Int32) (h : AH) : Option (Int32 × AH) :=
  if x4 < x6 then
    k26 x0 x1 x2 s0 x6 (x5 + 1) h
  else
    k26 x0 x1 x2 s0 x4 (x5 + 1) h
set_option maxRecDepth 20000 in
theorem w_X12_best_122 {K : KT} {w : (Int32 × AH)} {k26 : Option Nat → Int32 → Int32 → Int32 → Int32 → Int32 → AH → Option (Int32 × AH)}  (X : CX K cX12_best RX12 TB (some .int) "best" (rmD 43 0 0) 9 0 0) (hk26 : ∀ (x0 : Option Nat) (x1 : Int32) (x2 : Int32) (x3 : Int32) (x4 : Int32) (x5 : Int32) (h : AH), k26 x0 x1 x2 x3 x4 x5 h = some w → GG K (some (tI w.1), w.2) 0 0 26 [(0, tR x0), (1, tI x1), (2, tI x2), (3, tI x3), (4, tI x4), (5, tI x5)] [] h) (x0 : Option Nat) (x1 : Int32) (x2 : Int32) (x4 : Int32) (x5 : Int32) (x6 : Int32) (s0 : Int32) (h : AH) (hf : b_X12_best_122 k26 x0 x1 x2 x4 x5 x6 s0 h = some w) : GG K (some (tI w.1), w.2) 0 0 122 [(0, tR x0), (1, tI x1), (2, tI x2), (4, tI x4), (5, tI x5), (6, tI x6)] [tI s0] h := by
  unfold b_X12_best_122 at hf
  refine g_istore_n (lv' := [(0, tR x0), (1, tI x1), (2, tI x2), (3, tI s0), (4, tI x4), (5, tI x5), (6, tI x6)]) X dX12_best_122 (by decide) (in_pick [1, 2, 3, 0, 4, 5, 6] rfl) ?_
  refine g_iload X dX12_best_123 6 rfl ?_
  refine g_iload X dX12_best_125 4 rfl ?_
  refine g_icmple (tgt := 135) X hf dX12_best_127 (by decide) (fun hf => ?_) (fun hf => ?_)
  · refine g_iload X dX12_best_130 6 rfl ?_
    refine g_goto (tgt := 137) X dX12_best_132 (by decide) ?_
    refine g_istore (lv' := [(0, tR x0), (1, tI x1), (2, tI x2), (3, tI s0), (4, tI x6), (5, tI x5), (6, tI x6)]) X dX12_best_137 (by decide) (in_pick [1, 2, 3, 4, 0, 5, 6] rfl) ?_
    refine g_iinc (v := (x5 + 1)) (lv' := [(0, tR x0), (1, tI x1), (2, tI x2), (3, tI s0), (4, tI x6), (5, tI (x5 + 1)), (6, tI x6)]) X dX12_best_139 5 rfl (by rfl) (by decide) (in_pick [1, 2, 3, 4, 5, 0, 6] rfl) ?_
    refine g_goto (tgt := 26) X dX12_best_142 (by decide) ?_
    refine g_locs (lv' := [(0, tR x0), (1, tI x1), (2, tI x2), (3, tI s0), (4, tI x6), (5, tI (x5 + 1))]) (in_pick [0, 1, 2, 3, 4, 5] rfl) ?_
    exact hk26 x0 x1 x2 s0 x6 (x5 + 1) h hf
  · refine g_iload X dX12_best_135 4 rfl ?_
    refine g_istore (lv' := [(0, tR x0), (1, tI x1), (2, tI x2), (3, tI s0), (4, tI x4), (5, tI x5), (6, tI x6)]) X dX12_best_137 (by decide) (in_pick [1, 2, 3, 4, 0, 5, 6] rfl) ?_
    refine g_iinc (v := (x5 + 1)) (lv' := [(0, tR x0), (1, tI x1), (2, tI x2), (3, tI s0), (4, tI x4), (5, tI (x5 + 1)), (6, tI x6)]) X dX12_best_139 5 rfl (by rfl) (by decide) (in_pick [1, 2, 3, 4, 5, 0, 6] rfl) ?_
    refine g_goto (tgt := 26) X dX12_best_142 (by decide) ?_
    refine g_locs (lv' := [(0, tR x0), (1, tI x1), (2, tI x2), (3, tI s0), (4, tI x4), (5, tI (x5 + 1))]) (in_pick [0, 1, 2, 3, 4, 5] rfl) ?_
    exact hk26 x0 x1 x2 s0 x4 (x5 + 1) h hf
def b_X12_best_99  (k26 : Option Nat → Int32 → Int32 → Int32 → Int32 → Int32 → AH → Option (Int32 × AH)) (k62 : Option Nat → Int32 → Int32 → Int32 → Int32 → Int32 → Int32 → Int32 → AH → Option (Int32 × AH)) (x0 : Option Nat) (x1 : Int32) (x2 : Int32) (x3 : Int32) (x4 : Int32) (x5 : Int32) (x6 : Int32) (x7 : Int32) (h : AH) : Option (Int32 × AH) :=
  k62 x0 x1 x2 x3 x4 x5 x6 (x7 + 1) h
set_option maxRecDepth 20000 in
theorem w_X12_best_99 {K : KT} {w : (Int32 × AH)} {k26 : Option Nat → Int32 → Int32 → Int32 → Int32 → Int32 → AH → Option (Int32 × AH)} {k62 : Option Nat → Int32 → Int32 → Int32 → Int32 → Int32 → Int32 → Int32 → AH → Option (Int32 × AH)}  (X : CX K cX12_best RX12 TB (some .int) "best" (rmD 43 0 0) 9 0 0) (hk26 : ∀ (x0 : Option Nat) (x1 : Int32) (x2 : Int32) (x3 : Int32) (x4 : Int32) (x5 : Int32) (h : AH), k26 x0 x1 x2 x3 x4 x5 h = some w → GG K (some (tI w.1), w.2) 0 0 26 [(0, tR x0), (1, tI x1), (2, tI x2), (3, tI x3), (4, tI x4), (5, tI x5)] [] h) (hk62 : ∀ (x0 : Option Nat) (x1 : Int32) (x2 : Int32) (x3 : Int32) (x4 : Int32) (x5 : Int32) (x6 : Int32) (x7 : Int32) (h : AH), k62 x0 x1 x2 x3 x4 x5 x6 x7 h = some w → GG K (some (tI w.1), w.2) 0 0 62 [(0, tR x0), (1, tI x1), (2, tI x2), (3, tI x3), (4, tI x4), (5, tI x5), (6, tI x6), (7, tI x7)] [] h) (x0 : Option Nat) (x1 : Int32) (x2 : Int32) (x3 : Int32) (x4 : Int32) (x5 : Int32) (x6 : Int32) (x7 : Int32) (h : AH) (hf : b_X12_best_99 k26 k62 x0 x1 x2 x3 x4 x5 x6 x7 h = some w) : GG K (some (tI w.1), w.2) 0 0 99 [(0, tR x0), (1, tI x1), (2, tI x2), (3, tI x3), (4, tI x4), (5, tI x5), (6, tI x6), (7, tI x7)] [] h := by
  unfold b_X12_best_99 at hf
  refine g_iload X dX12_best_99 6 rfl ?_
  refine g_istore (lv' := [(0, tR x0), (1, tI x1), (2, tI x2), (3, tI x3), (4, tI x4), (5, tI x5), (6, tI x6), (7, tI x7)]) X dX12_best_101 (by decide) (in_pick [1, 2, 3, 4, 5, 6, 0, 7] rfl) ?_
  refine g_iinc (v := (x7 + 1)) (lv' := [(0, tR x0), (1, tI x1), (2, tI x2), (3, tI x3), (4, tI x4), (5, tI x5), (6, tI x6), (7, tI (x7 + 1))]) X dX12_best_103 7 rfl (by rfl) (by decide) (in_pick [1, 2, 3, 4, 5, 6, 7, 0] rfl) ?_
  refine g_goto (tgt := 62) X dX12_best_106 (by decide) ?_
  exact hk62 x0 x1 x2 x3 x4 x5 x6 (x7 + 1) h hf
def b_X12_best_62  (k26 : Option Nat → Int32 → Int32 → Int32 → Int32 → Int32 → AH → Option (Int32 × AH))  : Nat → Option Nat → Int32 → Int32 → Int32 → Int32 → Int32 → Int32 → Int32 → AH → Option (Int32 × AH)
  | 0 => fun _ _ _ _ _ _ _ _ _ => none
  | n + 1 => fun x0 x1 x2 x3 x4 x5 x6 x7 h =>
    (gR 12 0 h x0).bind fun v1 =>
    (aI h v1 2).bind fun v2 =>
    if x7 < v2 then
      (ck 12 h x0 (f_X12_clubsFor x0 x7 x1 h)).bind fun p3 =>
      if p3.1 < 0 then
        b_X12_best_99 k26 (b_X12_best_62 k26 n) x0 x1 x2 x3 x4 x5 x6 x7 p3.2
      else
        if p3.1 < x6 then
          b_X12_best_62 k26 n x0 x1 x2 x3 x4 x5 p3.1 (x7 + 1) p3.2
        else
          b_X12_best_99 k26 (b_X12_best_62 k26 n) x0 x1 x2 x3 x4 x5 x6 x7 p3.2
    else
      if x4 < x6 then
        b_X12_best_122 k26 x0 x1 x2 x4 x5 x6 x5 h
      else
        b_X12_best_122 k26 x0 x1 x2 x4 x5 x6 x3 h
set_option maxRecDepth 20000 in
theorem w_X12_best_62 {K : KT} {w : (Int32 × AH)} {k26 : Option Nat → Int32 → Int32 → Int32 → Int32 → Int32 → AH → Option (Int32 × AH)}  (X : CX K cX12_best RX12 TB (some .int) "best" (rmD 43 0 0) 9 0 0) (hk26 : ∀ (x0 : Option Nat) (x1 : Int32) (x2 : Int32) (x3 : Int32) (x4 : Int32) (x5 : Int32) (h : AH), k26 x0 x1 x2 x3 x4 x5 h = some w → GG K (some (tI w.1), w.2) 0 0 26 [(0, tR x0), (1, tI x1), (2, tI x2), (3, tI x3), (4, tI x4), (5, tI x5)] [] h) : ∀ (n : Nat) (x0 : Option Nat) (x1 : Int32) (x2 : Int32) (x3 : Int32) (x4 : Int32) (x5 : Int32) (x6 : Int32) (x7 : Int32) (h : AH), b_X12_best_62 k26 n x0 x1 x2 x3 x4 x5 x6 x7 h = some w → GG K (some (tI w.1), w.2) 0 0 62 [(0, tR x0), (1, tI x1), (2, tI x2), (3, tI x3), (4, tI x4), (5, tI x5), (6, tI x6), (7, tI x7)] [] h := by
  intro n
  induction n with
  | zero =>
    intro x0 x1 x2 x3 x4 x5 x6 x7 h hf
    cases (show none = some w from hf)
  | succ n ih =>
    intro x0 x1 x2 x3 x4 x5 x6 x7 h hf
    rw [b_X12_best_62] at hf
    refine g_iload X dX12_best_62 7 rfl ?_
    refine g_aload_n X dX12_best_64 0 rfl ?_
    refine g_getR X hf (T := TX12) rfl (by decide) (by decide) in_RX12 tb_1135 rfl dX12_best_65 (fun v1 hf => ?_)
    refine g_iconst (v := 2) X dX12_best_68 (by decide) ?_
    refine g_iaload X hf dX12_best_69 (fun v2 hf => ?_)
    refine g_icmpge (tgt := 109) X hf dX12_best_70 (by decide) (fun hf => ?_) (fun hf => ?_)
    · refine g_aload_n X dX12_best_73 0 rfl ?_
      refine g_iload X dX12_best_74 7 rfl ?_
      refine g_iload_n X dX12_best_76 1 rfl ?_
      refine g_callV (n := 2) (av := [tI x7, tI x1]) (rest := []) (k := 12) X hf (fun p3 => (some (tI p3.1), p3.2)) (fun _ q => m_X12_clubsFor q) (gdV tb_1513 tb_1514 tb_1727 tb_12 tb_1515) rfl (by decide +kernel) rfl (by decide) rfl (by decide) (by decide) rfl (Nat.le_of_ble_eq_true rfl) dX12_best_77 (fun p3 hf => ?_)
      refine g_istore (lv' := [(0, tR x0), (1, tI x1), (2, tI x2), (3, tI x3), (4, tI x4), (5, tI x5), (6, tI x6), (7, tI x7), (8, tI p3.1)]) X dX12_best_80 (by decide) (in_pick [1, 2, 3, 4, 5, 6, 7, 8, 0] rfl) ?_
      refine g_iload X dX12_best_82 8 rfl ?_
      refine g_iflt (tgt := 99) X hf dX12_best_84 (by decide) (fun hf => ?_) (fun hf => ?_)
      · refine g_locs (lv' := [(0, tR x0), (1, tI x1), (2, tI x2), (3, tI x3), (4, tI x4), (5, tI x5), (6, tI x6), (7, tI x7)]) (in_pick [0, 1, 2, 3, 4, 5, 6, 7] rfl) ?_
        exact w_X12_best_99 X hk26 ih x0 x1 x2 x3 x4 x5 x6 x7 p3.2 hf
      · refine g_iload X dX12_best_87 8 rfl ?_
        refine g_iload X dX12_best_89 6 rfl ?_
        refine g_icmpge (tgt := 99) X hf dX12_best_91 (by decide) (fun hf => ?_) (fun hf => ?_)
        · refine g_iload X dX12_best_94 8 rfl ?_
          refine g_goto (tgt := 101) X dX12_best_96 (by decide) ?_
          refine g_istore (lv' := [(0, tR x0), (1, tI x1), (2, tI x2), (3, tI x3), (4, tI x4), (5, tI x5), (6, tI p3.1), (7, tI x7), (8, tI p3.1)]) X dX12_best_101 (by decide) (in_pick [1, 2, 3, 4, 5, 6, 0, 7, 8] rfl) ?_
          refine g_iinc (v := (x7 + 1)) (lv' := [(0, tR x0), (1, tI x1), (2, tI x2), (3, tI x3), (4, tI x4), (5, tI x5), (6, tI p3.1), (7, tI (x7 + 1)), (8, tI p3.1)]) X dX12_best_103 7 rfl (by rfl) (by decide) (in_pick [1, 2, 3, 4, 5, 6, 7, 0, 8] rfl) ?_
          refine g_goto (tgt := 62) X dX12_best_106 (by decide) ?_
          refine g_locs (lv' := [(0, tR x0), (1, tI x1), (2, tI x2), (3, tI x3), (4, tI x4), (5, tI x5), (6, tI p3.1), (7, tI (x7 + 1))]) (in_pick [0, 1, 2, 3, 4, 5, 6, 7] rfl) ?_
          exact ih x0 x1 x2 x3 x4 x5 p3.1 (x7 + 1) p3.2 hf
        · refine g_locs (lv' := [(0, tR x0), (1, tI x1), (2, tI x2), (3, tI x3), (4, tI x4), (5, tI x5), (6, tI x6), (7, tI x7)]) (in_pick [0, 1, 2, 3, 4, 5, 6, 7] rfl) ?_
          exact w_X12_best_99 X hk26 ih x0 x1 x2 x3 x4 x5 x6 x7 p3.2 hf
    · refine g_iload X dX12_best_109 6 rfl ?_
      refine g_iload X dX12_best_111 4 rfl ?_
      refine g_icmple (tgt := 121) X hf dX12_best_113 (by decide) (fun hf => ?_) (fun hf => ?_)
      · refine g_iload X dX12_best_116 5 rfl ?_
        refine g_goto (tgt := 122) X dX12_best_118 (by decide) ?_
        refine g_locs (lv' := [(0, tR x0), (1, tI x1), (2, tI x2), (4, tI x4), (5, tI x5), (6, tI x6)]) (in_pick [0, 1, 2, 4, 5, 6] rfl) ?_
        exact w_X12_best_122 X hk26 x0 x1 x2 x4 x5 x6 x5 h hf
      · refine g_iload_n X dX12_best_121 3 rfl ?_
        refine g_locs (lv' := [(0, tR x0), (1, tI x1), (2, tI x2), (4, tI x4), (5, tI x5), (6, tI x6)]) (in_pick [0, 1, 2, 4, 5, 6] rfl) ?_
        exact w_X12_best_122 X hk26 x0 x1 x2 x4 x5 x6 x3 h hf
def b_X12_best_26    : Nat → Option Nat → Int32 → Int32 → Int32 → Int32 → Int32 → AH → Option (Int32 × AH)
  | 0 => fun _ _ _ _ _ _ _ => none
  | n + 1 => fun x0 x1 x2 x3 x4 x5 h =>
    if x5 < 4 then
      (gR 12 0 h x0).bind fun v1 =>
      (aI h v1 (1020 + x5)).bind fun v2 =>
      if v2 < 0 then
        b_X12_best_26 n x0 x1 x2 x3 x4 (x5 + 1) h
      else
        (gR 12 0 h x0).bind fun v3 =>
        (sI h v3 7 x5).bind fun h4 =>
        b_X12_best_62 (b_X12_best_26 n) FU x0 x1 x2 x3 x4 x5 7 0 h4
    else
      (gR 12 0 h x0).bind fun v5 =>
      (sI h v5 7 x2).bind fun h6 =>
      some (x3, h6)
set_option maxRecDepth 20000 in
theorem w_X12_best_26 {K : KT} {w : (Int32 × AH)}   (X : CX K cX12_best RX12 TB (some .int) "best" (rmD 43 0 0) 9 0 0)  : ∀ (n : Nat) (x0 : Option Nat) (x1 : Int32) (x2 : Int32) (x3 : Int32) (x4 : Int32) (x5 : Int32) (h : AH), b_X12_best_26 n x0 x1 x2 x3 x4 x5 h = some w → GG K (some (tI w.1), w.2) 0 0 26 [(0, tR x0), (1, tI x1), (2, tI x2), (3, tI x3), (4, tI x4), (5, tI x5)] [] h := by
  intro n
  induction n with
  | zero =>
    intro x0 x1 x2 x3 x4 x5 h hf
    cases (show none = some w from hf)
  | succ n ih =>
    intro x0 x1 x2 x3 x4 x5 h hf
    rw [b_X12_best_26] at hf
    refine g_iload X dX12_best_26 5 rfl ?_
    refine g_iconst (v := 4) X dX12_best_28 (by decide) ?_
    refine g_icmpge (tgt := 145) X hf dX12_best_29 (by decide) (fun hf => ?_) (fun hf => ?_)
    · refine g_aload_n X dX12_best_32 0 rfl ?_
      refine g_getR X hf (T := TX12) rfl (by decide) (by decide) in_RX12 tb_1135 rfl dX12_best_33 (fun v1 hf => ?_)
      refine g_sipush (v := 1020) X dX12_best_36 (by decide) ?_
      refine g_iload X dX12_best_39 5 rfl ?_
      refine g_iadd X dX12_best_41 ?_
      refine g_iaload X hf dX12_best_42 (fun v2 hf => ?_)
      refine g_iflt (tgt := 139) X hf dX12_best_43 (by decide) (fun hf => ?_) (fun hf => ?_)
      · refine g_iinc (v := (x5 + 1)) (lv' := [(0, tR x0), (1, tI x1), (2, tI x2), (3, tI x3), (4, tI x4), (5, tI (x5 + 1))]) X dX12_best_139 5 rfl (by rfl) (by decide) (in_pick [1, 2, 3, 4, 5, 0] rfl) ?_
        refine g_goto (tgt := 26) X dX12_best_142 (by decide) ?_
        exact ih x0 x1 x2 x3 x4 (x5 + 1) h hf
      · refine g_aload_n X dX12_best_46 0 rfl ?_
        refine g_getR X hf (T := TX12) rfl (by decide) (by decide) in_RX12 tb_1135 rfl dX12_best_47 (fun v3 hf => ?_)
        refine g_bipush (v := 7) X dX12_best_50 (by decide) ?_
        refine g_iload X dX12_best_52 5 rfl ?_
        refine g_iastore X hf dX12_best_54 (fun h4 hf => ?_)
        refine g_bipush (v := 7) X dX12_best_55 (by decide) ?_
        refine g_istore (lv' := [(0, tR x0), (1, tI x1), (2, tI x2), (3, tI x3), (4, tI x4), (5, tI x5), (6, tI 7)]) X dX12_best_57 (by decide) (in_pick [1, 2, 3, 4, 5, 6, 0] rfl) ?_
        refine g_iconst (v := 0) X dX12_best_59 (by decide) ?_
        refine g_istore (lv' := [(0, tR x0), (1, tI x1), (2, tI x2), (3, tI x3), (4, tI x4), (5, tI x5), (6, tI 7), (7, tI 0)]) X dX12_best_60 (by decide) (in_pick [1, 2, 3, 4, 5, 6, 7, 0] rfl) ?_
        exact w_X12_best_62 X ih FU x0 x1 x2 x3 x4 x5 7 0 h4 hf
    · refine g_aload_n X dX12_best_145 0 rfl ?_
      refine g_getR X hf (T := TX12) rfl (by decide) (by decide) in_RX12 tb_1135 rfl dX12_best_146 (fun v5 hf => ?_)
      refine g_bipush (v := 7) X dX12_best_149 (by decide) ?_
      refine g_iload_n X dX12_best_151 2 rfl ?_
      refine g_iastore X hf dX12_best_152 (fun h6 hf => ?_)
      refine g_iload_n X dX12_best_153 3 rfl ?_
      exact g_ireturn X (zW hf) (by decide) (by decide) dX12_best_154
def f_X12_best  (a0 : Option Nat) (a1 : Int32) (h : AH) : Option (Int32 × AH) :=
  (f_X12_isDay a1 h).bind fun v1 =>
  if v1 = 0 then
    some ((-1), h)
  else
    (gR 12 0 h a0).bind fun v2 =>
    (aI h v2 7).bind fun v3 =>
    b_X12_best_26 FU a0 a1 v3 (-3) (-1) 0 h
set_option maxRecDepth 20000 in
theorem m_X12_best  {a0 : Option Nat} {a1 : Int32} {h : AH} {w : (Int32 × AH)} (hf : f_X12_best a0 a1 h = some w) : CT yX12_best (wU yX12_best cX12_best 9 (some .int)) (rmD 43 0 0) 0 0 [tR a0, tI a1] h (some (tI w.1), w.2) := by
  refine CT.of (cc := cX12_best) (nL := 9) (ret := (some .int)) (by decide) (by simp [lg_sl, vOf_cat, wOf]) ?_
  intro K X
  refine g_locs (lv' := [(0, tR a0), (1, tI a1)]) (fun q hq => hq) ?_
  unfold f_X12_best at hf
  refine g_iload_n X dX12_best_0 1 rfl ?_
  refine g_callS (n := 1) (av := [tI a1]) (rest := []) X hf (fun v1 => (some (tI v1), h)) (fun _ q => m_X12_isDay q) (gdS tb_1239 tb_1240 tb_12 tb_1241) rfl (by decide +kernel) rfl (by decide) (by decide) rfl (Nat.le_of_ble_eq_true rfl) dX12_best_1 (fun v1 hf => ?_)
  refine g_ifne (tgt := 9) X hf dX12_best_4 (by decide) (fun hf => ?_) (fun hf => ?_)
  · refine g_iconst (v := (-1)) X dX12_best_7 (by decide) ?_
    exact g_ireturn X (zW hf) (by decide) (by decide) dX12_best_8
  · refine g_aload_n X dX12_best_9 0 rfl ?_
    refine g_getR X hf (T := TX12) rfl (by decide) (by decide) in_RX12 tb_1135 rfl dX12_best_10 (fun v2 hf => ?_)
    refine g_bipush (v := 7) X dX12_best_13 (by decide) ?_
    refine g_iaload X hf dX12_best_15 (fun v3 hf => ?_)
    refine g_istore_n (lv' := [(0, tR a0), (1, tI a1), (2, tI v3)]) X dX12_best_16 (by decide) (in_pick [1, 2, 0] rfl) ?_
    refine g_bipush (v := (-3)) X dX12_best_17 (by decide) ?_
    refine g_istore_n (lv' := [(0, tR a0), (1, tI a1), (2, tI v3), (3, tI (-3))]) X dX12_best_19 (by decide) (in_pick [1, 2, 3, 0] rfl) ?_
    refine g_iconst (v := (-1)) X dX12_best_20 (by decide) ?_
    refine g_istore (lv' := [(0, tR a0), (1, tI a1), (2, tI v3), (3, tI (-3)), (4, tI (-1))]) X dX12_best_21 (by decide) (in_pick [1, 2, 3, 4, 0] rfl) ?_
    refine g_iconst (v := 0) X dX12_best_23 (by decide) ?_
    refine g_istore (lv' := [(0, tR a0), (1, tI a1), (2, tI v3), (3, tI (-3)), (4, tI (-1)), (5, tI 0)]) X dX12_best_24 (by decide) (in_pick [1, 2, 3, 4, 5, 0] rfl) ?_
    exact w_X12_best_26 X FU a0 a1 v3 (-3) (-1) 0 h hf
