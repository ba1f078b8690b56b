def b_X2_areAlike_27   (h : AH) : Nat → Option Nat → Int32 → Int32 → Int32 → Int32 → Option Int32
  | 0 => fun _ _ _ _ _ => none
  | n + 1 => fun x0 x3 x4 x5 x6 =>
    if x6 < 4 then
      b_X2_areAlike_27 h n x0 (x3 / 10) (x4 / 10) (x5 + (mAbs ((iRem x3 10) - (iRem x4 10)))) (x6 + 1)
    else
      (gR 2 15 h x0).bind fun v1 =>
      (aI h v1 3).bind fun v2 =>
      if v2 < x5 then
        some 0
      else
        some 1
set_option maxRecDepth 20000 in
theorem w_X2_areAlike_27 {K : KT} {w : Int32} {h : AH}   (X : CX K cX2_areAlike RX2 TB (some .boolean) "areAlike" (rmD 1 0 0) 7 0 0)  : ∀ (n : Nat) (x0 : Option Nat) (x3 : Int32) (x4 : Int32) (x5 : Int32) (x6 : Int32), b_X2_areAlike_27 h n x0 x3 x4 x5 x6 = some w → GG K (some (tI w), h) 0 0 27 [(0, tR x0), (3, tI x3), (4, tI x4), (5, tI x5), (6, tI x6)] [] h := by
  intro n
  induction n with
  | zero =>
    intro x0 x3 x4 x5 x6 hf
    cases (show none = some w from hf)
  | succ n ih =>
    intro x0 x3 x4 x5 x6 hf
    rw [b_X2_areAlike_27] at hf
    refine g_iload X dX2_areAlike_27 4 rfl ?_
    refine g_iconst (v := 4) X dX2_areAlike_29 (by decide) ?_
    refine g_icmpge (tgt := 69) X hf dX2_areAlike_30 (by decide) (fun hf => ?_) (fun hf => ?_)
    · refine g_iload X dX2_areAlike_33 3 rfl ?_
      refine g_iload_n X dX2_areAlike_35 1 rfl ?_
      refine g_bipush (v := 10) X dX2_areAlike_36 (by decide) ?_
      refine g_iremc X dX2_areAlike_38 (by decide) ?_
      refine g_iload X dX2_areAlike_39 2 rfl ?_
      refine g_bipush (v := 10) X dX2_areAlike_41 (by decide) ?_
      refine g_iremc X dX2_areAlike_43 (by decide) ?_
      refine g_isub X dX2_areAlike_44 ?_
      refine g_mabs X tb_862 tb_863 tb_13 tb_864 ⟨Nat.le_of_ble_eq_true rfl, Nat.le_of_ble_eq_true rfl⟩ ⟨Nat.le_of_ble_eq_true rfl, Nat.le_of_ble_eq_true rfl⟩ dX2_areAlike_45 ?_
      refine g_iadd X dX2_areAlike_48 ?_
      refine g_istore (lv' := [(0, tR x0), (3, tI x3), (4, tI x4), (5, tI (x5 + (mAbs ((iRem x3 10) - (iRem x4 10))))), (6, tI x6)]) X dX2_areAlike_49 (by decide) (in_pick [1, 2, 3, 0, 4] rfl) ?_
      refine g_iload_n X dX2_areAlike_51 1 rfl ?_
      refine g_bipush (v := 10) X dX2_areAlike_52 (by decide) ?_
      refine g_idivc X dX2_areAlike_54 (by decide) ?_
      refine g_istore_n (lv' := [(0, tR x0), (3, tI (x3 / 10)), (4, tI x4), (5, tI (x5 + (mAbs ((iRem x3 10) - (iRem x4 10))))), (6, tI x6)]) X dX2_areAlike_55 (by decide) (in_pick [1, 0, 2, 3, 4] rfl) ?_
      refine g_iload X dX2_areAlike_56 2 rfl ?_
      refine g_bipush (v := 10) X dX2_areAlike_58 (by decide) ?_
      refine g_idivc X dX2_areAlike_60 (by decide) ?_
      refine g_istore (lv' := [(0, tR x0), (3, tI (x3 / 10)), (4, tI (x4 / 10)), (5, tI (x5 + (mAbs ((iRem x3 10) - (iRem x4 10))))), (6, tI x6)]) X dX2_areAlike_61 (by decide) (in_pick [1, 2, 0, 3, 4] rfl) ?_
      refine g_iinc (v := (x6 + 1)) (lv' := [(0, tR x0), (3, tI (x3 / 10)), (4, tI (x4 / 10)), (5, tI (x5 + (mAbs ((iRem x3 10) - (iRem x4 10))))), (6, tI (x6 + 1))]) X dX2_areAlike_63 4 rfl (by rfl) (by decide) (in_pick [1, 2, 3, 4, 0] rfl) ?_
      refine g_goto (tgt := 27) X dX2_areAlike_66 (by decide) ?_
      exact ih x0 (x3 / 10) (x4 / 10) (x5 + (mAbs ((iRem x3 10) - (iRem x4 10)))) (x6 + 1) hf
    · refine g_iload X dX2_areAlike_69 3 rfl ?_
      refine g_aload_n X dX2_areAlike_71 0 rfl ?_
      refine g_getR X hf (T := TX2) rfl (by decide) (by decide) in_RX2 tb_241 rfl dX2_areAlike_72 (fun v1 hf => ?_)
      refine g_iconst (v := 3) X dX2_areAlike_75 (by decide) ?_
      refine g_iaload X hf dX2_areAlike_76 (fun v2 hf => ?_)
      refine g_icmpgt (tgt := 84) X hf dX2_areAlike_77 (by decide) (fun hf => ?_) (fun hf => ?_)
      · refine g_iconst (v := 0) X dX2_areAlike_84 (by decide) ?_
        exact g_zreturn X (zP hf) (by decide) (by decide) (by decide) dX2_areAlike_85
      · refine g_iconst (v := 1) X dX2_areAlike_80 (by decide) ?_
        refine g_goto (tgt := 85) X dX2_areAlike_81 (by decide) ?_
        exact g_zreturn X (zP hf) (by decide) (by decide) (by decide) dX2_areAlike_85
def f_X2_areAlike  (a0 : Option Nat) (a1 : Int32) (a2 : Int32) (h : AH) : Option Int32 :=
  (gR 2 11 h a0).bind fun v1 =>
  (aR h v1 a1).bind fun v2 =>
  (gI 8 6 h v2).bind fun v3 =>
  (gR 2 11 h a0).bind fun v4 =>
  (aR h v4 a2).bind fun v5 =>
  (gI 8 6 h v5).bind fun v6 =>
  b_X2_areAlike_27 h FU a0 v3 v6 0 0
set_option maxRecDepth 20000 in
theorem m_X2_areAlike  {a0 : Option Nat} {a1 : Int32} {a2 : Int32} {h : AH} {w : Int32} (hf : f_X2_areAlike a0 a1 a2 h = some w) : CT yX2_areAlike (wU yX2_areAlike cX2_areAlike 7 (some .boolean)) (rmD 1 0 0) 0 0 [tR a0, tI a1, tI a2] h (some (tI w), h) := by
  refine CT.of (cc := cX2_areAlike) (nL := 7) (ret := (some .boolean)) (by decide) (by simp [lg_sl, vOf_cat, wOf]) ?_
  intro K X
  refine g_locs (lv' := [(0, tR a0), (1, tI a1), (2, tI a2)]) (fun q hq => hq) ?_
  unfold f_X2_areAlike at hf
  refine g_aload_n X dX2_areAlike_0 0 rfl ?_
  refine g_getR X hf (T := TX2) rfl (by decide) (by decide) in_RX2 tb_233 rfl dX2_areAlike_1 (fun v1 hf => ?_)
  refine g_iload_n X dX2_areAlike_4 1 rfl ?_
  refine g_aaload X hf dX2_areAlike_5 (fun v2 hf => ?_)
  refine g_getI X hf (T := TX8) rfl (by decide) (by decide) in_RX8 tb_164 rfl dX2_areAlike_6 (fun v3 hf => ?_)
  refine g_istore_n (lv' := [(0, tR a0), (1, tI a1), (2, tI a2), (3, tI v3)]) X dX2_areAlike_9 (by decide) (in_pick [1, 2, 3, 0] rfl) ?_
  refine g_aload_n X dX2_areAlike_10 0 rfl ?_
  refine g_getR X hf (T := TX2) rfl (by decide) (by decide) in_RX2 tb_233 rfl dX2_areAlike_11 (fun v4 hf => ?_)
  refine g_iload_n X dX2_areAlike_14 2 rfl ?_
  refine g_aaload X hf dX2_areAlike_15 (fun v5 hf => ?_)
  refine g_getI X hf (T := TX8) rfl (by decide) (by decide) in_RX8 tb_164 rfl dX2_areAlike_16 (fun v6 hf => ?_)
  refine g_istore (lv' := [(0, tR a0), (1, tI a1), (2, tI a2), (3, tI v3), (4, tI v6)]) X dX2_areAlike_19 (by decide) (in_pick [1, 2, 3, 4, 0] rfl) ?_
  refine g_iconst (v := 0) X dX2_areAlike_21 (by decide) ?_
  refine g_istore (lv' := [(0, tR a0), (1, tI a1), (2, tI a2), (3, tI v3), (4, tI v6), (5, tI 0)]) X dX2_areAlike_22 (by decide) (in_pick [1, 2, 3, 4, 5, 0] rfl) ?_
  refine g_iconst (v := 0) X dX2_areAlike_24 (by decide) ?_
  refine g_istore (lv' := [(0, tR a0), (1, tI a1), (2, tI a2), (3, tI v3), (4, tI v6), (5, tI 0), (6, tI 0)]) X dX2_areAlike_25 (by decide) (in_pick [1, 2, 3, 4, 5, 6, 0] rfl) ?_
  refine g_locs (lv' := [(0, tR a0), (3, tI v3), (4, tI v6), (5, tI 0), (6, tI 0)]) (in_pick [0, 3, 4, 5, 6] rfl) ?_
  exact w_X2_areAlike_27 X FU a0 v3 v6 0 0 hf
def b_X3_beginEmpty_18    : Nat → Option Nat → Int32 → AH → Option AH
  | 0 => fun _ _ _ => none
  | n + 1 => fun x0 x1 h =>
    if x1 < 4 then
      (gR 3 4 h x0).bind fun v1 =>
      (sI h v1 x1 (-1)).bind fun h2 =>
      (gR 3 5 h2 x0).bind fun v3 =>
      (sI h2 v3 x1 0).bind fun h4 =>
      b_X3_beginEmpty_18 n x0 (x1 + 1) h4
    else
      some h
set_option maxRecDepth 20000 in
theorem w_X3_beginEmpty_18 {K : KT} {w : AH}   (X : CX K cX3_beginEmpty RX3 TB none "beginEmpty" (rmD 1 0 0) 2 0 0)  : ∀ (n : Nat) (x0 : Option Nat) (x1 : Int32) (h : AH), b_X3_beginEmpty_18 n x0 x1 h = some w → GG K (none, w) 0 0 18 [(0, tR x0), (1, tI x1)] [] h := by
  intro n
  induction n with
  | zero =>
    intro x0 x1 h hf
    cases (show none = some w from hf)
  | succ n ih =>
    intro x0 x1 h hf
    rw [b_X3_beginEmpty_18] at hf
    refine g_iload_n X dX3_beginEmpty_18 1 rfl ?_
    refine g_iconst (v := 4) X dX3_beginEmpty_19 (by decide) ?_
    refine g_icmpge (tgt := 43) X hf dX3_beginEmpty_20 (by decide) (fun hf => ?_) (fun hf => ?_)
    · refine g_aload_n X dX3_beginEmpty_23 0 rfl ?_
      refine g_getR X hf (T := TX3) rfl (by decide) (by decide) in_RX3 tb_197 rfl dX3_beginEmpty_24 (fun v1 hf => ?_)
      refine g_iload_n X dX3_beginEmpty_27 1 rfl ?_
      refine g_iconst (v := (-1)) X dX3_beginEmpty_28 (by decide) ?_
      refine g_iastore X hf dX3_beginEmpty_29 (fun h2 hf => ?_)
      refine g_aload_n X dX3_beginEmpty_30 0 rfl ?_
      refine g_getR X hf (T := TX3) rfl (by decide) (by decide) in_RX3 tb_199 rfl dX3_beginEmpty_31 (fun v3 hf => ?_)
      refine g_iload_n X dX3_beginEmpty_34 1 rfl ?_
      refine g_iconst (v := 0) X dX3_beginEmpty_35 (by decide) ?_
      refine g_iastore X hf dX3_beginEmpty_36 (fun h4 hf => ?_)
      refine g_iinc (v := (x1 + 1)) (lv' := [(0, tR x0), (1, tI (x1 + 1))]) X dX3_beginEmpty_37 1 rfl (by rfl) (by decide) (in_pick [1, 0] rfl) ?_
      refine g_goto (tgt := 18) X dX3_beginEmpty_40 (by decide) ?_
      exact ih x0 (x1 + 1) h4 hf
    · exact g_vreturn X (zV hf) (by decide) (by decide) dX3_beginEmpty_43
def f_X3_beginEmpty  (a0 : Option Nat) (h : AH) : Option AH :=
  (pZ 3 0 h a0 1).bind fun h1 =>
  (pI 3 1 h1 a0 10).bind fun h2 =>
  (pI 3 3 h2 a0 0).bind fun h3 =>
  b_X3_beginEmpty_18 FU a0 0 h3
set_option maxRecDepth 20000 in
theorem m_X3_beginEmpty  {a0 : Option Nat} {h : AH} {w : AH} (hf : f_X3_beginEmpty a0 h = some w) : CT yX3_beginEmpty (wU yX3_beginEmpty cX3_beginEmpty 2 none) (rmD 1 0 0) 0 0 [tR a0] h (none, w) := by
  refine CT.of (cc := cX3_beginEmpty) (nL := 2) (ret := none) (by decide) (by simp [lg_sl, vOf_cat, wOf]) ?_
  intro K X
  refine g_locs (lv' := [(0, tR a0)]) (fun q hq => hq) ?_
  unfold f_X3_beginEmpty at hf
  refine g_aload_n X dX3_beginEmpty_0 0 rfl ?_
  refine g_iconst (v := 1) X dX3_beginEmpty_1 (by decide) ?_
  refine g_putZ X hf (T := TX3) rfl (by decide) (by decide) in_RX3 tyX3 tyX3_ok nmX3 tb_189 rfl rfl rfl dX3_beginEmpty_2 (fun h1 hf => ?_)
  refine g_aload_n X dX3_beginEmpty_5 0 rfl ?_
  refine g_bipush (v := 10) X dX3_beginEmpty_6 (by decide) ?_
  refine g_putI X hf (T := TX3) rfl (by decide) (by decide) in_RX3 tyX3 tyX3_ok nmX3 tb_191 rfl rfl rfl dX3_beginEmpty_8 (fun h2 hf => ?_)
  refine g_aload_n X dX3_beginEmpty_11 0 rfl ?_
  refine g_iconst (v := 0) X dX3_beginEmpty_12 (by decide) ?_
  refine g_putI X hf (T := TX3) rfl (by decide) (by decide) in_RX3 tyX3 tyX3_ok nmX3 tb_195 rfl rfl rfl dX3_beginEmpty_13 (fun h3 hf => ?_)
  refine g_iconst (v := 0) X dX3_beginEmpty_16 (by decide) ?_
  refine g_istore_n (lv' := [(0, tR a0), (1, tI 0)]) X dX3_beginEmpty_17 (by decide) (in_pick [1, 0] rfl) ?_
  exact w_X3_beginEmpty_18 X FU a0 0 h3 hf
def f_X3_emit  (a0 : Option Nat) (a1 : Int32) (a2 : Int32) (h : AH) : Option AH :=
  (gI 3 3 h a0).bind fun v1 =>
  if v1 < 320 then
    (gR 3 2 h a0).bind fun v2 =>
    (gI 3 3 h a0).bind fun v3 =>
    (sI h v2 v3 ((a1 <<< (16 &&& 31)) ||| a2)).bind fun h4 =>
    (gI 3 3 h4 a0).bind fun v5 =>
    (pI 3 3 h4 a0 (v5 + 1)).bind fun h6 =>
    some h6
  else
    some h
set_option maxRecDepth 20000 in
theorem m_X3_emit  {a0 : Option Nat} {a1 : Int32} {a2 : Int32} {h : AH} {w : AH} (hf : f_X3_emit a0 a1 a2 h = some w) : CT yX3_emit (wU yX3_emit cX3_emit 3 none) (rmD 1 0 0) 0 0 [tR a0, tI a1, tI a2] h (none, w) := by
  refine CT.of (cc := cX3_emit) (nL := 3) (ret := none) (by decide) (by simp [lg_sl, vOf_cat, wOf]) ?_
  intro K X
  refine g_locs (lv' := [(0, tR a0), (1, tI a1), (2, tI a2)]) (fun q hq => hq) ?_
  unfold f_X3_emit at hf
  refine g_aload_n X dX3_emit_0 0 rfl ?_
  refine g_getI X hf (T := TX3) rfl (by decide) (by decide) in_RX3 tb_195 rfl dX3_emit_1 (fun v1 hf => ?_)
  refine g_sipush (v := 320) X dX3_emit_4 (by decide) ?_
  refine g_icmpge (tgt := 35) X hf dX3_emit_7 (by decide) (fun hf => ?_) (fun hf => ?_)
  · refine g_aload_n X dX3_emit_10 0 rfl ?_
    refine g_getR X hf (T := TX3) rfl (by decide) (by decide) in_RX3 tb_194 rfl dX3_emit_11 (fun v2 hf => ?_)
    refine g_aload_n X dX3_emit_14 0 rfl ?_
    refine g_getI X hf (T := TX3) rfl (by decide) (by decide) in_RX3 tb_195 rfl dX3_emit_15 (fun v3 hf => ?_)
    refine g_iload_n X dX3_emit_18 1 rfl ?_
    refine g_bipush (v := 16) X dX3_emit_19 (by decide) ?_
    refine g_ishl X dX3_emit_21 ?_
    refine g_iload_n X dX3_emit_22 2 rfl ?_
    refine g_ior X dX3_emit_23 ?_
    refine g_iastore X hf dX3_emit_24 (fun h4 hf => ?_)
    refine g_aload_n X dX3_emit_25 0 rfl ?_
    refine g_dup X dX3_emit_26 rfl ?_
    refine g_getI X hf (T := TX3) rfl (by decide) (by decide) in_RX3 tb_195 rfl dX3_emit_27 (fun v5 hf => ?_)
    refine g_iconst (v := 1) X dX3_emit_30 (by decide) ?_
    refine g_iadd X dX3_emit_31 ?_
    refine g_putI X hf (T := TX3) rfl (by decide) (by decide) in_RX3 tyX3 tyX3_ok nmX3 tb_195 rfl rfl rfl dX3_emit_32 (fun h6 hf => ?_)
    exact g_vreturn X (zV hf) (by decide) (by decide) dX3_emit_35
  · exact g_vreturn X (zV hf) (by decide) (by decide) dX3_emit_35
def f_X3_isEnough  (a0 : Option Nat) (a1 : Int32) (a2 : Int32) (a3 : Int32) (a4 : Int32) (h : AH) : Option (Int32 × AH) :=
  (ck 3 h a0 (f_X3_tells a0 1 h)).bind fun v1 =>
  if v1 = 0 then
    if 0 < a2 then
      some (1, h)
    else
      some (0, h)
  else
    (gR 3 6 h a0).bind fun v2 =>
    (sI h v2 0 a1).bind fun h3 =>
    (gR 3 6 h3 a0).bind fun v4 =>
    (sI h3 v4 1 a2).bind fun h5 =>
    (gR 3 6 h5 a0).bind fun v6 =>
    (sI h5 v6 2 a3).bind fun h7 =>
    (gR 3 6 h7 a0).bind fun v8 =>
    (sI h7 v8 3 a4).bind fun h9 =>
    (ck 3 h9 a0 (f_X3_holds a0 1 h9)).bind fun p10 =>
    (rZ p10.1).bind fun vz => some (vz, p10.2)
set_option maxRecDepth 20000 in
theorem m_X3_isEnough  {a0 : Option Nat} {a1 : Int32} {a2 : Int32} {a3 : Int32} {a4 : Int32} {h : AH} {w : (Int32 × AH)} (hf : f_X3_isEnough a0 a1 a2 a3 a4 h = some w) : CT yX3_isEnough (wU yX3_isEnough cX3_isEnough 5 (some .boolean)) (rmD 3 0 0) 0 0 [tR a0, tI a1, tI a2, tI a3, tI a4] h (some (tI w.1), w.2) := by
  refine CT.of (cc := cX3_isEnough) (nL := 5) (ret := (some .boolean)) (by decide) (by simp [lg_sl, vOf_cat, wOf]) ?_
  intro K X
  refine g_locs (lv' := [(0, tR a0), (1, tI a1), (2, tI a2), (3, tI a3), (4, tI a4)]) (fun q hq => hq) ?_
  unfold f_X3_isEnough at hf
  refine g_aload_n X dX3_isEnough_0 0 rfl ?_
  refine g_iconst (v := 1) X dX3_isEnough_1 (by decide) ?_
  refine g_callV (n := 1) (av := [tI 1]) (rest := []) (k := 3) X hf (fun v1 => (some (tI v1), h)) (fun _ q => m_X3_tells q) (gdV tb_631 tb_632 tb_633 tb_8 tb_634) rfl (by decide +kernel) rfl (by decide) rfl (by decide) (by decide) rfl (Nat.le_of_ble_eq_true rfl) dX3_isEnough_2 (fun v1 hf => ?_)
  refine g_ifne (tgt := 18) X hf dX3_isEnough_5 (by decide) (fun hf => ?_) (fun hf => ?_)
  · refine g_iload_n X dX3_isEnough_8 2 rfl ?_
    refine g_ifle (tgt := 16) X hf dX3_isEnough_9 (by decide) (fun hf => ?_) (fun hf => ?_)
    · refine g_iconst (v := 1) X dX3_isEnough_12 (by decide) ?_
      refine g_goto (tgt := 17) X dX3_isEnough_13 (by decide) ?_
      exact g_zreturn X (zW hf) (by decide) (by decide) (by decide) dX3_isEnough_17
    · refine g_iconst (v := 0) X dX3_isEnough_16 (by decide) ?_
      exact g_zreturn X (zW hf) (by decide) (by decide) (by decide) dX3_isEnough_17
  · refine g_aload_n X dX3_isEnough_18 0 rfl ?_
    refine g_getR X hf (T := TX3) rfl (by decide) (by decide) in_RX3 tb_201 rfl dX3_isEnough_19 (fun v2 hf => ?_)
    refine g_iconst (v := 0) X dX3_isEnough_22 (by decide) ?_
    refine g_iload_n X dX3_isEnough_23 1 rfl ?_
    refine g_iastore X hf dX3_isEnough_24 (fun h3 hf => ?_)
    refine g_aload_n X dX3_isEnough_25 0 rfl ?_
    refine g_getR X hf (T := TX3) rfl (by decide) (by decide) in_RX3 tb_201 rfl dX3_isEnough_26 (fun v4 hf => ?_)
    refine g_iconst (v := 1) X dX3_isEnough_29 (by decide) ?_
    refine g_iload_n X dX3_isEnough_30 2 rfl ?_
    refine g_iastore X hf dX3_isEnough_31 (fun h5 hf => ?_)
    refine g_aload_n X dX3_isEnough_32 0 rfl ?_
    refine g_getR X hf (T := TX3) rfl (by decide) (by decide) in_RX3 tb_201 rfl dX3_isEnough_33 (fun v6 hf => ?_)
    refine g_iconst (v := 2) X dX3_isEnough_36 (by decide) ?_
    refine g_iload_n X dX3_isEnough_37 3 rfl ?_
    refine g_iastore X hf dX3_isEnough_38 (fun h7 hf => ?_)
    refine g_aload_n X dX3_isEnough_39 0 rfl ?_
    refine g_getR X hf (T := TX3) rfl (by decide) (by decide) in_RX3 tb_201 rfl dX3_isEnough_40 (fun v8 hf => ?_)
    refine g_iconst (v := 3) X dX3_isEnough_43 (by decide) ?_
    refine g_iload X dX3_isEnough_44 4 rfl ?_
    refine g_iastore X hf dX3_isEnough_46 (fun h9 hf => ?_)
    refine g_aload_n X dX3_isEnough_47 0 rfl ?_
    refine g_iconst (v := 1) X dX3_isEnough_48 (by decide) ?_
    refine g_callV (n := 1) (av := [tI 1]) (rest := []) (k := 3) X hf (fun p10 => (some (tI p10.1), p10.2)) (fun _ q => m_X3_holds q) (gdV tb_636 tb_637 tb_1652 tb_8 tb_638) rfl (by decide +kernel) rfl (by decide) rfl (by decide) (by decide) rfl (Nat.le_of_ble_eq_true rfl) dX3_isEnough_49 (fun p10 hf => ?_)
    obtain ⟨vz, hz1, hz2⟩ := Option.bind_eq_some_iff.mp hf
    cases hz2
    exact g_zreturn2 X hz1 (by decide) (by decide) dX3_isEnough_52
def f_X3_recalls  (a0 : Option Nat) (a1 : Int32) (a2 : Int32) (h : AH) : Option (Int32 × AH) :=
  (ck 3 h a0 (f_X3_tells a0 2 h)).bind fun v1 =>
  if v1 = 0 then
    if a2 < (a1 + a1) then
      some (1, h)
    else
      some (0, h)
  else
    (gR 3 6 h a0).bind fun v2 =>
    (sI h v2 0 a1).bind fun h3 =>
    (gR 3 6 h3 a0).bind fun v4 =>
    (sI h3 v4 1 a2).bind fun h5 =>
    (ck 3 h5 a0 (f_X3_holds a0 2 h5)).bind fun p6 =>
    (rZ p6.1).bind fun vz => some (vz, p6.2)
set_option maxRecDepth 20000 in
theorem m_X3_recalls  {a0 : Option Nat} {a1 : Int32} {a2 : Int32} {h : AH} {w : (Int32 × AH)} (hf : f_X3_recalls a0 a1 a2 h = some w) : CT yX3_recalls (wU yX3_recalls cX3_recalls 3 (some .boolean)) (rmD 3 0 0) 0 0 [tR a0, tI a1, tI a2] h (some (tI w.1), w.2) := by
  refine CT.of (cc := cX3_recalls) (nL := 3) (ret := (some .boolean)) (by decide) (by simp [lg_sl, vOf_cat, wOf]) ?_
  intro K X
  refine g_locs (lv' := [(0, tR a0), (1, tI a1), (2, tI a2)]) (fun q hq => hq) ?_
  unfold f_X3_recalls at hf
  refine g_aload_n X dX3_recalls_0 0 rfl ?_
  refine g_iconst (v := 2) X dX3_recalls_1 (by decide) ?_
  refine g_callV (n := 1) (av := [tI 2]) (rest := []) (k := 3) X hf (fun v1 => (some (tI v1), h)) (fun _ q => m_X3_tells q) (gdV tb_631 tb_632 tb_633 tb_8 tb_634) rfl (by decide +kernel) rfl (by decide) rfl (by decide) (by decide) rfl (Nat.le_of_ble_eq_true rfl) dX3_recalls_2 (fun v1 hf => ?_)
  refine g_ifne (tgt := 21) X hf dX3_recalls_5 (by decide) (fun hf => ?_) (fun hf => ?_)
  · refine g_iload_n X dX3_recalls_8 1 rfl ?_
    refine g_iload_n X dX3_recalls_9 1 rfl ?_
    refine g_iadd X dX3_recalls_10 ?_
    refine g_iload_n X dX3_recalls_11 2 rfl ?_
    refine g_icmple (tgt := 19) X hf dX3_recalls_12 (by decide) (fun hf => ?_) (fun hf => ?_)
    · refine g_iconst (v := 1) X dX3_recalls_15 (by decide) ?_
      refine g_goto (tgt := 20) X dX3_recalls_16 (by decide) ?_
      exact g_zreturn X (zW hf) (by decide) (by decide) (by decide) dX3_recalls_20
    · refine g_iconst (v := 0) X dX3_recalls_19 (by decide) ?_
      exact g_zreturn X (zW hf) (by decide) (by decide) (by decide) dX3_recalls_20
  · refine g_aload_n X dX3_recalls_21 0 rfl ?_
    refine g_getR X hf (T := TX3) rfl (by decide) (by decide) in_RX3 tb_201 rfl dX3_recalls_22 (fun v2 hf => ?_)
    refine g_iconst (v := 0) X dX3_recalls_25 (by decide) ?_
    refine g_iload_n X dX3_recalls_26 1 rfl ?_
    refine g_iastore X hf dX3_recalls_27 (fun h3 hf => ?_)
    refine g_aload_n X dX3_recalls_28 0 rfl ?_
    refine g_getR X hf (T := TX3) rfl (by decide) (by decide) in_RX3 tb_201 rfl dX3_recalls_29 (fun v4 hf => ?_)
    refine g_iconst (v := 1) X dX3_recalls_32 (by decide) ?_
    refine g_iload_n X dX3_recalls_33 2 rfl ?_
    refine g_iastore X hf dX3_recalls_34 (fun h5 hf => ?_)
    refine g_aload_n X dX3_recalls_35 0 rfl ?_
    refine g_iconst (v := 2) X dX3_recalls_36 (by decide) ?_
    refine g_callV (n := 1) (av := [tI 2]) (rest := []) (k := 3) X hf (fun p6 => (some (tI p6.1), p6.2)) (fun _ q => m_X3_holds q) (gdV tb_636 tb_637 tb_1652 tb_8 tb_638) rfl (by decide +kernel) rfl (by decide) rfl (by decide) (by decide) rfl (Nat.le_of_ble_eq_true rfl) dX3_recalls_37 (fun p6 hf => ?_)
    obtain ⟨vz, hz1, hz2⟩ := Option.bind_eq_some_iff.mp hf
    cases hz2
    exact g_zreturn2 X hz1 (by decide) (by decide) dX3_recalls_40
def f_X3_allows  (a0 : Option Nat) (a1 : Int32) (h : AH) : Option (Int32 × AH) :=
  (gR 3 6 h a0).bind fun v1 =>
  (sI h v1 0 a1).bind fun h2 =>
  (gR 3 6 h2 a0).bind fun v3 =>
  (gI 3 1 h2 a0).bind fun v4 =>
  (sI h2 v3 1 v4).bind fun h5 =>
  (ck 3 h5 a0 (f_X3_tells a0 3 h5)).bind fun v6 =>
  if v6 = 0 then
    some (0, h5)
  else
    (ck 3 h5 a0 (f_X3_holds a0 3 h5)).bind fun p7 =>
    if p7.1 = 0 then
      some (0, p7.2)
    else
      some (1, p7.2)
set_option maxRecDepth 20000 in
theorem m_X3_allows  {a0 : Option Nat} {a1 : Int32} {h : AH} {w : (Int32 × AH)} (hf : f_X3_allows a0 a1 h = some w) : CT yX3_allows (wU yX3_allows cX3_allows 2 (some .boolean)) (rmD 3 0 0) 0 0 [tR a0, tI a1] h (some (tI w.1), w.2) := by
  refine CT.of (cc := cX3_allows) (nL := 2) (ret := (some .boolean)) (by decide) (by simp [lg_sl, vOf_cat, wOf]) ?_
  intro K X
  refine g_locs (lv' := [(0, tR a0), (1, tI a1)]) (fun q hq => hq) ?_
  unfold f_X3_allows at hf
  refine g_aload_n X dX3_allows_0 0 rfl ?_
  refine g_getR X hf (T := TX3) rfl (by decide) (by decide) in_RX3 tb_201 rfl dX3_allows_1 (fun v1 hf => ?_)
  refine g_iconst (v := 0) X dX3_allows_4 (by decide) ?_
  refine g_iload_n X dX3_allows_5 1 rfl ?_
  refine g_iastore X hf dX3_allows_6 (fun h2 hf => ?_)
  refine g_aload_n X dX3_allows_7 0 rfl ?_
  refine g_getR X hf (T := TX3) rfl (by decide) (by decide) in_RX3 tb_201 rfl dX3_allows_8 (fun v3 hf => ?_)
  refine g_iconst (v := 1) X dX3_allows_11 (by decide) ?_
  refine g_aload_n X dX3_allows_12 0 rfl ?_
  refine g_getI X hf (T := TX3) rfl (by decide) (by decide) in_RX3 tb_191 rfl dX3_allows_13 (fun v4 hf => ?_)
  refine g_iastore X hf dX3_allows_16 (fun h5 hf => ?_)
  refine g_aload_n X dX3_allows_17 0 rfl ?_
  refine g_iconst (v := 3) X dX3_allows_18 (by decide) ?_
  refine g_callV (n := 1) (av := [tI 3]) (rest := []) (k := 3) X hf (fun v6 => (some (tI v6), h5)) (fun _ q => m_X3_tells q) (gdV tb_631 tb_632 tb_633 tb_8 tb_634) rfl (by decide +kernel) rfl (by decide) rfl (by decide) (by decide) rfl (Nat.le_of_ble_eq_true rfl) dX3_allows_19 (fun v6 hf => ?_)
  refine g_ifeq (tgt := 37) X hf dX3_allows_22 (by decide) (fun hf => ?_) (fun hf => ?_)
  · refine g_iconst (v := 0) X dX3_allows_37 (by decide) ?_
    exact g_zreturn X (zW hf) (by decide) (by decide) (by decide) dX3_allows_38
  · refine g_aload_n X dX3_allows_25 0 rfl ?_
    refine g_iconst (v := 3) X dX3_allows_26 (by decide) ?_
    refine g_callV (n := 1) (av := [tI 3]) (rest := []) (k := 3) X hf (fun p7 => (some (tI p7.1), p7.2)) (fun _ q => m_X3_holds q) (gdV tb_636 tb_637 tb_1652 tb_8 tb_638) rfl (by decide +kernel) rfl (by decide) rfl (by decide) (by decide) rfl (Nat.le_of_ble_eq_true rfl) dX3_allows_27 (fun p7 hf => ?_)
    refine g_ifeq (tgt := 37) X hf dX3_allows_30 (by decide) (fun hf => ?_) (fun hf => ?_)
    · refine g_iconst (v := 0) X dX3_allows_37 (by decide) ?_
      exact g_zreturn X (zW hf) (by decide) (by decide) (by decide) dX3_allows_38
    · refine g_iconst (v := 1) X dX3_allows_33 (by decide) ?_
      refine g_goto (tgt := 38) X dX3_allows_34 (by decide) ?_
      exact g_zreturn X (zW hf) (by decide) (by decide) (by decide) dX3_allows_38
def f_X4_init  (a0 : Nat) (h : AH) : Option AH :=
  (nA 100 300 (.int 0) 300 h).bind fun h1 =>
  (pR 4 0 h1 (some a0) (some h.1)).bind fun h2 =>
  (nO 3 8 tyX3 h2).bind fun h3 =>
  (f_X3_init h2.1 h3).bind fun h4 =>
  (pR 4 2 h4 (some a0) (some h2.1)).bind fun h5 =>
  (nA 100 300 (.int 0) 300 h5).bind fun h6 =>
  (pR 4 11 h6 (some a0) (some h5.1)).bind fun h7 =>
  some h7
set_option maxRecDepth 20000 in
theorem m_X4_init  {a0 : Nat} {h : AH} {w : AH} (hf : f_X4_init a0 h = some w) : CT yX4_init (wU yX4_init cX4_init 1 none) (rmD 2 8 983) 8 983 [tR (some a0)] h (none, w) := by
  refine CT.of (cc := cX4_init) (nL := 1) (ret := none) (by decide) (by simp [lg_sl, vOf_cat, wOf]) ?_
  intro K X
  refine g_locs (lv' := [(0, tR (some a0))]) (fun q hq => hq) ?_
  unfold f_X4_init at hf
  refine g_aload_n X dX4_init_0 0 rfl ?_
  refine g_objInit X tb_275 tb_27 tb_28 ⟨Nat.le_of_ble_eq_true rfl, Nat.le_of_ble_eq_true rfl⟩ dX4_init_1 ?_
  refine g_aload_n X dX4_init_4 0 rfl ?_
  refine g_sipush (v := 300) X dX4_init_5 (by decide) ?_
  refine g_newa (atype := .int) X hf (by decide) rfl rfl (fun _ _ q => q) tb_64 (Nat.le_of_ble_eq_true rfl) (by decide) dX4_init_8 (fun h1 hf => ?_)
  refine g_putFR X hf (T := TX4) rfl (by decide) (by decide) in_RX4 tyX4 tyX4_ok nmX4 tb_277 rfl rfl rfl rfl rfl dX4_init_10 (fun h2 hf => ?_)
  refine g_aload_n X dX4_init_13 0 rfl ?_
  refine g_new X hf (T := TX3) rfl (by decide) in_RX3 tyX3_ok tb_276 tb_185 tb_8 (by decide) dX4_init_14 (fun h3 hf => ?_)
  refine g_dup X dX4_init_17 rfl ?_
  refine g_callIN (n := 0) (av := []) (rest := [tR (some h2.1), tR (some a0)]) X hf (fun _ q => m_X3_init q) (gd0 tb_187) rfl (by decide +kernel) tb_8 rfl tb_186 (by decide +kernel) rfl (by decide) (by decide) rfl (Nat.le_of_ble_eq_true rfl) dX4_init_18 (fun h4 hf => ?_)
  refine g_putFR X hf (T := TX4) rfl (by decide) (by decide) in_RX4 tyX4 tyX4_ok nmX4 tb_281 rfl rfl rfl rfl rfl dX4_init_21 (fun h5 hf => ?_)
  refine g_aload_n X dX4_init_24 0 rfl ?_
  refine g_sipush (v := 300) X dX4_init_25 (by decide) ?_
  refine g_newa (atype := .int) X hf (by decide) rfl rfl (fun _ _ q => q) tb_64 (Nat.le_of_ble_eq_true rfl) (by decide) dX4_init_28 (fun h6 hf => ?_)
  refine g_putFR X hf (T := TX4) rfl (by decide) (by decide) in_RX4 tyX4 tyX4_ok nmX4 tb_291 rfl rfl rfl rfl rfl dX4_init_30 (fun h7 hf => ?_)
  exact g_vreturn X (zV hf) (by decide) (by decide) dX4_init_33
def f_X4_isLetter  (a0 : Int32) (h : AH) : Option Int32 :=
  if a0 < 97 then
    some 0
  else
    if 122 < a0 then
      some 0
    else
      some 1
set_option maxRecDepth 20000 in
theorem m_X4_isLetter  {a0 : Int32} {h : AH} {w : Int32} (hf : f_X4_isLetter a0 h = some w) : CT yX4_isLetter (wU yX4_isLetter cX4_isLetter 1 (some .boolean)) (rmD 1 0 0) 0 0 [tI a0] h (some (tI w), h) := by
  refine CT.of (cc := cX4_isLetter) (nL := 1) (ret := (some .boolean)) (by decide) (by simp [lg_sl, vOf_cat, wOf]) ?_
  intro K X
  refine g_locs (lv' := [(0, tI a0)]) (fun q hq => hq) ?_
  unfold f_X4_isLetter at hf
  refine g_iload_n X dX4_isLetter_0 0 rfl ?_
  refine g_bipush (v := 97) X dX4_isLetter_1 (by decide) ?_
  refine g_icmplt (tgt := 16) X hf dX4_isLetter_3 (by decide) (fun hf => ?_) (fun hf => ?_)
  · refine g_iconst (v := 0) X dX4_isLetter_16 (by decide) ?_
    exact g_zreturn X (zP hf) (by decide) (by decide) (by decide) dX4_isLetter_17
  · refine g_iload_n X dX4_isLetter_6 0 rfl ?_
    refine g_bipush (v := 122) X dX4_isLetter_7 (by decide) ?_
    refine g_icmpgt (tgt := 16) X hf dX4_isLetter_9 (by decide) (fun hf => ?_) (fun hf => ?_)
    · refine g_iconst (v := 0) X dX4_isLetter_16 (by decide) ?_
      exact g_zreturn X (zP hf) (by decide) (by decide) (by decide) dX4_isLetter_17
    · refine g_iconst (v := 1) X dX4_isLetter_12 (by decide) ?_
      refine g_goto (tgt := 17) X dX4_isLetter_13 (by decide) ?_
      exact g_zreturn X (zP hf) (by decide) (by decide) (by decide) dX4_isLetter_17
def f_X4_isDigit  (a0 : Int32) (h : AH) : Option Int32 :=
  if a0 < 48 then
    some 0
  else
    if 57 < a0 then
      some 0
    else
      some 1
set_option maxRecDepth 20000 in
theorem m_X4_isDigit  {a0 : Int32} {h : AH} {w : Int32} (hf : f_X4_isDigit a0 h = some w) : CT yX4_isDigit (wU yX4_isDigit cX4_isDigit 1 (some .boolean)) (rmD 1 0 0) 0 0 [tI a0] h (some (tI w), h) := by
  refine CT.of (cc := cX4_isDigit) (nL := 1) (ret := (some .boolean)) (by decide) (by simp [lg_sl, vOf_cat, wOf]) ?_
  intro K X
  refine g_locs (lv' := [(0, tI a0)]) (fun q hq => hq) ?_
  unfold f_X4_isDigit at hf
  refine g_iload_n X dX4_isDigit_0 0 rfl ?_
  refine g_bipush (v := 48) X dX4_isDigit_1 (by decide) ?_
  refine g_icmplt (tgt := 16) X hf dX4_isDigit_3 (by decide) (fun hf => ?_) (fun hf => ?_)
  · refine g_iconst (v := 0) X dX4_isDigit_16 (by decide) ?_
    exact g_zreturn X (zP hf) (by decide) (by decide) (by decide) dX4_isDigit_17
  · refine g_iload_n X dX4_isDigit_6 0 rfl ?_
    refine g_bipush (v := 57) X dX4_isDigit_7 (by decide) ?_
    refine g_icmpgt (tgt := 16) X hf dX4_isDigit_9 (by decide) (fun hf => ?_) (fun hf => ?_)
    · refine g_iconst (v := 0) X dX4_isDigit_16 (by decide) ?_
      exact g_zreturn X (zP hf) (by decide) (by decide) (by decide) dX4_isDigit_17
    · refine g_iconst (v := 1) X dX4_isDigit_12 (by decide) ?_
      refine g_goto (tgt := 17) X dX4_isDigit_13 (by decide) ?_
      exact g_zreturn X (zP hf) (by decide) (by decide) (by decide) dX4_isDigit_17
def b_X4_find_154    : Nat → Option Nat → AH → Option AH
  | 0 => fun _ _ => none
  | n + 1 => fun x0 h =>
    (gI 4 10 h x0).bind fun v1 =>
    (gI 4 1 h x0).bind fun v2 =>
    if v1 < v2 then
      (gR 4 0 h x0).bind fun v3 =>
      (gI 4 10 h x0).bind fun v4 =>
      (aI h v3 v4).bind fun v5 =>
      (f_X4_isDigit v5 h).bind fun v6 =>
      if v6 = 0 then
        some h
      else
        (gI 4 10 h x0).bind fun v7 =>
        (pI 4 10 h x0 (v7 + 1)).bind fun h8 =>
        b_X4_find_154 n x0 h8
    else
      some h
set_option maxRecDepth 20000 in
theorem w_X4_find_154 {K : KT} {w : AH}   (X : CX K cX4_find RX4 TB none "find" (rmD 2 0 0) 1 0 0)  : ∀ (n : Nat) (x0 : Option Nat) (h : AH), b_X4_find_154 n x0 h = some w → GG K (none, w) 0 0 154 [(0, tR x0)] [] h := by
  intro n
  induction n with
  | zero =>
    intro x0 h hf
    cases (show none = some w from hf)
  | succ n ih =>
    intro x0 h hf
    rw [b_X4_find_154] at hf
    refine g_aload_n X dX4_find_154 0 rfl ?_
    refine g_getI X hf (T := TX4) rfl (by decide) (by decide) in_RX4 tb_290 rfl dX4_find_155 (fun v1 hf => ?_)
    refine g_aload_n X dX4_find_158 0 rfl ?_
    refine g_getI X hf (T := TX4) rfl (by decide) (by decide) in_RX4 tb_279 rfl dX4_find_159 (fun v2 hf => ?_)
    refine g_icmpge (tgt := 216) X hf dX4_find_162 (by decide) (fun hf => ?_) (fun hf => ?_)
    · refine g_aload_n X dX4_find_165 0 rfl ?_
      refine g_getR X hf (T := TX4) rfl (by decide) (by decide) in_RX4 tb_277 rfl dX4_find_166 (fun v3 hf => ?_)
      refine g_aload_n X dX4_find_169 0 rfl ?_
      refine g_getI X hf (T := TX4) rfl (by decide) (by decide) in_RX4 tb_290 rfl dX4_find_170 (fun v4 hf => ?_)
      refine g_iaload X hf dX4_find_173 (fun v5 hf => ?_)
      refine g_callS (n := 1) (av := [tI v5]) (rest := []) X hf (fun v6 => (some (tI v6), h)) (fun _ q => m_X4_isDigit q) (gdS tb_670 tb_671 tb_9 tb_672) rfl (by decide +kernel) rfl (by decide) (by decide) rfl (Nat.le_of_ble_eq_true rfl) dX4_find_174 (fun v6 hf => ?_)
      refine g_ifeq (tgt := 216) X hf dX4_find_177 (by decide) (fun hf => ?_) (fun hf => ?_)
      · exact g_vreturn X (zV hf) (by decide) (by decide) dX4_find_216
      · refine g_aload_n X dX4_find_180 0 rfl ?_
        refine g_dup X dX4_find_181 rfl ?_
        refine g_getI X hf (T := TX4) rfl (by decide) (by decide) in_RX4 tb_290 rfl dX4_find_182 (fun v7 hf => ?_)
        refine g_iconst (v := 1) X dX4_find_185 (by decide) ?_
        refine g_iadd X dX4_find_186 ?_
        refine g_putI X hf (T := TX4) rfl (by decide) (by decide) in_RX4 tyX4 tyX4_ok nmX4 tb_290 rfl rfl rfl dX4_find_187 (fun h8 hf => ?_)
        refine g_goto (tgt := 154) X dX4_find_190 (by decide) ?_
        exact ih x0 h8 hf
    · exact g_vreturn X (zV hf) (by decide) (by decide) dX4_find_216
def b_X4_find_94    : Nat → Option Nat → AH → Option AH
  | 0 => fun _ _ => none
  | n + 1 => fun x0 h =>
    (gI 4 10 h x0).bind fun v1 =>
    (gI 4 1 h x0).bind fun v2 =>
    if v1 < v2 then
      (gR 4 0 h x0).bind fun v3 =>
      (gI 4 10 h x0).bind fun v4 =>
      (aI h v3 v4).bind fun v5 =>
      (f_X4_isLetter v5 h).bind fun v6 =>
      if v6 = 0 then
        some h
      else
        (gI 4 10 h x0).bind fun v7 =>
        (pI 4 10 h x0 (v7 + 1)).bind fun h8 =>
        b_X4_find_94 n x0 h8
    else
      some h
set_option maxRecDepth 20000 in
theorem w_X4_find_94 {K : KT} {w : AH}   (X : CX K cX4_find RX4 TB none "find" (rmD 2 0 0) 1 0 0)  : ∀ (n : Nat) (x0 : Option Nat) (h : AH), b_X4_find_94 n x0 h = some w → GG K (none, w) 0 0 94 [(0, tR x0)] [] h := by
  intro n
  induction n with
  | zero =>
    intro x0 h hf
    cases (show none = some w from hf)
  | succ n ih =>
    intro x0 h hf
    rw [b_X4_find_94] at hf
    refine g_aload_n X dX4_find_94 0 rfl ?_
    refine g_getI X hf (T := TX4) rfl (by decide) (by decide) in_RX4 tb_290 rfl dX4_find_95 (fun v1 hf => ?_)
    refine g_aload_n X dX4_find_98 0 rfl ?_
    refine g_getI X hf (T := TX4) rfl (by decide) (by decide) in_RX4 tb_279 rfl dX4_find_99 (fun v2 hf => ?_)
    refine g_icmpge (tgt := 216) X hf dX4_find_102 (by decide) (fun hf => ?_) (fun hf => ?_)
    · refine g_aload_n X dX4_find_105 0 rfl ?_
      refine g_getR X hf (T := TX4) rfl (by decide) (by decide) in_RX4 tb_277 rfl dX4_find_106 (fun v3 hf => ?_)
      refine g_aload_n X dX4_find_109 0 rfl ?_
      refine g_getI X hf (T := TX4) rfl (by decide) (by decide) in_RX4 tb_290 rfl dX4_find_110 (fun v4 hf => ?_)
      refine g_iaload X hf dX4_find_113 (fun v5 hf => ?_)
      refine g_callS (n := 1) (av := [tI v5]) (rest := []) X hf (fun v6 => (some (tI v6), h)) (fun _ q => m_X4_isLetter q) (gdS tb_667 tb_668 tb_9 tb_669) rfl (by decide +kernel) rfl (by decide) (by decide) rfl (Nat.le_of_ble_eq_true rfl) dX4_find_114 (fun v6 hf => ?_)
      refine g_ifeq (tgt := 216) X hf dX4_find_117 (by decide) (fun hf => ?_) (fun hf => ?_)
      · exact g_vreturn X (zV hf) (by decide) (by decide) dX4_find_216
      · refine g_aload_n X dX4_find_120 0 rfl ?_
        refine g_dup X dX4_find_121 rfl ?_
        refine g_getI X hf (T := TX4) rfl (by decide) (by decide) in_RX4 tb_290 rfl dX4_find_122 (fun v7 hf => ?_)
        refine g_iconst (v := 1) X dX4_find_125 (by decide) ?_
        refine g_iadd X dX4_find_126 ?_
        refine g_putI X hf (T := TX4) rfl (by decide) (by decide) in_RX4 tyX4 tyX4_ok nmX4 tb_290 rfl rfl rfl dX4_find_127 (fun h8 hf => ?_)
        refine g_goto (tgt := 94) X dX4_find_130 (by decide) ?_
        exact ih x0 h8 hf
    · exact g_vreturn X (zV hf) (by decide) (by decide) dX4_find_216
def b_X4_find_46   (x0 : Option Nat) (h : AH) : Option AH :=
  (gI 4 9 h x0).bind fun v1 =>
  (pI 4 10 h x0 v1).bind fun h2 =>
  (gI 4 9 h2 x0).bind fun v3 =>
  (gI 4 1 h2 x0).bind fun v4 =>
  if v3 < v4 then
    (gR 4 0 h2 x0).bind fun v5 =>
    (gI 4 9 h2 x0).bind fun v6 =>
    (aI h2 v5 v6).bind fun v7 =>
    (f_X4_isLetter v7 h2).bind fun v8 =>
    if v8 = 0 then
      (gR 4 0 h2 x0).bind fun v9 =>
      (gI 4 9 h2 x0).bind fun v10 =>
      (aI h2 v9 v10).bind fun v11 =>
      (f_X4_isDigit v11 h2).bind fun v12 =>
      if v12 = 0 then
        (gR 4 0 h2 x0).bind fun v13 =>
        (gI 4 9 h2 x0).bind fun v14 =>
        (aI h2 v13 v14).bind fun v15 =>
        (pI 4 8 h2 x0 v15).bind fun h16 =>
        (gI 4 10 h16 x0).bind fun v17 =>
        (pI 4 10 h16 x0 (v17 + 1)).bind fun h18 =>
        some h18
      else
        (pI 4 8 h2 x0 48).bind fun h19 =>
        b_X4_find_154 FU x0 h19
    else
      (pI 4 8 h2 x0 97).bind fun h20 =>
      b_X4_find_94 FU x0 h20
  else
    (pI 4 8 h2 x0 (-1)).bind fun h21 =>
    some h21
set_option maxRecDepth 20000 in
theorem w_X4_find_46 {K : KT} {w : AH}   (X : CX K cX4_find RX4 TB none "find" (rmD 2 0 0) 1 0 0)  (x0 : Option Nat) (h : AH) (hf : b_X4_find_46 x0 h = some w) : GG K (none, w) 0 0 46 [(0, tR x0)] [] h := by
  unfold b_X4_find_46 at hf
  refine g_aload_n X dX4_find_46 0 rfl ?_
  refine g_aload_n X dX4_find_47 0 rfl ?_
  refine g_getI X hf (T := TX4) rfl (by decide) (by decide) in_RX4 tb_289 rfl dX4_find_48 (fun v1 hf => ?_)
  refine g_putI X hf (T := TX4) rfl (by decide) (by decide) in_RX4 tyX4 tyX4_ok nmX4 tb_290 rfl rfl rfl dX4_find_51 (fun h2 hf => ?_)
  refine g_aload_n X dX4_find_54 0 rfl ?_
  refine g_getI X hf (T := TX4) rfl (by decide) (by decide) in_RX4 tb_289 rfl dX4_find_55 (fun v3 hf => ?_)
  refine g_aload_n X dX4_find_58 0 rfl ?_
  refine g_getI X hf (T := TX4) rfl (by decide) (by decide) in_RX4 tb_279 rfl dX4_find_59 (fun v4 hf => ?_)
  refine g_icmplt (tgt := 73) X hf dX4_find_62 (by decide) (fun hf => ?_) (fun hf => ?_)
  · refine g_aload_n X dX4_find_73 0 rfl ?_
    refine g_getR X hf (T := TX4) rfl (by decide) (by decide) in_RX4 tb_277 rfl dX4_find_74 (fun v5 hf => ?_)
    refine g_aload_n X dX4_find_77 0 rfl ?_
    refine g_getI X hf (T := TX4) rfl (by decide) (by decide) in_RX4 tb_289 rfl dX4_find_78 (fun v6 hf => ?_)
    refine g_iaload X hf dX4_find_81 (fun v7 hf => ?_)
    refine g_callS (n := 1) (av := [tI v7]) (rest := []) X hf (fun v8 => (some (tI v8), h2)) (fun _ q => m_X4_isLetter q) (gdS tb_667 tb_668 tb_9 tb_669) rfl (by decide +kernel) rfl (by decide) (by decide) rfl (Nat.le_of_ble_eq_true rfl) dX4_find_82 (fun v8 hf => ?_)
    refine g_ifeq (tgt := 133) X hf dX4_find_85 (by decide) (fun hf => ?_) (fun hf => ?_)
    · refine g_aload_n X dX4_find_133 0 rfl ?_
      refine g_getR X hf (T := TX4) rfl (by decide) (by decide) in_RX4 tb_277 rfl dX4_find_134 (fun v9 hf => ?_)
      refine g_aload_n X dX4_find_137 0 rfl ?_
      refine g_getI X hf (T := TX4) rfl (by decide) (by decide) in_RX4 tb_289 rfl dX4_find_138 (fun v10 hf => ?_)
      refine g_iaload X hf dX4_find_141 (fun v11 hf => ?_)
      refine g_callS (n := 1) (av := [tI v11]) (rest := []) X hf (fun v12 => (some (tI v12), h2)) (fun _ q => m_X4_isDigit q) (gdS tb_670 tb_671 tb_9 tb_672) rfl (by decide +kernel) rfl (by decide) (by decide) rfl (Nat.le_of_ble_eq_true rfl) dX4_find_142 (fun v12 hf => ?_)
      refine g_ifeq (tgt := 193) X hf dX4_find_145 (by decide) (fun hf => ?_) (fun hf => ?_)
      · refine g_aload_n X dX4_find_193 0 rfl ?_
        refine g_aload_n X dX4_find_194 0 rfl ?_
        refine g_getR X hf (T := TX4) rfl (by decide) (by decide) in_RX4 tb_277 rfl dX4_find_195 (fun v13 hf => ?_)
        refine g_aload_n X dX4_find_198 0 rfl ?_
        refine g_getI X hf (T := TX4) rfl (by decide) (by decide) in_RX4 tb_289 rfl dX4_find_199 (fun v14 hf => ?_)
        refine g_iaload X hf dX4_find_202 (fun v15 hf => ?_)
        refine g_putI X hf (T := TX4) rfl (by decide) (by decide) in_RX4 tyX4 tyX4_ok nmX4 tb_288 rfl rfl rfl dX4_find_203 (fun h16 hf => ?_)
        refine g_aload_n X dX4_find_206 0 rfl ?_
        refine g_dup X dX4_find_207 rfl ?_
        refine g_getI X hf (T := TX4) rfl (by decide) (by decide) in_RX4 tb_290 rfl dX4_find_208 (fun v17 hf => ?_)
        refine g_iconst (v := 1) X dX4_find_211 (by decide) ?_
        refine g_iadd X dX4_find_212 ?_
        refine g_putI X hf (T := TX4) rfl (by decide) (by decide) in_RX4 tyX4 tyX4_ok nmX4 tb_290 rfl rfl rfl dX4_find_213 (fun h18 hf => ?_)
        exact g_vreturn X (zV hf) (by decide) (by decide) dX4_find_216
      · refine g_aload_n X dX4_find_148 0 rfl ?_
        refine g_bipush (v := 48) X dX4_find_149 (by decide) ?_
        refine g_putI X hf (T := TX4) rfl (by decide) (by decide) in_RX4 tyX4 tyX4_ok nmX4 tb_288 rfl rfl rfl dX4_find_151 (fun h19 hf => ?_)
        exact w_X4_find_154 X FU x0 h19 hf
    · refine g_aload_n X dX4_find_88 0 rfl ?_
      refine g_bipush (v := 97) X dX4_find_89 (by decide) ?_
      refine g_putI X hf (T := TX4) rfl (by decide) (by decide) in_RX4 tyX4 tyX4_ok nmX4 tb_288 rfl rfl rfl dX4_find_91 (fun h20 hf => ?_)
      exact w_X4_find_94 X FU x0 h20 hf
  · refine g_aload_n X dX4_find_65 0 rfl ?_
    refine g_iconst (v := (-1)) X dX4_find_66 (by decide) ?_
    refine g_putI X hf (T := TX4) rfl (by decide) (by decide) in_RX4 tyX4 tyX4_ok nmX4 tb_288 rfl rfl rfl dX4_find_67 (fun h21 hf => ?_)
    refine g_goto (tgt := 216) X dX4_find_70 (by decide) ?_
    exact g_vreturn X (zV hf) (by decide) (by decide) dX4_find_216
def b_X4_find_8    : Nat → Option Nat → AH → Option AH
  | 0 => fun _ _ => none
  | n + 1 => fun x0 h =>
    (gI 4 9 h x0).bind fun v1 =>
    (gI 4 1 h x0).bind fun v2 =>
    if v1 < v2 then
      (gR 4 0 h x0).bind fun v3 =>
      (gI 4 9 h x0).bind fun v4 =>
      (aI h v3 v4).bind fun v5 =>
      if v5 = 32 then
        (gI 4 9 h x0).bind fun v6 =>
        (pI 4 9 h x0 (v6 + 1)).bind fun h7 =>
        b_X4_find_8 n x0 h7
      else
        b_X4_find_46 x0 h
    else
      b_X4_find_46 x0 h
set_option maxRecDepth 20000 in
theorem w_X4_find_8 {K : KT} {w : AH}   (X : CX K cX4_find RX4 TB none "find" (rmD 2 0 0) 1 0 0)  : ∀ (n : Nat) (x0 : Option Nat) (h : AH), b_X4_find_8 n x0 h = some w → GG K (none, w) 0 0 8 [(0, tR x0)] [] h := by
  intro n
  induction n with
  | zero =>
    intro x0 h hf
    cases (show none = some w from hf)
  | succ n ih =>
    intro x0 h hf
    rw [b_X4_find_8] at hf
    refine g_aload_n X dX4_find_8 0 rfl ?_
    refine g_getI X hf (T := TX4) rfl (by decide) (by decide) in_RX4 tb_289 rfl dX4_find_9 (fun v1 hf => ?_)
    refine g_aload_n X dX4_find_12 0 rfl ?_
    refine g_getI X hf (T := TX4) rfl (by decide) (by decide) in_RX4 tb_279 rfl dX4_find_13 (fun v2 hf => ?_)
    refine g_icmpge (tgt := 46) X hf dX4_find_16 (by decide) (fun hf => ?_) (fun hf => ?_)
    · refine g_aload_n X dX4_find_19 0 rfl ?_
      refine g_getR X hf (T := TX4) rfl (by decide) (by decide) in_RX4 tb_277 rfl dX4_find_20 (fun v3 hf => ?_)
      refine g_aload_n X dX4_find_23 0 rfl ?_
      refine g_getI X hf (T := TX4) rfl (by decide) (by decide) in_RX4 tb_289 rfl dX4_find_24 (fun v4 hf => ?_)
      refine g_iaload X hf dX4_find_27 (fun v5 hf => ?_)
      refine g_bipush (v := 32) X dX4_find_28 (by decide) ?_
      refine g_icmpne (tgt := 46) X hf dX4_find_30 (by decide) (fun hf => ?_) (fun hf => ?_)
      · refine g_aload_n X dX4_find_33 0 rfl ?_
        refine g_dup X dX4_find_34 rfl ?_
        refine g_getI X hf (T := TX4) rfl (by decide) (by decide) in_RX4 tb_289 rfl dX4_find_35 (fun v6 hf => ?_)
        refine g_iconst (v := 1) X dX4_find_38 (by decide) ?_
        refine g_iadd X dX4_find_39 ?_
        refine g_putI X hf (T := TX4) rfl (by decide) (by decide) in_RX4 tyX4 tyX4_ok nmX4 tb_289 rfl rfl rfl dX4_find_40 (fun h7 hf => ?_)
        refine g_goto (tgt := 8) X dX4_find_43 (by decide) ?_
        exact ih x0 h7 hf
      · exact w_X4_find_46 X x0 h hf
    · exact w_X4_find_46 X x0 h hf
def f_X4_find  (a0 : Option Nat) (h : AH) : Option AH :=
  (gI 4 10 h a0).bind fun v1 =>
  (pI 4 9 h a0 v1).bind fun h2 =>
  b_X4_find_8 FU a0 h2
set_option maxRecDepth 20000 in
theorem m_X4_find  {a0 : Option Nat} {h : AH} {w : AH} (hf : f_X4_find a0 h = some w) : CT yX4_find (wU yX4_find cX4_find 1 none) (rmD 2 0 0) 0 0 [tR a0] h (none, w) := by
  refine CT.of (cc := cX4_find) (nL := 1) (ret := none) (by decide) (by simp [lg_sl, vOf_cat, wOf]) ?_
  intro K X
  refine g_locs (lv' := [(0, tR a0)]) (fun q hq => hq) ?_
  unfold f_X4_find at hf
  refine g_aload_n X dX4_find_0 0 rfl ?_
  refine g_aload_n X dX4_find_1 0 rfl ?_
  refine g_getI X hf (T := TX4) rfl (by decide) (by decide) in_RX4 tb_290 rfl dX4_find_2 (fun v1 hf => ?_)
  refine g_putI X hf (T := TX4) rfl (by decide) (by decide) in_RX4 tyX4 tyX4_ok nmX4 tb_289 rfl rfl rfl dX4_find_5 (fun h2 hf => ?_)
  exact w_X4_find_8 X FU a0 h2 hf
def f_J0_coder_7d493  (a0 : Option Nat) (h : AH) : Option Int32 :=
  if (Int32.ofNat (h.2.2 51)) = 0 then
    rB 1
  else
    (gSI h a0).bind fun v1 =>
    rB v1
set_option maxRecDepth 20000 in
theorem m_J0_coder_7d493  {a0 : Option Nat} {h : AH} {w : Int32} (hf : f_J0_coder_7d493 a0 h = some w) : CT yJ0_coder_7d493 (wU yJ0_coder_7d493 cJ0_coder_7d493 1 (some .byte)) (rmD 1 0 0) 0 0 [tR a0] h (some (tI w), h) := by
  refine CT.of (cc := cJ0_coder_7d493) (nL := 1) (ret := (some .byte)) (by decide) (by simp [lg_sl, vOf_cat, wOf]) ?_
  intro K X
  refine g_locs (lv' := [(0, tR a0)]) (fun q hq => hq) ?_
  unfold f_J0_coder_7d493 at hf
  refine g_compact X tb_690 dJ0_coder_7d493_0 ?_
  refine g_ifeq (tgt := 13) X hf dJ0_coder_7d493_3 (by decide) (fun hf => ?_) (fun hf => ?_)
  · refine g_iconst (v := 1) X dJ0_coder_7d493_13 (by decide) ?_
    exact g_breturn2 X hf (by decide) (by decide) dJ0_coder_7d493_14
  · refine g_aload_n X dJ0_coder_7d493_6 0 rfl ?_
    refine g_strI X hf tb_1646 dJ0_coder_7d493_7 (fun v1 hf => ?_)
    refine g_goto (tgt := 14) X dJ0_coder_7d493_10 (by decide) ?_
    exact g_breturn2 X hf (by decide) (by decide) dJ0_coder_7d493_14
def f_J0_length_8abf5  (a0 : Option Nat) (h : AH) : Option Int32 :=
  (gSR h a0).bind fun v1 =>
  (aL h v1).bind fun v2 =>
  (ck 310 h a0 (f_J0_coder_7d493 a0 h)).bind fun v3 =>
  some (v2 >>> (v3 &&& 31))
set_option maxRecDepth 20000 in
theorem m_J0_length_8abf5  {a0 : Option Nat} {h : AH} {w : Int32} (hf : f_J0_length_8abf5 a0 h = some w) : CT yJ0_length_8abf5 (wU yJ0_length_8abf5 cJ0_length_8abf5 1 (some .int)) (rmD 2 0 0) 0 0 [tR a0] h (some (tI w), h) := by
  refine CT.of (cc := cJ0_length_8abf5) (nL := 1) (ret := (some .int)) (by decide) (by simp [lg_sl, vOf_cat, wOf]) ?_
  intro K X
  refine g_locs (lv' := [(0, tR a0)]) (fun q hq => hq) ?_
  unfold f_J0_length_8abf5 at hf
  refine g_aload_n X dJ0_length_8abf5_0 0 rfl ?_
  refine g_strR X hf tb_1645 dJ0_length_8abf5_1 (fun v1 hf => ?_)
  refine g_alen X hf dJ0_length_8abf5_4 (fun v2 hf => ?_)
  refine g_aload_n X dJ0_length_8abf5_5 0 rfl ?_
  refine g_callSt (n := 0) (av := []) (rest := [tI v2]) X hf (fun v3 => (some (tI v3), h)) (fun _ q => m_J0_coder_7d493 q) (gdV tb_686 tb_687 tb_688 tb_15 tb_689) rfl (by decide +kernel) rfl (by decide) (by decide) rfl (Nat.le_of_ble_eq_true rfl) dJ0_length_8abf5_6 (fun v3 hf => ?_)
  refine g_ishr X dJ0_length_8abf5_9 ?_
  exact g_ireturn X (zP hf) (by decide) (by decide) dJ0_length_8abf5_10
def f_J0_isLatin1_aae02  (a0 : Option Nat) (h : AH) : Option Int32 :=
  if (Int32.ofNat (h.2.2 51)) = 0 then
    some 0
  else
    (gSI h a0).bind fun v1 =>
    if v1 = 0 then
      some 1
    else
      some 0
set_option maxRecDepth 20000 in
theorem m_J0_isLatin1_aae02  {a0 : Option Nat} {h : AH} {w : Int32} (hf : f_J0_isLatin1_aae02 a0 h = some w) : CT yJ0_isLatin1_aae02 (wU yJ0_isLatin1_aae02 cJ0_isLatin1_aae02 1 (some .boolean)) (rmD 1 0 0) 0 0 [tR a0] h (some (tI w), h) := by
  refine CT.of (cc := cJ0_isLatin1_aae02) (nL := 1) (ret := (some .boolean)) (by decide) (by simp [lg_sl, vOf_cat, wOf]) ?_
  intro K X
  refine g_locs (lv' := [(0, tR a0)]) (fun q hq => hq) ?_
  unfold f_J0_isLatin1_aae02 at hf
  refine g_compact X tb_690 dJ0_isLatin1_aae02_0 ?_
  refine g_ifeq (tgt := 17) X hf dJ0_isLatin1_aae02_3 (by decide) (fun hf => ?_) (fun hf => ?_)
  · refine g_iconst (v := 0) X dJ0_isLatin1_aae02_17 (by decide) ?_
    exact g_zreturn X (zP hf) (by decide) (by decide) (by decide) dJ0_isLatin1_aae02_18
  · refine g_aload_n X dJ0_isLatin1_aae02_6 0 rfl ?_
    refine g_strI X hf tb_1646 dJ0_isLatin1_aae02_7 (fun v1 hf => ?_)
    refine g_ifne (tgt := 17) X hf dJ0_isLatin1_aae02_10 (by decide) (fun hf => ?_) (fun hf => ?_)
    · refine g_iconst (v := 1) X dJ0_isLatin1_aae02_13 (by decide) ?_
      refine g_goto (tgt := 18) X dJ0_isLatin1_aae02_14 (by decide) ?_
      exact g_zreturn X (zP hf) (by decide) (by decide) (by decide) dJ0_isLatin1_aae02_18
    · refine g_iconst (v := 0) X dJ0_isLatin1_aae02_17 (by decide) ?_
      exact g_zreturn X (zP hf) (by decide) (by decide) (by decide) dJ0_isLatin1_aae02_18
def b_J3_checkIndex_8e157_9   (h : AH) (x0 : Int32) (x1 : Int32) (x2 : Option Nat) : Option Int32 :=
  none
set_option maxRecDepth 20000 in
theorem w_J3_checkIndex_8e157_9 {K : KT} {w : Int32} {h : AH}   (X : CX K cJ3_checkIndex_8e157 RJ3 TB (some .int) "checkIndex" (rmD 1 0 0) 3 0 0)  (x0 : Int32) (x1 : Int32) (x2 : Option Nat) (hf : b_J3_checkIndex_8e157_9 h x0 x1 x2 = some w) : GG K (some (tI w), h) 0 0 9 [(0, tI x0), (1, tI x1), (2, tR x2)] [] h := by
  unfold b_J3_checkIndex_8e157_9 at hf
  refine g_aload_n X dJ3_checkIndex_8e157_9 2 rfl ?_
  refine g_iload_n X dJ3_checkIndex_8e157_10 0 rfl ?_
  refine g_iload_n X dJ3_checkIndex_8e157_11 1 rfl ?_
  cases hf
def f_J3_checkIndex_8e157  (a0 : Int32) (a1 : Int32) (a2 : Option Nat) (h : AH) : Option Int32 :=
  if a0 < 0 then
    b_J3_checkIndex_8e157_9 h a0 a1 a2
  else
    if a0 < a1 then
      some a0
    else
      b_J3_checkIndex_8e157_9 h a0 a1 a2
set_option maxRecDepth 20000 in
theorem m_J3_checkIndex_8e157  {a0 : Int32} {a1 : Int32} {a2 : Option Nat} {h : AH} {w : Int32} (hf : f_J3_checkIndex_8e157 a0 a1 a2 h = some w) : CT yJ3_checkIndex_8e157 (wU yJ3_checkIndex_8e157 cJ3_checkIndex_8e157 3 (some .int)) (rmD 1 0 0) 0 0 [tI a0, tI a1, tR a2] h (some (tI w), h) := by
  refine CT.of (cc := cJ3_checkIndex_8e157) (nL := 3) (ret := (some .int)) (by decide) (by simp [lg_sl, vOf_cat, wOf]) ?_
  intro K X
  refine g_locs (lv' := [(0, tI a0), (1, tI a1), (2, tR a2)]) (fun q hq => hq) ?_
  unfold f_J3_checkIndex_8e157 at hf
  refine g_iload_n X dJ3_checkIndex_8e157_0 0 rfl ?_
  refine g_iflt (tgt := 9) X hf dJ3_checkIndex_8e157_1 (by decide) (fun hf => ?_) (fun hf => ?_)
  · exact w_J3_checkIndex_8e157_9 X a0 a1 a2 hf
  · refine g_iload_n X dJ3_checkIndex_8e157_4 0 rfl ?_
    refine g_iload_n X dJ3_checkIndex_8e157_5 1 rfl ?_
    refine g_icmplt (tgt := 16) X hf dJ3_checkIndex_8e157_6 (by decide) (fun hf => ?_) (fun hf => ?_)
    · refine g_iload_n X dJ3_checkIndex_8e157_16 0 rfl ?_
      exact g_ireturn X (zP hf) (by decide) (by decide) dJ3_checkIndex_8e157_17
    · exact w_J3_checkIndex_8e157_9 X a0 a1 a2 hf
def f_J0_checkIndex_df160  (a0 : Int32) (a1 : Int32) (h : AH) : Option Unit :=
  (f_J3_checkIndex_8e157 a0 a1 (sio (h.2.2 50)) h).bind fun v1 =>
  some ()
set_option maxRecDepth 20000 in
theorem m_J0_checkIndex_df160  {a0 : Int32} {a1 : Int32} {h : AH} {w : Unit} (hf : f_J0_checkIndex_df160 a0 a1 h = some w) : CT yJ0_checkIndex_df160 (wU yJ0_checkIndex_df160 cJ0_checkIndex_df160 2 none) (rmD 2 0 0) 0 0 [tI a0, tI a1] h (none, h) := by
  refine CT.of (cc := cJ0_checkIndex_df160) (nL := 2) (ret := none) (by decide) (by simp [lg_sl, vOf_cat, wOf]) ?_
  intro K X
  refine g_locs (lv' := [(0, tI a0), (1, tI a1)]) (fun q hq => hq) ?_
  unfold f_J0_checkIndex_df160 at hf
  refine g_iload_n X dJ0_checkIndex_df160_0 0 rfl ?_
  refine g_iload_n X dJ0_checkIndex_df160_1 1 rfl ?_
  refine g_sio X tb_705 dJ0_checkIndex_df160_2 ?_
  refine g_callS (n := 3) (av := [tI a0, tI a1, tR (sio (h.2.2 50))]) (rest := []) X hf (fun v1 => (some (tI v1), h)) (fun _ q => m_J3_checkIndex_8e157 q) (gdS tb_706 tb_707 tb_17 tb_708) rfl (by decide +kernel) rfl (by decide) (by decide) rfl (Nat.le_of_ble_eq_true rfl) dJ0_checkIndex_df160_5 (fun v1 hf => ?_)
  refine g_pop X dJ0_checkIndex_df160_8 rfl ?_
  exact g_vreturn X rfl (by decide) (by decide) dJ0_checkIndex_df160_9
def f_J1_charAt_3b067  (a0 : Option Nat) (a1 : Int32) (h : AH) : Option Int32 :=
  (aL h a0).bind fun v1 =>
  (f_J0_checkIndex_df160 a1 v1 h).bind fun v2 =>
  (gB h a0 a1).bind fun v3 =>
  rC ((((v3 &&& 255) : Int32).toUInt32 % 65536).toInt32)
set_option maxRecDepth 20000 in
theorem m_J1_charAt_3b067  {a0 : Option Nat} {a1 : Int32} {h : AH} {w : Int32} (hf : f_J1_charAt_3b067 a0 a1 h = some w) : CT yJ1_charAt_3b067 (wU yJ1_charAt_3b067 cJ1_charAt_3b067 2 (some .char)) (rmD 3 0 0) 0 0 [tR a0, tI a1] h (some (tI w), h) := by
  refine CT.of (cc := cJ1_charAt_3b067) (nL := 2) (ret := (some .char)) (by decide) (by simp [lg_sl, vOf_cat, wOf]) ?_
  intro K X
  refine g_locs (lv' := [(0, tR a0), (1, tI a1)]) (fun q hq => hq) ?_
  unfold f_J1_charAt_3b067 at hf
  refine g_iload_n X dJ1_charAt_3b067_0 1 rfl ?_
  refine g_aload_n X dJ1_charAt_3b067_1 0 rfl ?_
  refine g_alen X hf dJ1_charAt_3b067_2 (fun v1 hf => ?_)
  refine g_callS (n := 2) (av := [tI a1, tI v1]) (rest := []) X hf (fun v2 => (none, h)) (fun _ q => m_J0_checkIndex_df160 q) (gdS tb_702 tb_703 tb_15 tb_704) rfl (by decide +kernel) rfl (by decide) (by decide) rfl (Nat.le_of_ble_eq_true rfl) dJ1_charAt_3b067_3 (fun v2 hf => ?_)
  refine g_aload_n X dJ1_charAt_3b067_6 0 rfl ?_
  refine g_iload_n X dJ1_charAt_3b067_7 1 rfl ?_
  refine g_baloadB X hf dJ1_charAt_3b067_8 (fun v3 hf => ?_)
  refine g_sipush (v := 255) X dJ1_charAt_3b067_9 (by decide) ?_
  refine g_iand X dJ1_charAt_3b067_12 ?_
  refine g_i2c X dJ1_charAt_3b067_13 ?_
  exact g_creturn2 X hf (by decide) (by decide) dJ1_charAt_3b067_14
def f_J0_charAt_5068e  (a0 : Option Nat) (a1 : Int32) (h : AH) : Option Int32 :=
  (ck 310 h a0 (f_J0_isLatin1_aae02 a0 h)).bind fun v1 =>
  if v1 = 0 then
    (gSR h a0).bind fun v2 =>
    none
  else
    (gSR h a0).bind fun v3 =>
    (f_J1_charAt_3b067 v3 a1 h).bind fun v4 =>
    rC v4
set_option maxRecDepth 20000 in
theorem m_J0_charAt_5068e  {a0 : Option Nat} {a1 : Int32} {h : AH} {w : Int32} (hf : f_J0_charAt_5068e a0 a1 h = some w) : CT yJ0_charAt_5068e (wU yJ0_charAt_5068e cJ0_charAt_5068e 2 (some .char)) (rmD 4 0 0) 0 0 [tR a0, tI a1] h (some (tI w), h) := by
  refine CT.of (cc := cJ0_charAt_5068e) (nL := 2) (ret := (some .char)) (by decide) (by simp [lg_sl, vOf_cat, wOf]) ?_
  intro K X
  refine g_locs (lv' := [(0, tR a0), (1, tI a1)]) (fun q hq => hq) ?_
  unfold f_J0_charAt_5068e at hf
  refine g_aload_n X dJ0_charAt_5068e_0 0 rfl ?_
  refine g_callSt (n := 0) (av := []) (rest := []) X hf (fun v1 => (some (tI v1), h)) (fun _ q => m_J0_isLatin1_aae02 q) (gdV tb_695 tb_696 tb_697 tb_15 tb_698) rfl (by decide +kernel) rfl (by decide) (by decide) rfl (Nat.le_of_ble_eq_true rfl) dJ0_charAt_5068e_1 (fun v1 hf => ?_)
  refine g_ifeq (tgt := 16) X hf dJ0_charAt_5068e_4 (by decide) (fun hf => ?_) (fun hf => ?_)
  · refine g_aload_n X dJ0_charAt_5068e_16 0 rfl ?_
    refine g_strR X hf tb_1645 dJ0_charAt_5068e_17 (fun v2 hf => ?_)
    refine g_iload_n X dJ0_charAt_5068e_20 1 rfl ?_
    cases hf
  · refine g_aload_n X dJ0_charAt_5068e_7 0 rfl ?_
    refine g_strR X hf tb_1645 dJ0_charAt_5068e_8 (fun v3 hf => ?_)
    refine g_iload_n X dJ0_charAt_5068e_11 1 rfl ?_
    refine g_callS (n := 2) (av := [tR v3, tI a1]) (rest := []) X hf (fun v4 => (some (tI v4), h)) (fun _ q => m_J1_charAt_3b067 q) (gdS tb_699 tb_700 tb_16 tb_701) rfl (by decide +kernel) rfl (by decide) (by decide) rfl (Nat.le_of_ble_eq_true rfl) dJ0_charAt_5068e_12 (fun v4 hf => ?_)
    exact g_creturn2 X hf (by decide) (by decide) dJ0_charAt_5068e_15
def b_X4_spells_20   (h : AH) : Nat → Option Nat → Option Nat → Int32 → Int32 → Int32 → Option Int32
  | 0 => fun _ _ _ _ _ => none
  | n + 1 => fun x0 x1 x2 x3 x4 =>
    if x4 < x3 then
      (ck 310 h x1 (f_J0_charAt_5068e x1 x4 h)).bind fun v1 =>
      (gR 4 0 h x0).bind fun v2 =>
      (gI 4 9 h x0).bind fun v3 =>
      (aI h v2 ((v3 + x4) - x2)).bind fun v4 =>
      if v1 = v4 then
        b_X4_spells_20 h n x0 x1 x2 x3 (x4 + 1)
      else
        some 0
    else
      some 1
set_option maxRecDepth 20000 in
theorem w_X4_spells_20 {K : KT} {w : Int32} {h : AH}   (X : CX K cX4_spells RX4 TB (some .boolean) "spells" (rmD 5 0 0) 5 0 0)  : ∀ (n : Nat) (x0 : Option Nat) (x1 : Option Nat) (x2 : Int32) (x3 : Int32) (x4 : Int32), b_X4_spells_20 h n x0 x1 x2 x3 x4 = some w → GG K (some (tI w), h) 0 0 20 [(0, tR x0), (1, tR x1), (2, tI x2), (3, tI x3), (4, tI x4)] [] h := by
  intro n
  induction n with
  | zero =>
    intro x0 x1 x2 x3 x4 hf
    cases (show none = some w from hf)
  | succ n ih =>
    intro x0 x1 x2 x3 x4 hf
    rw [b_X4_spells_20] at hf
    refine g_iload X dX4_spells_20 4 rfl ?_
    refine g_iload_n X dX4_spells_22 3 rfl ?_
    refine g_icmpge (tgt := 57) X hf dX4_spells_23 (by decide) (fun hf => ?_) (fun hf => ?_)
    · refine g_aload_n X dX4_spells_26 1 rfl ?_
      refine g_iload X dX4_spells_27 4 rfl ?_
      refine g_callSt (n := 1) (av := [tI x4]) (rest := []) X hf (fun v1 => (some (tI v1), h)) (fun _ q => m_J0_charAt_5068e q) (gdV tb_691 tb_692 tb_693 tb_15 tb_694) rfl (by decide +kernel) rfl (by decide) (by decide) rfl (Nat.le_of_ble_eq_true rfl) dX4_spells_29 (fun v1 hf => ?_)
      refine g_aload_n X dX4_spells_32 0 rfl ?_
      refine g_getR X hf (T := TX4) rfl (by decide) (by decide) in_RX4 tb_277 rfl dX4_spells_33 (fun v2 hf => ?_)
      refine g_aload_n X dX4_spells_36 0 rfl ?_
      refine g_getI X hf (T := TX4) rfl (by decide) (by decide) in_RX4 tb_289 rfl dX4_spells_37 (fun v3 hf => ?_)
      refine g_iload X dX4_spells_40 4 rfl ?_
      refine g_iadd X dX4_spells_42 ?_
      refine g_iload_n X dX4_spells_43 2 rfl ?_
      refine g_isub X dX4_spells_44 ?_
      refine g_iaload X hf dX4_spells_45 (fun v4 hf => ?_)
      refine g_icmpeq (tgt := 51) X hf dX4_spells_46 (by decide) (fun hf => ?_) (fun hf => ?_)
      · refine g_iinc (v := (x4 + 1)) (lv' := [(0, tR x0), (1, tR x1), (2, tI x2), (3, tI x3), (4, tI (x4 + 1))]) X dX4_spells_51 4 rfl (by rfl) (by decide) (in_pick [1, 2, 3, 4, 0] rfl) ?_
        refine g_goto (tgt := 20) X dX4_spells_54 (by decide) ?_
        exact ih x0 x1 x2 x3 (x4 + 1) hf
      · refine g_iconst (v := 0) X dX4_spells_49 (by decide) ?_
        exact g_zreturn X (zP hf) (by decide) (by decide) (by decide) dX4_spells_50
    · refine g_iconst (v := 1) X dX4_spells_57 (by decide) ?_
      exact g_zreturn X (zP hf) (by decide) (by decide) (by decide) dX4_spells_58
def f_X4_spells  (a0 : Option Nat) (a1 : Option Nat) (a2 : Int32) (a3 : Int32) (h : AH) : Option Int32 :=
  (gI 4 10 h a0).bind fun v1 =>
  (gI 4 9 h a0).bind fun v2 =>
  if (a3 - a2) = (v1 - v2) then
    b_X4_spells_20 h FU a0 a1 a2 a3 a2
  else
    some 0
set_option maxRecDepth 20000 in
theorem m_X4_spells  {a0 : Option Nat} {a1 : Option Nat} {a2 : Int32} {a3 : Int32} {h : AH} {w : Int32} (hf : f_X4_spells a0 a1 a2 a3 h = some w) : CT yX4_spells (wU yX4_spells cX4_spells 5 (some .boolean)) (rmD 5 0 0) 0 0 [tR a0, tR a1, tI a2, tI a3] h (some (tI w), h) := by
  refine CT.of (cc := cX4_spells) (nL := 5) (ret := (some .boolean)) (by decide) (by simp [lg_sl, vOf_cat, wOf]) ?_
  intro K X
  refine g_locs (lv' := [(0, tR a0), (1, tR a1), (2, tI a2), (3, tI a3)]) (fun q hq => hq) ?_
  unfold f_X4_spells at hf
  refine g_iload_n X dX4_spells_0 3 rfl ?_
  refine g_iload_n X dX4_spells_1 2 rfl ?_
  refine g_isub X dX4_spells_2 ?_
  refine g_aload_n X dX4_spells_3 0 rfl ?_
  refine g_getI X hf (T := TX4) rfl (by decide) (by decide) in_RX4 tb_290 rfl dX4_spells_4 (fun v1 hf => ?_)
  refine g_aload_n X dX4_spells_7 0 rfl ?_
  refine g_getI X hf (T := TX4) rfl (by decide) (by decide) in_RX4 tb_289 rfl dX4_spells_8 (fun v2 hf => ?_)
  refine g_isub X dX4_spells_11 ?_
  refine g_icmpeq (tgt := 17) X hf dX4_spells_12 (by decide) (fun hf => ?_) (fun hf => ?_)
  · refine g_iload_n X dX4_spells_17 2 rfl ?_
    refine g_istore (lv' := [(0, tR a0), (1, tR a1), (2, tI a2), (3, tI a3), (4, tI a2)]) X dX4_spells_18 (by decide) (in_pick [1, 2, 3, 4, 0] rfl) ?_
    exact w_X4_spells_20 X FU a0 a1 a2 a3 a2 hf
  · refine g_iconst (v := 0) X dX4_spells_15 (by decide) ?_
    exact g_zreturn X (zP hf) (by decide) (by decide) (by decide) dX4_spells_16
def b_X4_among_36  (k7 : Option Nat → Option Nat → Int32 → Int32 → Int32 → Option Int32) (h : AH) (x0 : Option Nat) (x1 : Option Nat) (x2 : Int32) (x3 : Int32) (x4 : Int32) : Option Int32 :=
  (ck 4 h x0 (f_X4_spells x0 x1 x3 x4 h)).bind fun v1 =>
  if v1 = 0 then
    k7 x0 x1 (x2 + 1) (x4 + 1) (x4 + 1)
  else
    some x2
set_option maxRecDepth 20000 in
theorem w_X4_among_36 {K : KT} {w : Int32} {h : AH} {k7 : Option Nat → Option Nat → Int32 → Int32 → Int32 → Option Int32}  (X : CX K cX4_among RX4 TB (some .int) "among" (rmD 6 0 0) 5 0 0) (hk7 : ∀ (x0 : Option Nat) (x1 : Option Nat) (x2 : Int32) (x3 : Int32) (x4 : Int32), k7 x0 x1 x2 x3 x4 = some w → GG K (some (tI w), h) 0 0 7 [(0, tR x0), (1, tR x1), (2, tI x2), (3, tI x3), (4, tI x4)] [] h) (x0 : Option Nat) (x1 : Option Nat) (x2 : Int32) (x3 : Int32) (x4 : Int32) (hf : b_X4_among_36 k7 h x0 x1 x2 x3 x4 = some w) : GG K (some (tI w), h) 0 0 36 [(0, tR x0), (1, tR x1), (2, tI x2), (3, tI x3), (4, tI x4)] [] h := by
  unfold b_X4_among_36 at hf
  refine g_aload_n X dX4_among_36 0 rfl ?_
  refine g_aload_n X dX4_among_37 1 rfl ?_
  refine g_iload_n X dX4_among_38 3 rfl ?_
  refine g_iload X dX4_among_39 4 rfl ?_
  refine g_callV (n := 3) (av := [tR x1, tI x3, tI x4]) (rest := []) (k := 4) X hf (fun v1 => (some (tI v1), h)) (fun _ q => m_X4_spells q) (gdV tb_725 tb_726 tb_1658 tb_9 tb_727) rfl (by decide +kernel) rfl (by decide) rfl (by decide) (by decide) rfl (Nat.le_of_ble_eq_true rfl) dX4_among_41 (fun v1 hf => ?_)
  refine g_ifeq (tgt := 49) X hf dX4_among_44 (by decide) (fun hf => ?_) (fun hf => ?_)
  · refine g_iinc (v := (x2 + 1)) (lv' := [(0, tR x0), (1, tR x1), (2, tI (x2 + 1)), (3, tI x3), (4, tI x4)]) X dX4_among_49 2 rfl (by rfl) (by decide) (in_pick [1, 2, 0, 3, 4] rfl) ?_
    refine g_iload X dX4_among_52 4 rfl ?_
    refine g_iconst (v := 1) X dX4_among_54 (by decide) ?_
    refine g_iadd X dX4_among_55 ?_
    refine g_istore_n (lv' := [(0, tR x0), (1, tR x1), (2, tI (x2 + 1)), (3, tI (x4 + 1)), (4, tI x4)]) X dX4_among_56 (by decide) (in_pick [1, 2, 3, 0, 4] rfl) ?_
    refine g_iinc (v := (x4 + 1)) (lv' := [(0, tR x0), (1, tR x1), (2, tI (x2 + 1)), (3, tI (x4 + 1)), (4, tI (x4 + 1))]) X dX4_among_57 4 rfl (by rfl) (by decide) (in_pick [1, 2, 3, 4, 0] rfl) ?_
    refine g_goto (tgt := 7) X dX4_among_60 (by decide) ?_
    exact hk7 x0 x1 (x2 + 1) (x4 + 1) (x4 + 1) hf
  · refine g_iload_n X dX4_among_47 2 rfl ?_
    exact g_ireturn X (zP hf) (by decide) (by decide) dX4_among_48
def b_X4_among_7   (h : AH) : Nat → Option Nat → Option Nat → Int32 → Int32 → Int32 → Option Int32
  | 0 => fun _ _ _ _ _ => none
  | n + 1 => fun x0 x1 x2 x3 x4 =>
    (ck 310 h x1 (f_J0_length_8abf5 x1 h)).bind fun v1 =>
    if v1 < x4 then
      some (-1)
    else
      (ck 310 h x1 (f_J0_length_8abf5 x1 h)).bind fun v2 =>
      if x4 = v2 then
        b_X4_among_36 (b_X4_among_7 h n) h x0 x1 x2 x3 x4
      else
        (ck 310 h x1 (f_J0_charAt_5068e x1 x4 h)).bind fun v3 =>
        if v3 = 32 then
          b_X4_among_36 (b_X4_among_7 h n) h x0 x1 x2 x3 x4
        else
          b_X4_among_7 h n x0 x1 x2 x3 (x4 + 1)
set_option maxRecDepth 20000 in
theorem w_X4_among_7 {K : KT} {w : Int32} {h : AH}   (X : CX K cX4_among RX4 TB (some .int) "among" (rmD 6 0 0) 5 0 0)  : ∀ (n : Nat) (x0 : Option Nat) (x1 : Option Nat) (x2 : Int32) (x3 : Int32) (x4 : Int32), b_X4_among_7 h n x0 x1 x2 x3 x4 = some w → GG K (some (tI w), h) 0 0 7 [(0, tR x0), (1, tR x1), (2, tI x2), (3, tI x3), (4, tI x4)] [] h := by
  intro n
  induction n with
  | zero =>
    intro x0 x1 x2 x3 x4 hf
    cases (show none = some w from hf)
  | succ n ih =>
    intro x0 x1 x2 x3 x4 hf
    rw [b_X4_among_7] at hf
    refine g_iload X dX4_among_7 4 rfl ?_
    refine g_aload_n X dX4_among_9 1 rfl ?_
    refine g_callSt (n := 0) (av := []) (rest := [tI x4]) X hf (fun v1 => (some (tI v1), h)) (fun _ q => m_J0_length_8abf5 q) (gdV tb_682 tb_683 tb_684 tb_15 tb_685) rfl (by decide +kernel) rfl (by decide) (by decide) rfl (Nat.le_of_ble_eq_true rfl) dX4_among_10 (fun v1 hf => ?_)
    refine g_icmpgt (tgt := 63) X hf dX4_among_13 (by decide) (fun hf => ?_) (fun hf => ?_)
    · refine g_iconst (v := (-1)) X dX4_among_63 (by decide) ?_
      exact g_ireturn X (zP hf) (by decide) (by decide) dX4_among_64
    · refine g_iload X dX4_among_16 4 rfl ?_
      refine g_aload_n X dX4_among_18 1 rfl ?_
      refine g_callSt (n := 0) (av := []) (rest := [tI x4]) X hf (fun v2 => (some (tI v2), h)) (fun _ q => m_J0_length_8abf5 q) (gdV tb_682 tb_683 tb_684 tb_15 tb_685) rfl (by decide +kernel) rfl (by decide) (by decide) rfl (Nat.le_of_ble_eq_true rfl) dX4_among_19 (fun v2 hf => ?_)
      refine g_icmpeq (tgt := 36) X hf dX4_among_22 (by decide) (fun hf => ?_) (fun hf => ?_)
      · exact w_X4_among_36 X ih x0 x1 x2 x3 x4 hf
      · refine g_aload_n X dX4_among_25 1 rfl ?_
        refine g_iload X dX4_among_26 4 rfl ?_
        refine g_callSt (n := 1) (av := [tI x4]) (rest := []) X hf (fun v3 => (some (tI v3), h)) (fun _ q => m_J0_charAt_5068e q) (gdV tb_691 tb_692 tb_693 tb_15 tb_694) rfl (by decide +kernel) rfl (by decide) (by decide) rfl (Nat.le_of_ble_eq_true rfl) dX4_among_28 (fun v3 hf => ?_)
        refine g_bipush (v := 32) X dX4_among_31 (by decide) ?_
        refine g_icmpne (tgt := 57) X hf dX4_among_33 (by decide) (fun hf => ?_) (fun hf => ?_)
        · exact w_X4_among_36 X ih x0 x1 x2 x3 x4 hf
        · refine g_iinc (v := (x4 + 1)) (lv' := [(0, tR x0), (1, tR x1), (2, tI x2), (3, tI x3), (4, tI (x4 + 1))]) X dX4_among_57 4 rfl (by rfl) (by decide) (in_pick [1, 2, 3, 4, 0] rfl) ?_
          refine g_goto (tgt := 7) X dX4_among_60 (by decide) ?_
          exact ih x0 x1 x2 x3 (x4 + 1) hf
def f_X4_among  (a0 : Option Nat) (a1 : Option Nat) (h : AH) : Option Int32 :=
  b_X4_among_7 h FU a0 a1 0 0 0
set_option maxRecDepth 20000 in
theorem m_X4_among  {a0 : Option Nat} {a1 : Option Nat} {h : AH} {w : Int32} (hf : f_X4_among a0 a1 h = some w) : CT yX4_among (wU yX4_among cX4_among 5 (some .int)) (rmD 6 0 0) 0 0 [tR a0, tR a1] h (some (tI w), h) := by
  refine CT.of (cc := cX4_among) (nL := 5) (ret := (some .int)) (by decide) (by simp [lg_sl, vOf_cat, wOf]) ?_
  intro K X
  refine g_locs (lv' := [(0, tR a0), (1, tR a1)]) (fun q hq => hq) ?_
  unfold f_X4_among at hf
  refine g_iconst (v := 0) X dX4_among_0 (by decide) ?_
  refine g_istore_n (lv' := [(0, tR a0), (1, tR a1), (2, tI 0)]) X dX4_among_1 (by decide) (in_pick [1, 2, 0] rfl) ?_
  refine g_iconst (v := 0) X dX4_among_2 (by decide) ?_
  refine g_istore_n (lv' := [(0, tR a0), (1, tR a1), (2, tI 0), (3, tI 0)]) X dX4_among_3 (by decide) (in_pick [1, 2, 3, 0] rfl) ?_
  refine g_iconst (v := 0) X dX4_among_4 (by decide) ?_
  refine g_istore (lv' := [(0, tR a0), (1, tR a1), (2, tI 0), (3, tI 0), (4, tI 0)]) X dX4_among_5 (by decide) (in_pick [1, 2, 3, 4, 0] rfl) ?_
  exact w_X4_among_7 X FU a0 a1 0 0 0 hf
def b_X4_acceptLine_62   (x0 : Option Nat) (s0 : Option Nat) (s1 : Int32) (h : AH) : Option (Int32 × AH) :=
  (pI 4 3 h s0 s1).bind fun h1 =>
  (gI 4 4 h1 x0).bind fun v2 =>
  if v2 < 4 then
    (gR 4 2 h1 x0).bind fun v3 =>
    (gR 3 4 h1 v3).bind fun v4 =>
    (gI 4 4 h1 x0).bind fun v5 =>
    (gR 4 2 h1 x0).bind fun v6 =>
    (gI 3 3 h1 v6).bind fun v7 =>
    (sI h1 v4 v5 v7).bind fun h8 =>
    some (1, h8)
  else
    some (1, h1)
set_option maxRecDepth 20000 in
theorem w_X4_acceptLine_62 {K : KT} {w : (Int32 × AH)}   (X : CX K cX4_acceptLine RX4 TB (some .boolean) "acceptLine" (rmD 7 0 0) 1 0 0)  (x0 : Option Nat) (s0 : Option Nat) (s1 : Int32) (h : AH) (hf : b_X4_acceptLine_62 x0 s0 s1 h = some w) : GG K (some (tI w.1), w.2) 0 0 62 [(0, tR x0)] [tI s1, tR s0] h := by
  unfold b_X4_acceptLine_62 at hf
  refine g_putI X hf (T := TX4) rfl (by decide) (by decide) in_RX4 tyX4 tyX4_ok nmX4 tb_283 rfl rfl rfl dX4_acceptLine_62 (fun h1 hf => ?_)
  refine g_aload_n X dX4_acceptLine_65 0 rfl ?_
  refine g_getI X hf (T := TX4) rfl (by decide) (by decide) in_RX4 tb_284 rfl dX4_acceptLine_66 (fun v2 hf => ?_)
  refine g_iconst (v := 4) X dX4_acceptLine_69 (by decide) ?_
  refine g_icmpge (tgt := 92) X hf dX4_acceptLine_70 (by decide) (fun hf => ?_) (fun hf => ?_)
  · refine g_aload_n X dX4_acceptLine_73 0 rfl ?_
    refine g_getR X hf (T := TX4) rfl (by decide) (by decide) in_RX4 tb_281 rfl dX4_acceptLine_74 (fun v3 hf => ?_)
    refine g_getR X hf (T := TX3) rfl (by decide) (by decide) in_RX3 tb_198 rfl dX4_acceptLine_77 (fun v4 hf => ?_)
    refine g_aload_n X dX4_acceptLine_80 0 rfl ?_
    refine g_getI X hf (T := TX4) rfl (by decide) (by decide) in_RX4 tb_284 rfl dX4_acceptLine_81 (fun v5 hf => ?_)
    refine g_aload_n X dX4_acceptLine_84 0 rfl ?_
    refine g_getR X hf (T := TX4) rfl (by decide) (by decide) in_RX4 tb_281 rfl dX4_acceptLine_85 (fun v6 hf => ?_)
    refine g_getI X hf (T := TX3) rfl (by decide) (by decide) in_RX3 tb_196 rfl dX4_acceptLine_88 (fun v7 hf => ?_)
    refine g_iastore X hf dX4_acceptLine_91 (fun h8 hf => ?_)
    refine g_iconst (v := 1) X dX4_acceptLine_92 (by decide) ?_
    exact g_zreturn X (zW hf) (by decide) (by decide) (by decide) dX4_acceptLine_93
  · refine g_iconst (v := 1) X dX4_acceptLine_92 (by decide) ?_
    exact g_zreturn X (zW hf) (by decide) (by decide) (by decide) dX4_acceptLine_93
def f_X4_acceptLine  (a0 : Option Nat) (h : AH) : Option (Int32 × AH) :=
  (ck 4 h a0 (f_X4_among a0 (some (h.2.2 (60 + 0))) h)).bind fun v1 =>
  (pI 4 4 h a0 v1).bind fun h2 =>
  (gI 4 4 h2 a0).bind fun v3 =>
  if v3 < 0 then
    some (0, h2)
  else
    (gI 4 5 h2 a0).bind fun v4 =>
    (gI 4 4 h2 a0).bind fun v5 =>
    if ((v4 >>> (v5 &&& 31)) &&& 1) = 0 then
      (gI 4 5 h2 a0).bind fun v6 =>
      (gI 4 4 h2 a0).bind fun v7 =>
      (pI 4 5 h2 a0 (v6 ||| (1 <<< (v7 &&& 31)))).bind fun h8 =>
      (gI 4 4 h8 a0).bind fun v9 =>
      if v9 = 4 then
        b_X4_acceptLine_62 a0 a0 1 h8
      else
        b_X4_acceptLine_62 a0 a0 2 h8
    else
      some (0, h2)
set_option maxRecDepth 20000 in
theorem m_X4_acceptLine  {a0 : Option Nat} {h : AH} {w : (Int32 × AH)} (hf : f_X4_acceptLine a0 h = some w) : CT yX4_acceptLine (wU yX4_acceptLine cX4_acceptLine 1 (some .boolean)) (rmD 7 0 0) 0 0 [tR a0] h (some (tI w.1), w.2) := by
  refine CT.of (cc := cX4_acceptLine) (nL := 1) (ret := (some .boolean)) (by decide) (by simp [lg_sl, vOf_cat, wOf]) ?_
  intro K X
  refine g_locs (lv' := [(0, tR a0)]) (fun q hq => hq) ?_
  unfold f_X4_acceptLine at hf
  refine g_aload_n X dX4_acceptLine_0 0 rfl ?_
  refine g_aload_n X dX4_acceptLine_1 0 rfl ?_
  refine g_ldcS X 0 rfl dX4_acceptLine_2 ?_
  refine g_callV (n := 1) (av := [tR (some (h.2.2 (60 + 0)))]) (rest := [tR a0]) (k := 4) X hf (fun v1 => (some (tI v1), h)) (fun _ q => m_X4_among q) (gdV tb_679 tb_680 tb_1657 tb_9 tb_681) rfl (by decide +kernel) rfl (by decide) rfl (by decide) (by decide) rfl (Nat.le_of_ble_eq_true rfl) dX4_acceptLine_4 (fun v1 hf => ?_)
  refine g_putI X hf (T := TX4) rfl (by decide) (by decide) in_RX4 tyX4 tyX4_ok nmX4 tb_284 rfl rfl rfl dX4_acceptLine_7 (fun h2 hf => ?_)
  refine g_aload_n X dX4_acceptLine_10 0 rfl ?_
  refine g_getI X hf (T := TX4) rfl (by decide) (by decide) in_RX4 tb_284 rfl dX4_acceptLine_11 (fun v3 hf => ?_)
  refine g_iflt (tgt := 31) X hf dX4_acceptLine_14 (by decide) (fun hf => ?_) (fun hf => ?_)
  · refine g_iconst (v := 0) X dX4_acceptLine_31 (by decide) ?_
    exact g_zreturn X (zW hf) (by decide) (by decide) (by decide) dX4_acceptLine_32
  · refine g_aload_n X dX4_acceptLine_17 0 rfl ?_
    refine g_getI X hf (T := TX4) rfl (by decide) (by decide) in_RX4 tb_285 rfl dX4_acceptLine_18 (fun v4 hf => ?_)
    refine g_aload_n X dX4_acceptLine_21 0 rfl ?_
    refine g_getI X hf (T := TX4) rfl (by decide) (by decide) in_RX4 tb_284 rfl dX4_acceptLine_22 (fun v5 hf => ?_)
    refine g_ishr X dX4_acceptLine_25 ?_
    refine g_iconst (v := 1) X dX4_acceptLine_26 (by decide) ?_
    refine g_iand X dX4_acceptLine_27 ?_
    refine g_ifeq (tgt := 33) X hf dX4_acceptLine_28 (by decide) (fun hf => ?_) (fun hf => ?_)
    · refine g_aload_n X dX4_acceptLine_33 0 rfl ?_
      refine g_dup X dX4_acceptLine_34 rfl ?_
      refine g_getI X hf (T := TX4) rfl (by decide) (by decide) in_RX4 tb_285 rfl dX4_acceptLine_35 (fun v6 hf => ?_)
      refine g_iconst (v := 1) X dX4_acceptLine_38 (by decide) ?_
      refine g_aload_n X dX4_acceptLine_39 0 rfl ?_
      refine g_getI X hf (T := TX4) rfl (by decide) (by decide) in_RX4 tb_284 rfl dX4_acceptLine_40 (fun v7 hf => ?_)
      refine g_ishl X dX4_acceptLine_43 ?_
      refine g_ior X dX4_acceptLine_44 ?_
      refine g_putI X hf (T := TX4) rfl (by decide) (by decide) in_RX4 tyX4 tyX4_ok nmX4 tb_285 rfl rfl rfl dX4_acceptLine_45 (fun h8 hf => ?_)
      refine g_aload_n X dX4_acceptLine_48 0 rfl ?_
      refine g_aload_n X dX4_acceptLine_49 0 rfl ?_
      refine g_getI X hf (T := TX4) rfl (by decide) (by decide) in_RX4 tb_284 rfl dX4_acceptLine_50 (fun v9 hf => ?_)
      refine g_iconst (v := 4) X dX4_acceptLine_53 (by decide) ?_
      refine g_icmpne (tgt := 61) X hf dX4_acceptLine_54 (by decide) (fun hf => ?_) (fun hf => ?_)
      · refine g_iconst (v := 1) X dX4_acceptLine_57 (by decide) ?_
        refine g_goto (tgt := 62) X dX4_acceptLine_58 (by decide) ?_
        exact w_X4_acceptLine_62 X a0 a0 1 h8 hf
      · refine g_iconst (v := 2) X dX4_acceptLine_61 (by decide) ?_
        exact w_X4_acceptLine_62 X a0 a0 2 h8 hf
    · refine g_iconst (v := 0) X dX4_acceptLine_31 (by decide) ?_
      exact g_zreturn X (zW hf) (by decide) (by decide) (by decide) dX4_acceptLine_32
def b_X4_number_31   (h : AH) : Nat → Option Nat → Int32 → Int32 → Option Int32
  | 0 => fun _ _ _ => none
  | n + 1 => fun x0 x1 x2 =>
    (gI 4 10 h x0).bind fun v1 =>
    if x2 < v1 then
      (gR 4 0 h x0).bind fun v2 =>
      (aI h v2 x2).bind fun v3 =>
      b_X4_number_31 h n x0 (((x1 * 10) + v3) - 48) (x2 + 1)
    else
      some x1
set_option maxRecDepth 20000 in
theorem w_X4_number_31 {K : KT} {w : Int32} {h : AH}   (X : CX K cX4_number RX4 TB (some .int) "number" (rmD 1 0 0) 3 0 0)  : ∀ (n : Nat) (x0 : Option Nat) (x1 : Int32) (x2 : Int32), b_X4_number_31 h n x0 x1 x2 = some w → GG K (some (tI w), h) 0 0 31 [(0, tR x0), (1, tI x1), (2, tI x2)] [] h := by
  intro n
  induction n with
  | zero =>
    intro x0 x1 x2 hf
    cases (show none = some w from hf)
  | succ n ih =>
    intro x0 x1 x2 hf
    rw [b_X4_number_31] at hf
    refine g_iload_n X dX4_number_31 2 rfl ?_
    refine g_aload_n X dX4_number_32 0 rfl ?_
    refine g_getI X hf (T := TX4) rfl (by decide) (by decide) in_RX4 tb_290 rfl dX4_number_33 (fun v1 hf => ?_)
    refine g_icmpge (tgt := 60) X hf dX4_number_36 (by decide) (fun hf => ?_) (fun hf => ?_)
    · refine g_iload_n X dX4_number_39 1 rfl ?_
      refine g_bipush (v := 10) X dX4_number_40 (by decide) ?_
      refine g_imul X dX4_number_42 ?_
      refine g_aload_n X dX4_number_43 0 rfl ?_
      refine g_getR X hf (T := TX4) rfl (by decide) (by decide) in_RX4 tb_277 rfl dX4_number_44 (fun v2 hf => ?_)
      refine g_iload_n X dX4_number_47 2 rfl ?_
      refine g_iaload X hf dX4_number_48 (fun v3 hf => ?_)
      refine g_iadd X dX4_number_49 ?_
      refine g_bipush (v := 48) X dX4_number_50 (by decide) ?_
      refine g_isub X dX4_number_52 ?_
      refine g_istore_n (lv' := [(0, tR x0), (1, tI (((x1 * 10) + v3) - 48)), (2, tI x2)]) X dX4_number_53 (by decide) (in_pick [1, 0, 2] rfl) ?_
      refine g_iinc (v := (x2 + 1)) (lv' := [(0, tR x0), (1, tI (((x1 * 10) + v3) - 48)), (2, tI (x2 + 1))]) X dX4_number_54 2 rfl (by rfl) (by decide) (in_pick [1, 2, 0] rfl) ?_
      refine g_goto (tgt := 31) X dX4_number_57 (by decide) ?_
      exact ih x0 (((x1 * 10) + v3) - 48) (x2 + 1) hf
    · refine g_iload_n X dX4_number_60 1 rfl ?_
      exact g_ireturn X (zP hf) (by decide) (by decide) dX4_number_61
def f_X4_number  (a0 : Option Nat) (h : AH) : Option Int32 :=
  (gI 4 8 h a0).bind fun v1 =>
  if v1 = 48 then
    (gI 4 10 h a0).bind fun v2 =>
    (gI 4 9 h a0).bind fun v3 =>
    if 4 < (v2 - v3) then
      some (-1)
    else
      (gI 4 9 h a0).bind fun v4 =>
      b_X4_number_31 h FU a0 0 v4
  else
    some (-1)
set_option maxRecDepth 20000 in
theorem m_X4_number  {a0 : Option Nat} {h : AH} {w : Int32} (hf : f_X4_number a0 h = some w) : CT yX4_number (wU yX4_number cX4_number 3 (some .int)) (rmD 1 0 0) 0 0 [tR a0] h (some (tI w), h) := by
  refine CT.of (cc := cX4_number) (nL := 3) (ret := (some .int)) (by decide) (by simp [lg_sl, vOf_cat, wOf]) ?_
  intro K X
  refine g_locs (lv' := [(0, tR a0)]) (fun q hq => hq) ?_
  unfold f_X4_number at hf
  refine g_aload_n X dX4_number_0 0 rfl ?_
  refine g_getI X hf (T := TX4) rfl (by decide) (by decide) in_RX4 tb_288 rfl dX4_number_1 (fun v1 hf => ?_)
  refine g_bipush (v := 48) X dX4_number_4 (by decide) ?_
  refine g_icmpne (tgt := 22) X hf dX4_number_6 (by decide) (fun hf => ?_) (fun hf => ?_)
  · refine g_aload_n X dX4_number_9 0 rfl ?_
    refine g_getI X hf (T := TX4) rfl (by decide) (by decide) in_RX4 tb_290 rfl dX4_number_10 (fun v2 hf => ?_)
    refine g_aload_n X dX4_number_13 0 rfl ?_
    refine g_getI X hf (T := TX4) rfl (by decide) (by decide) in_RX4 tb_289 rfl dX4_number_14 (fun v3 hf => ?_)
    refine g_isub X dX4_number_17 ?_
    refine g_iconst (v := 4) X dX4_number_18 (by decide) ?_
    refine g_icmple (tgt := 24) X hf dX4_number_19 (by decide) (fun hf => ?_) (fun hf => ?_)
    · refine g_iconst (v := (-1)) X dX4_number_22 (by decide) ?_
      exact g_ireturn X (zP hf) (by decide) (by decide) dX4_number_23
    · refine g_iconst (v := 0) X dX4_number_24 (by decide) ?_
      refine g_istore_n (lv' := [(0, tR a0), (1, tI 0)]) X dX4_number_25 (by decide) (in_pick [1, 0] rfl) ?_
      refine g_aload_n X dX4_number_26 0 rfl ?_
      refine g_getI X hf (T := TX4) rfl (by decide) (by decide) in_RX4 tb_289 rfl dX4_number_27 (fun v4 hf => ?_)
      refine g_istore_n (lv' := [(0, tR a0), (1, tI 0), (2, tI v4)]) X dX4_number_30 (by decide) (in_pick [1, 2, 0] rfl) ?_
      exact w_X4_number_31 X FU a0 0 v4 hf
  · refine g_iconst (v := (-1)) X dX4_number_22 (by decide) ?_
    exact g_ireturn X (zP hf) (by decide) (by decide) dX4_number_23
def f_X4_acceptYears  (a0 : Option Nat) (h : AH) : Option (Int32 × AH) :=
  (ck 4 h a0 (f_X4_number a0 h)).bind fun v1 =>
  if v1 < 0 then
    some (0, h)
  else
    if 50 < v1 then
      some (0, h)
    else
      (gR 4 2 h a0).bind fun v2 =>
      (pI 3 1 h v2 v1).bind fun h3 =>
      (pI 4 3 h3 a0 6).bind fun h4 =>
      some (1, h4)
set_option maxRecDepth 20000 in
theorem m_X4_acceptYears  {a0 : Option Nat} {h : AH} {w : (Int32 × AH)} (hf : f_X4_acceptYears a0 h = some w) : CT yX4_acceptYears (wU yX4_acceptYears cX4_acceptYears 2 (some .boolean)) (rmD 2 0 0) 0 0 [tR a0] h (some (tI w.1), w.2) := by
  refine CT.of (cc := cX4_acceptYears) (nL := 2) (ret := (some .boolean)) (by decide) (by simp [lg_sl, vOf_cat, wOf]) ?_
  intro K X
  refine g_locs (lv' := [(0, tR a0)]) (fun q hq => hq) ?_
  unfold f_X4_acceptYears at hf
  refine g_aload_n X dX4_acceptYears_0 0 rfl ?_
  refine g_callV (n := 0) (av := []) (rest := []) (k := 4) X hf (fun v1 => (some (tI v1), h)) (fun _ q => m_X4_number q) (gdV tb_731 tb_732 tb_1660 tb_9 tb_733) rfl (by decide +kernel) rfl (by decide) rfl (by decide) (by decide) rfl (Nat.le_of_ble_eq_true rfl) dX4_acceptYears_1 (fun v1 hf => ?_)
  refine g_istore_n (lv' := [(0, tR a0), (1, tI v1)]) X dX4_acceptYears_4 (by decide) (in_pick [1, 0] rfl) ?_
  refine g_iload_n X dX4_acceptYears_5 1 rfl ?_
  refine g_iflt (tgt := 15) X hf dX4_acceptYears_6 (by decide) (fun hf => ?_) (fun hf => ?_)
  · refine g_iconst (v := 0) X dX4_acceptYears_15 (by decide) ?_
    exact g_zreturn X (zW hf) (by decide) (by decide) (by decide) dX4_acceptYears_16
  · refine g_iload_n X dX4_acceptYears_9 1 rfl ?_
    refine g_bipush (v := 50) X dX4_acceptYears_10 (by decide) ?_
    refine g_icmple (tgt := 17) X hf dX4_acceptYears_12 (by decide) (fun hf => ?_) (fun hf => ?_)
    · refine g_iconst (v := 0) X dX4_acceptYears_15 (by decide) ?_
      exact g_zreturn X (zW hf) (by decide) (by decide) (by decide) dX4_acceptYears_16
    · refine g_aload_n X dX4_acceptYears_17 0 rfl ?_
      refine g_getR X hf (T := TX4) rfl (by decide) (by decide) in_RX4 tb_281 rfl dX4_acceptYears_18 (fun v2 hf => ?_)
      refine g_iload_n X dX4_acceptYears_21 1 rfl ?_
      refine g_putI X hf (T := TX3) rfl (by decide) (by decide) in_RX3 tyX3 tyX3_ok nmX3 tb_192 rfl rfl rfl dX4_acceptYears_22 (fun h3 hf => ?_)
      refine g_aload_n X dX4_acceptYears_25 0 rfl ?_
      refine g_bipush (v := 6) X dX4_acceptYears_26 (by decide) ?_
      refine g_putI X hf (T := TX4) rfl (by decide) (by decide) in_RX4 tyX4 tyX4_ok nmX4 tb_283 rfl rfl rfl dX4_acceptYears_28 (fun h4 hf => ?_)
      refine g_iconst (v := 1) X dX4_acceptYears_31 (by decide) ?_
      exact g_zreturn X (zW hf) (by decide) (by decide) (by decide) dX4_acceptYears_32
def f_X4_delay  (a0 : Option Nat) (a1 : Int32) (h : AH) : Option AH :=
  (gI 4 12 h a0).bind fun v1 =>
  (gR 4 11 h a0).bind fun v2 =>
  (aL h v2).bind fun v3 =>
  if v1 < v3 then
    (gR 4 11 h a0).bind fun v4 =>
    (gI 4 12 h a0).bind fun v5 =>
    (sI h v4 v5 a1).bind fun h6 =>
    (gI 4 12 h6 a0).bind fun v7 =>
    (pI 4 12 h6 a0 (v7 + 1)).bind fun h8 =>
    some h8
  else
    some h
set_option maxRecDepth 20000 in
theorem m_X4_delay  {a0 : Option Nat} {a1 : Int32} {h : AH} {w : AH} (hf : f_X4_delay a0 a1 h = some w) : CT yX4_delay (wU yX4_delay cX4_delay 2 none) (rmD 1 0 0) 0 0 [tR a0, tI a1] h (none, w) := by
  refine CT.of (cc := cX4_delay) (nL := 2) (ret := none) (by decide) (by simp [lg_sl, vOf_cat, wOf]) ?_
  intro K X
  refine g_locs (lv' := [(0, tR a0), (1, tI a1)]) (fun q hq => hq) ?_
  unfold f_X4_delay at hf
  refine g_aload_n X dX4_delay_0 0 rfl ?_
  refine g_getI X hf (T := TX4) rfl (by decide) (by decide) in_RX4 tb_292 rfl dX4_delay_1 (fun v1 hf => ?_)
  refine g_aload_n X dX4_delay_4 0 rfl ?_
  refine g_getR X hf (T := TX4) rfl (by decide) (by decide) in_RX4 tb_291 rfl dX4_delay_5 (fun v2 hf => ?_)
  refine g_alen X hf dX4_delay_8 (fun v3 hf => ?_)
  refine g_icmpge (tgt := 32) X hf dX4_delay_9 (by decide) (fun hf => ?_) (fun hf => ?_)
  · refine g_aload_n X dX4_delay_12 0 rfl ?_
    refine g_getR X hf (T := TX4) rfl (by decide) (by decide) in_RX4 tb_291 rfl dX4_delay_13 (fun v4 hf => ?_)
    refine g_aload_n X dX4_delay_16 0 rfl ?_
    refine g_getI X hf (T := TX4) rfl (by decide) (by decide) in_RX4 tb_292 rfl dX4_delay_17 (fun v5 hf => ?_)
    refine g_iload_n X dX4_delay_20 1 rfl ?_
    refine g_iastore X hf dX4_delay_21 (fun h6 hf => ?_)
    refine g_aload_n X dX4_delay_22 0 rfl ?_
    refine g_dup X dX4_delay_23 rfl ?_
    refine g_getI X hf (T := TX4) rfl (by decide) (by decide) in_RX4 tb_292 rfl dX4_delay_24 (fun v7 hf => ?_)
    refine g_iconst (v := 1) X dX4_delay_27 (by decide) ?_
    refine g_iadd X dX4_delay_28 ?_
    refine g_putI X hf (T := TX4) rfl (by decide) (by decide) in_RX4 tyX4 tyX4_ok nmX4 tb_292 rfl rfl rfl dX4_delay_29 (fun h8 hf => ?_)
    exact g_vreturn X (zV hf) (by decide) (by decide) dX4_delay_32
  · exact g_vreturn X (zV hf) (by decide) (by decide) dX4_delay_32
def f_X4_factsOfLine  (a0 : Option Nat) (h : AH) : Option (Option Nat) :=
  (gI 4 4 h a0).bind fun v1 =>
  if v1 < 0 ∨ 2 < v1 then
    some (some (h.2.2 (60 + 5)))
  else if v1 = 0 then
    some (some (h.2.2 (60 + 2)))
  else if v1 = 1 then
    some (some (h.2.2 (60 + 3)))
  else if v1 = 2 then
    some (some (h.2.2 (60 + 4)))
  else none
set_option maxRecDepth 20000 in
theorem m_X4_factsOfLine  {a0 : Option Nat} {h : AH} {w : (Option Nat)} (hf : f_X4_factsOfLine a0 h = some w) : CT yX4_factsOfLine (wU yX4_factsOfLine cX4_factsOfLine 1 (some (.object "java/lang/String"))) (rmD 1 0 0) 0 0 [tR a0] h (some (tR w), h) := by
  refine CT.of (cc := cX4_factsOfLine) (nL := 1) (ret := (some (.object "java/lang/String"))) (by decide) (by simp [lg_sl, vOf_cat, wOf]) ?_
  intro K X
  refine g_locs (lv' := [(0, tR a0)]) (fun q hq => hq) ?_
  unfold f_X4_factsOfLine at hf
  refine g_aload_n X dX4_factsOfLine_0 0 rfl ?_
  refine g_getI X hf (T := TX4) rfl (by decide) (by decide) in_RX4 tb_284 rfl dX4_factsOfLine_1 (fun v1 hf => ?_)
  by_cases hsw : v1 < 0 ∨ 2 < v1
  · rw [if_pos hsw] at hf
    refine g_tabOut (tgt := 41) X dX4_factsOfLine_4 (tab_out hsw) (by decide) ?_
    refine g_ldcS X 5 rfl dX4_factsOfLine_41 ?_
    exact g_areturn (Or.inl ⟨_, rfl⟩) X (zPR hf) (by decide) (by decide) dX4_factsOfLine_43
  rw [if_neg hsw] at hf
  by_cases hs0 : v1 = 0
  · rw [if_pos hs0] at hf
    refine g_tabIn (off := 28) (tgt := 32) X 0 hs0 dX4_factsOfLine_4 (by decide) (by decide) (by decide +kernel) (by decide) ?_
    refine g_ldcS X 2 rfl dX4_factsOfLine_32 ?_
    exact g_areturn (Or.inl ⟨_, rfl⟩) X (zPR hf) (by decide) (by decide) dX4_factsOfLine_34
  rw [if_neg hs0] at hf
  by_cases hs1 : v1 = 1
  · rw [if_pos hs1] at hf
    refine g_tabIn (off := 31) (tgt := 35) X 1 hs1 dX4_factsOfLine_4 (by decide) (by decide) (by decide +kernel) (by decide) ?_
    refine g_ldcS X 3 rfl dX4_factsOfLine_35 ?_
    exact g_areturn (Or.inl ⟨_, rfl⟩) X (zPR hf) (by decide) (by decide) dX4_factsOfLine_37
  rw [if_neg hs1] at hf
  by_cases hs2 : v1 = 2
  · rw [if_pos hs2] at hf
    refine g_tabIn (off := 34) (tgt := 38) X 2 hs2 dX4_factsOfLine_4 (by decide) (by decide) (by decide +kernel) (by decide) ?_
    refine g_ldcS X 4 rfl dX4_factsOfLine_38 ?_
    exact g_areturn (Or.inl ⟨_, rfl⟩) X (zPR hf) (by decide) (by decide) dX4_factsOfLine_40
  rw [if_neg hs2] at hf
  cases hf
def b_X4_acceptTerm_48   (x0 : Option Nat) (s0 : Option Nat) (s1 : Int32) (s2 : Int32) (h : AH) : Option (Int32 × AH) :=
  (ck 3 h s0 (f_X3_emit s0 s1 s2 h)).bind fun h1 =>
  (pI 4 3 h1 x0 4).bind fun h2 =>
  some (1, h2)
set_option maxRecDepth 20000 in
theorem w_X4_acceptTerm_48 {K : KT} {w : (Int32 × AH)}   (X : CX K cX4_acceptTerm RX4 TB (some .boolean) "acceptTerm" (rmD 7 0 0) 3 0 0)  (x0 : Option Nat) (s0 : Option Nat) (s1 : Int32) (s2 : Int32) (h : AH) (hf : b_X4_acceptTerm_48 x0 s0 s1 s2 h = some w) : GG K (some (tI w.1), w.2) 0 0 48 [(0, tR x0)] [tI s2, tI s1, tR s0] h := by
  unfold b_X4_acceptTerm_48 at hf
  refine g_callV (n := 2) (av := [tI s1, tI s2]) (rest := []) (k := 3) X hf (fun h1 => (none, h1)) (fun _ q => m_X3_emit q) (gdV tb_746 tb_747 tb_748 tb_8 tb_749) rfl (by decide +kernel) rfl (by decide) rfl (by decide) (by decide) rfl (Nat.le_of_ble_eq_true rfl) dX4_acceptTerm_48 (fun h1 hf => ?_)
  refine g_aload_n X dX4_acceptTerm_51 0 rfl ?_
  refine g_iconst (v := 4) X dX4_acceptTerm_52 (by decide) ?_
  refine g_putI X hf (T := TX4) rfl (by decide) (by decide) in_RX4 tyX4 tyX4_ok nmX4 tb_283 rfl rfl rfl dX4_acceptTerm_53 (fun h2 hf => ?_)
  refine g_iconst (v := 1) X dX4_acceptTerm_56 (by decide) ?_
  exact g_zreturn X (zW hf) (by decide) (by decide) (by decide) dX4_acceptTerm_57
def b_X4_acceptTerm_39   (x0 : Option Nat) (x1 : Int32) (x2 : Int32) (s0 : Option Nat) (s1 : Int32) (h : AH) : Option (Int32 × AH) :=
  if x1 < 0 then
    b_X4_acceptTerm_48 x0 s0 s1 x2 h
  else
    b_X4_acceptTerm_48 x0 s0 s1 x1 h
set_option maxRecDepth 20000 in
theorem w_X4_acceptTerm_39 {K : KT} {w : (Int32 × AH)}   (X : CX K cX4_acceptTerm RX4 TB (some .boolean) "acceptTerm" (rmD 7 0 0) 3 0 0)  (x0 : Option Nat) (x1 : Int32) (x2 : Int32) (s0 : Option Nat) (s1 : Int32) (h : AH) (hf : b_X4_acceptTerm_39 x0 x1 x2 s0 s1 h = some w) : GG K (some (tI w.1), w.2) 0 0 39 [(0, tR x0), (1, tI x1), (2, tI x2)] [tI s1, tR s0] h := by
  unfold b_X4_acceptTerm_39 at hf
  refine g_iload_n X dX4_acceptTerm_39 1 rfl ?_
  refine g_ifge (tgt := 47) X hf dX4_acceptTerm_40 (by decide) (fun hf => ?_) (fun hf => ?_)
  · refine g_iload_n X dX4_acceptTerm_43 2 rfl ?_
    refine g_goto (tgt := 48) X dX4_acceptTerm_44 (by decide) ?_
    refine g_locs (lv' := [(0, tR x0)]) (in_pick [0] rfl) ?_
    exact w_X4_acceptTerm_48 X x0 s0 s1 x2 h hf
  · refine g_iload_n X dX4_acceptTerm_47 1 rfl ?_
    refine g_locs (lv' := [(0, tR x0)]) (in_pick [0] rfl) ?_
    exact w_X4_acceptTerm_48 X x0 s0 s1 x1 h hf
def b_X4_acceptTerm_24   (x0 : Option Nat) (x1 : Int32) (x2 : Int32) (h : AH) : Option (Int32 × AH) :=
  (gR 4 2 h x0).bind fun v1 =>
  if x1 < 0 then
    b_X4_acceptTerm_39 x0 x1 x2 v1 25 h
  else
    b_X4_acceptTerm_39 x0 x1 x2 v1 24 h
set_option maxRecDepth 20000 in
theorem w_X4_acceptTerm_24 {K : KT} {w : (Int32 × AH)}   (X : CX K cX4_acceptTerm RX4 TB (some .boolean) "acceptTerm" (rmD 7 0 0) 3 0 0)  (x0 : Option Nat) (x1 : Int32) (x2 : Int32) (h : AH) (hf : b_X4_acceptTerm_24 x0 x1 x2 h = some w) : GG K (some (tI w.1), w.2) 0 0 24 [(0, tR x0), (1, tI x1), (2, tI x2)] [] h := by
  unfold b_X4_acceptTerm_24 at hf
  refine g_aload_n X dX4_acceptTerm_24 0 rfl ?_
  refine g_getR X hf (T := TX4) rfl (by decide) (by decide) in_RX4 tb_281 rfl dX4_acceptTerm_25 (fun v1 hf => ?_)
  refine g_iload_n X dX4_acceptTerm_28 1 rfl ?_
  refine g_ifge (tgt := 37) X hf dX4_acceptTerm_29 (by decide) (fun hf => ?_) (fun hf => ?_)
  · refine g_bipush (v := 25) X dX4_acceptTerm_32 (by decide) ?_
    refine g_goto (tgt := 39) X dX4_acceptTerm_34 (by decide) ?_
    exact w_X4_acceptTerm_39 X x0 x1 x2 v1 25 h hf
  · refine g_bipush (v := 24) X dX4_acceptTerm_37 (by decide) ?_
    exact w_X4_acceptTerm_39 X x0 x1 x2 v1 24 h hf
def f_X4_acceptTerm  (a0 : Option Nat) (h : AH) : Option (Int32 × AH) :=
  (ck 4 h a0 (f_X4_number a0 h)).bind fun v1 =>
  (ck 4 h a0 (f_X4_factsOfLine a0 h)).bind fun v2 =>
  (ck 4 h a0 (f_X4_among a0 v2 h)).bind fun v3 =>
  if v1 < 0 then
    if v3 < 0 then
      some (0, h)
    else
      b_X4_acceptTerm_24 a0 v1 v3 h
  else
    b_X4_acceptTerm_24 a0 v1 v3 h
set_option maxRecDepth 20000 in
theorem m_X4_acceptTerm  {a0 : Option Nat} {h : AH} {w : (Int32 × AH)} (hf : f_X4_acceptTerm a0 h = some w) : CT yX4_acceptTerm (wU yX4_acceptTerm cX4_acceptTerm 3 (some .boolean)) (rmD 7 0 0) 0 0 [tR a0] h (some (tI w.1), w.2) := by
  refine CT.of (cc := cX4_acceptTerm) (nL := 3) (ret := (some .boolean)) (by decide) (by simp [lg_sl, vOf_cat, wOf]) ?_
  intro K X
  refine g_locs (lv' := [(0, tR a0)]) (fun q hq => hq) ?_
  unfold f_X4_acceptTerm at hf
  refine g_aload_n X dX4_acceptTerm_0 0 rfl ?_
  refine g_callV (n := 0) (av := []) (rest := []) (k := 4) X hf (fun v1 => (some (tI v1), h)) (fun _ q => m_X4_number q) (gdV tb_731 tb_732 tb_1660 tb_9 tb_733) rfl (by decide +kernel) rfl (by decide) rfl (by decide) (by decide) rfl (Nat.le_of_ble_eq_true rfl) dX4_acceptTerm_1 (fun v1 hf => ?_)
  refine g_istore_n (lv' := [(0, tR a0), (1, tI v1)]) X dX4_acceptTerm_4 (by decide) (in_pick [1, 0] rfl) ?_
  refine g_aload_n X dX4_acceptTerm_5 0 rfl ?_
  refine g_aload_n X dX4_acceptTerm_6 0 rfl ?_
  refine g_callV (n := 0) (av := []) (rest := [tR a0]) (k := 4) X hf (fun v2 => (some (tR v2), h)) (fun _ q => m_X4_factsOfLine q) (gdV tb_743 tb_744 tb_1664 tb_9 tb_745) rfl (by decide +kernel) rfl (by decide) rfl (by decide) (by decide) rfl (Nat.le_of_ble_eq_true rfl) dX4_acceptTerm_7 (fun v2 hf => ?_)
  refine g_callV (n := 1) (av := [tR v2]) (rest := []) (k := 4) X hf (fun v3 => (some (tI v3), h)) (fun _ q => m_X4_among q) (gdV tb_679 tb_680 tb_1657 tb_9 tb_681) rfl (by decide +kernel) rfl (by decide) rfl (by decide) (by decide) rfl (Nat.le_of_ble_eq_true rfl) dX4_acceptTerm_10 (fun v3 hf => ?_)
  refine g_istore_n (lv' := [(0, tR a0), (1, tI v1), (2, tI v3)]) X dX4_acceptTerm_13 (by decide) (in_pick [1, 2, 0] rfl) ?_
  refine g_iload_n X dX4_acceptTerm_14 1 rfl ?_
  refine g_ifge (tgt := 24) X hf dX4_acceptTerm_15 (by decide) (fun hf => ?_) (fun hf => ?_)
  · refine g_iload_n X dX4_acceptTerm_18 2 rfl ?_
    refine g_ifge (tgt := 24) X hf dX4_acceptTerm_19 (by decide) (fun hf => ?_) (fun hf => ?_)
    · refine g_iconst (v := 0) X dX4_acceptTerm_22 (by decide) ?_
      exact g_zreturn X (zW hf) (by decide) (by decide) (by decide) dX4_acceptTerm_23
    · exact w_X4_acceptTerm_24 X a0 v1 v3 h hf
  · exact w_X4_acceptTerm_24 X a0 v1 v3 h hf
def f_X4_acceptOne  (a0 : Option Nat) (h : AH) : Option (Int32 × AH) :=
  (ck 4 h a0 (f_X4_among a0 (some (h.2.2 (60 + 1))) h)).bind fun v1 =>
  if v1 = 0 then
    (ck 4 h a0 (f_X4_delay a0 12 h)).bind fun h2 =>
    some (1, h2)
  else
    (gI 4 8 h a0).bind fun v3 =>
    if v3 = 40 then
      (gI 4 6 h a0).bind fun v4 =>
      (pI 4 6 h a0 (v4 + 1)).bind fun h5 =>
      (ck 4 h5 a0 (f_X4_delay a0 0 h5)).bind fun h6 =>
      (gI 4 6 h6 a0).bind fun v7 =>
      if 5 < v7 then
        some (0, h6)
      else
        some (1, h6)
    else
      (pZ 4 7 h a0 0).bind fun h8 =>
      (ck 4 h8 a0 (f_X4_acceptTerm a0 h8)).bind fun p9 =>
      (rZ p9.1).bind fun vz => some (vz, p9.2)
set_option maxRecDepth 20000 in
theorem m_X4_acceptOne  {a0 : Option Nat} {h : AH} {w : (Int32 × AH)} (hf : f_X4_acceptOne a0 h = some w) : CT yX4_acceptOne (wU yX4_acceptOne cX4_acceptOne 1 (some .boolean)) (rmD 8 0 0) 0 0 [tR a0] h (some (tI w.1), w.2) := by
  refine CT.of (cc := cX4_acceptOne) (nL := 1) (ret := (some .boolean)) (by decide) (by simp [lg_sl, vOf_cat, wOf]) ?_
  intro K X
  refine g_locs (lv' := [(0, tR a0)]) (fun q hq => hq) ?_
  unfold f_X4_acceptOne at hf
  refine g_aload_n X dX4_acceptOne_0 0 rfl ?_
  refine g_ldcS X 1 rfl dX4_acceptOne_1 ?_
  refine g_callV (n := 1) (av := [tR (some (h.2.2 (60 + 1)))]) (rest := []) (k := 4) X hf (fun v1 => (some (tI v1), h)) (fun _ q => m_X4_among q) (gdV tb_679 tb_680 tb_1657 tb_9 tb_681) rfl (by decide +kernel) rfl (by decide) rfl (by decide) (by decide) rfl (Nat.le_of_ble_eq_true rfl) dX4_acceptOne_3 (fun v1 hf => ?_)
  refine g_ifne (tgt := 17) X hf dX4_acceptOne_6 (by decide) (fun hf => ?_) (fun hf => ?_)
  · refine g_aload_n X dX4_acceptOne_9 0 rfl ?_
    refine g_bipush (v := 12) X dX4_acceptOne_10 (by decide) ?_
    refine g_callV (n := 1) (av := [tI 12]) (rest := []) (k := 4) X hf (fun h2 => (none, h2)) (fun _ q => m_X4_delay q) (gdV tb_737 tb_738 tb_1662 tb_9 tb_739) rfl (by decide +kernel) rfl (by decide) rfl (by decide) (by decide) rfl (Nat.le_of_ble_eq_true rfl) dX4_acceptOne_12 (fun h2 hf => ?_)
    refine g_iconst (v := 1) X dX4_acceptOne_15 (by decide) ?_
    exact g_zreturn X (zW hf) (by decide) (by decide) (by decide) dX4_acceptOne_16
  · refine g_aload_n X dX4_acceptOne_17 0 rfl ?_
    refine g_getI X hf (T := TX4) rfl (by decide) (by decide) in_RX4 tb_288 rfl dX4_acceptOne_18 (fun v3 hf => ?_)
    refine g_bipush (v := 40) X dX4_acceptOne_21 (by decide) ?_
    refine g_icmpne (tgt := 55) X hf dX4_acceptOne_23 (by decide) (fun hf => ?_) (fun hf => ?_)
    · refine g_aload_n X dX4_acceptOne_26 0 rfl ?_
      refine g_dup X dX4_acceptOne_27 rfl ?_
      refine g_getI X hf (T := TX4) rfl (by decide) (by decide) in_RX4 tb_286 rfl dX4_acceptOne_28 (fun v4 hf => ?_)
      refine g_iconst (v := 1) X dX4_acceptOne_31 (by decide) ?_
      refine g_iadd X dX4_acceptOne_32 ?_
      refine g_putI X hf (T := TX4) rfl (by decide) (by decide) in_RX4 tyX4 tyX4_ok nmX4 tb_286 rfl rfl rfl dX4_acceptOne_33 (fun h5 hf => ?_)
      refine g_aload_n X dX4_acceptOne_36 0 rfl ?_
      refine g_iconst (v := 0) X dX4_acceptOne_37 (by decide) ?_
      refine g_callV (n := 1) (av := [tI 0]) (rest := []) (k := 4) X hf (fun h6 => (none, h6)) (fun _ q => m_X4_delay q) (gdV tb_737 tb_738 tb_1662 tb_9 tb_739) rfl (by decide +kernel) rfl (by decide) rfl (by decide) (by decide) rfl (Nat.le_of_ble_eq_true rfl) dX4_acceptOne_38 (fun h6 hf => ?_)
      refine g_aload_n X dX4_acceptOne_41 0 rfl ?_
      refine g_getI X hf (T := TX4) rfl (by decide) (by decide) in_RX4 tb_286 rfl dX4_acceptOne_42 (fun v7 hf => ?_)
      refine g_iconst (v := 5) X dX4_acceptOne_45 (by decide) ?_
      refine g_icmpgt (tgt := 53) X hf dX4_acceptOne_46 (by decide) (fun hf => ?_) (fun hf => ?_)
      · refine g_iconst (v := 0) X dX4_acceptOne_53 (by decide) ?_
        exact g_zreturn X (zW hf) (by decide) (by decide) (by decide) dX4_acceptOne_54
      · refine g_iconst (v := 1) X dX4_acceptOne_49 (by decide) ?_
        refine g_goto (tgt := 54) X dX4_acceptOne_50 (by decide) ?_
        exact g_zreturn X (zW hf) (by decide) (by decide) (by decide) dX4_acceptOne_54
    · refine g_aload_n X dX4_acceptOne_55 0 rfl ?_
      refine g_iconst (v := 0) X dX4_acceptOne_56 (by decide) ?_
      refine g_putZ X hf (T := TX4) rfl (by decide) (by decide) in_RX4 tyX4 tyX4_ok nmX4 tb_287 rfl rfl rfl dX4_acceptOne_57 (fun h8 hf => ?_)
      refine g_aload_n X dX4_acceptOne_60 0 rfl ?_
      refine g_callV (n := 0) (av := []) (rest := []) (k := 4) X hf (fun p9 => (some (tI p9.1), p9.2)) (fun _ q => m_X4_acceptTerm q) (gdV tb_740 tb_741 tb_1663 tb_9 tb_742) rfl (by decide +kernel) rfl (by decide) rfl (by decide) (by decide) rfl (Nat.le_of_ble_eq_true rfl) dX4_acceptOne_61 (fun p9 hf => ?_)
      obtain ⟨vz, hz1, hz2⟩ := Option.bind_eq_some_iff.mp hf
      cases hz2
      exact g_zreturn2 X hz1 (by decide) (by decide) dX4_acceptOne_64
def b_X4_settle_0    : Nat → Option Nat → Int32 → AH → Option AH
  | 0 => fun _ _ _ => none
  | n + 1 => fun x0 x1 h =>
    (gI 4 12 h x0).bind fun v1 =>
    if 0 < v1 then
      (gR 4 11 h x0).bind fun v2 =>
      (gI 4 12 h x0).bind fun v3 =>
      (aI h v2 (v3 - 1)).bind fun v4 =>
      if (v4 >>> (2 &&& 31)) < (x1 >>> (2 &&& 31)) then
        some h
      else
        (gI 4 12 h x0).bind fun v5 =>
        (pI 4 12 h x0 (v5 - 1)).bind fun h6 =>
        (gR 4 2 h6 x0).bind fun v7 =>
        (gR 4 11 h6 x0).bind fun v8 =>
        (gI 4 12 h6 x0).bind fun v9 =>
        (aI h6 v8 v9).bind fun v10 =>
        (ck 3 h6 v7 (f_X3_emit v7 v10 0 h6)).bind fun h11 =>
        b_X4_settle_0 n x0 x1 h11
    else
      some h
set_option maxRecDepth 20000 in
theorem w_X4_settle_0 {K : KT} {w : AH}   (X : CX K cX4_settle RX4 TB none "settle" (rmD 2 0 0) 2 0 0)  : ∀ (n : Nat) (x0 : Option Nat) (x1 : Int32) (h : AH), b_X4_settle_0 n x0 x1 h = some w → GG K (none, w) 0 0 0 [(0, tR x0), (1, tI x1)] [] h := by
  intro n
  induction n with
  | zero =>
    intro x0 x1 h hf
    cases (show none = some w from hf)
  | succ n ih =>
    intro x0 x1 h hf
    rw [b_X4_settle_0] at hf
    refine g_aload_n X dX4_settle_0 0 rfl ?_
    refine g_getI X hf (T := TX4) rfl (by decide) (by decide) in_RX4 tb_292 rfl dX4_settle_1 (fun v1 hf => ?_)
    refine g_ifle (tgt := 56) X hf dX4_settle_4 (by decide) (fun hf => ?_) (fun hf => ?_)
    · refine g_aload_n X dX4_settle_7 0 rfl ?_
      refine g_getR X hf (T := TX4) rfl (by decide) (by decide) in_RX4 tb_291 rfl dX4_settle_8 (fun v2 hf => ?_)
      refine g_aload_n X dX4_settle_11 0 rfl ?_
      refine g_getI X hf (T := TX4) rfl (by decide) (by decide) in_RX4 tb_292 rfl dX4_settle_12 (fun v3 hf => ?_)
      refine g_iconst (v := 1) X dX4_settle_15 (by decide) ?_
      refine g_isub X dX4_settle_16 ?_
      refine g_iaload X hf dX4_settle_17 (fun v4 hf => ?_)
      refine g_iconst (v := 2) X dX4_settle_18 (by decide) ?_
      refine g_ishr X dX4_settle_19 ?_
      refine g_iload_n X dX4_settle_20 1 rfl ?_
      refine g_iconst (v := 2) X dX4_settle_21 (by decide) ?_
      refine g_ishr X dX4_settle_22 ?_
      refine g_icmplt (tgt := 56) X hf dX4_settle_23 (by decide) (fun hf => ?_) (fun hf => ?_)
      · exact g_vreturn X (zV hf) (by decide) (by decide) dX4_settle_56
      · refine g_aload_n X dX4_settle_26 0 rfl ?_
        refine g_dup X dX4_settle_27 rfl ?_
        refine g_getI X hf (T := TX4) rfl (by decide) (by decide) in_RX4 tb_292 rfl dX4_settle_28 (fun v5 hf => ?_)
        refine g_iconst (v := 1) X dX4_settle_31 (by decide) ?_
        refine g_isub X dX4_settle_32 ?_
        refine g_putI X hf (T := TX4) rfl (by decide) (by decide) in_RX4 tyX4 tyX4_ok nmX4 tb_292 rfl rfl rfl dX4_settle_33 (fun h6 hf => ?_)
        refine g_aload_n X dX4_settle_36 0 rfl ?_
        refine g_getR X hf (T := TX4) rfl (by decide) (by decide) in_RX4 tb_281 rfl dX4_settle_37 (fun v7 hf => ?_)
        refine g_aload_n X dX4_settle_40 0 rfl ?_
        refine g_getR X hf (T := TX4) rfl (by decide) (by decide) in_RX4 tb_291 rfl dX4_settle_41 (fun v8 hf => ?_)
        refine g_aload_n X dX4_settle_44 0 rfl ?_
        refine g_getI X hf (T := TX4) rfl (by decide) (by decide) in_RX4 tb_292 rfl dX4_settle_45 (fun v9 hf => ?_)
        refine g_iaload X hf dX4_settle_48 (fun v10 hf => ?_)
        refine g_iconst (v := 0) X dX4_settle_49 (by decide) ?_
        refine g_callV (n := 2) (av := [tI v10, tI 0]) (rest := []) (k := 3) X hf (fun h11 => (none, h11)) (fun _ q => m_X3_emit q) (gdV tb_746 tb_747 tb_748 tb_8 tb_749) rfl (by decide +kernel) rfl (by decide) rfl (by decide) (by decide) rfl (Nat.le_of_ble_eq_true rfl) dX4_settle_50 (fun h11 hf => ?_)
        refine g_goto (tgt := 0) X dX4_settle_53 (by decide) ?_
        exact ih x0 x1 h11 hf
    · exact g_vreturn X (zV hf) (by decide) (by decide) dX4_settle_56
def f_X4_settle  (a0 : Option Nat) (a1 : Int32) (h : AH) : Option AH :=
  b_X4_settle_0 FU a0 a1 h
set_option maxRecDepth 20000 in
theorem m_X4_settle  {a0 : Option Nat} {a1 : Int32} {h : AH} {w : AH} (hf : f_X4_settle a0 a1 h = some w) : CT yX4_settle (wU yX4_settle cX4_settle 2 none) (rmD 2 0 0) 0 0 [tR a0, tI a1] h (none, w) := by
  refine CT.of (cc := cX4_settle) (nL := 2) (ret := none) (by decide) (by simp [lg_sl, vOf_cat, wOf]) ?_
  intro K X
  refine g_locs (lv' := [(0, tR a0), (1, tI a1)]) (fun q hq => hq) ?_
  unfold f_X4_settle at hf
  exact w_X4_settle_0 X FU a0 a1 h hf
def b_X4_acceptLineEnd_43   (x0 : Option Nat) (h : AH) : Option (Int32 × AH) :=
  (pI 4 3 h x0 0).bind fun h1 =>
  some (1, h1)
set_option maxRecDepth 20000 in
theorem w_X4_acceptLineEnd_43 {K : KT} {w : (Int32 × AH)}   (X : CX K cX4_acceptLineEnd RX4 TB (some .boolean) "acceptLineEnd" (rmD 3 0 0) 1 0 0)  (x0 : Option Nat) (h : AH) (hf : b_X4_acceptLineEnd_43 x0 h = some w) : GG K (some (tI w.1), w.2) 0 0 43 [(0, tR x0)] [] h := by
  unfold b_X4_acceptLineEnd_43 at hf
  refine g_aload_n X dX4_acceptLineEnd_43 0 rfl ?_
  refine g_iconst (v := 0) X dX4_acceptLineEnd_44 (by decide) ?_
  refine g_putI X hf (T := TX4) rfl (by decide) (by decide) in_RX4 tyX4 tyX4_ok nmX4 tb_283 rfl rfl rfl dX4_acceptLineEnd_45 (fun h1 hf => ?_)
  refine g_iconst (v := 1) X dX4_acceptLineEnd_48 (by decide) ?_
  exact g_zreturn X (zW hf) (by decide) (by decide) (by decide) dX4_acceptLineEnd_49
def f_X4_acceptLineEnd  (a0 : Option Nat) (h : AH) : Option (Int32 × AH) :=
  (gI 4 8 h a0).bind fun v1 =>
  if v1 = 59 then
    (ck 4 h a0 (f_X4_settle a0 4 h)).bind fun h2 =>
    (gI 4 4 h2 a0).bind fun v3 =>
    if v3 < 4 then
      (gR 4 2 h2 a0).bind fun v4 =>
      (gR 3 5 h2 v4).bind fun v5 =>
      (gI 4 4 h2 a0).bind fun v6 =>
      (gR 4 2 h2 a0).bind fun v7 =>
      (gI 3 3 h2 v7).bind fun v8 =>
      (sI h2 v5 v6 v8).bind fun h9 =>
      b_X4_acceptLineEnd_43 a0 h9
    else
      b_X4_acceptLineEnd_43 a0 h2
  else
    some (0, h)
set_option maxRecDepth 20000 in
theorem m_X4_acceptLineEnd  {a0 : Option Nat} {h : AH} {w : (Int32 × AH)} (hf : f_X4_acceptLineEnd a0 h = some w) : CT yX4_acceptLineEnd (wU yX4_acceptLineEnd cX4_acceptLineEnd 1 (some .boolean)) (rmD 3 0 0) 0 0 [tR a0] h (some (tI w.1), w.2) := by
  refine CT.of (cc := cX4_acceptLineEnd) (nL := 1) (ret := (some .boolean)) (by decide) (by simp [lg_sl, vOf_cat, wOf]) ?_
  intro K X
  refine g_locs (lv' := [(0, tR a0)]) (fun q hq => hq) ?_
  unfold f_X4_acceptLineEnd at hf
  refine g_aload_n X dX4_acceptLineEnd_0 0 rfl ?_
  refine g_getI X hf (T := TX4) rfl (by decide) (by decide) in_RX4 tb_288 rfl dX4_acceptLineEnd_1 (fun v1 hf => ?_)
  refine g_bipush (v := 59) X dX4_acceptLineEnd_4 (by decide) ?_
  refine g_icmpeq (tgt := 11) X hf dX4_acceptLineEnd_6 (by decide) (fun hf => ?_) (fun hf => ?_)
  · refine g_aload_n X dX4_acceptLineEnd_11 0 rfl ?_
    refine g_iconst (v := 4) X dX4_acceptLineEnd_12 (by decide) ?_
    refine g_callV (n := 1) (av := [tI 4]) (rest := []) (k := 4) X hf (fun h2 => (none, h2)) (fun _ q => m_X4_settle q) (gdV tb_753 tb_754 tb_1666 tb_9 tb_755) rfl (by decide +kernel) rfl (by decide) rfl (by decide) (by decide) rfl (Nat.le_of_ble_eq_true rfl) dX4_acceptLineEnd_13 (fun h2 hf => ?_)
    refine g_aload_n X dX4_acceptLineEnd_16 0 rfl ?_
    refine g_getI X hf (T := TX4) rfl (by decide) (by decide) in_RX4 tb_284 rfl dX4_acceptLineEnd_17 (fun v3 hf => ?_)
    refine g_iconst (v := 4) X dX4_acceptLineEnd_20 (by decide) ?_
    refine g_icmpge (tgt := 43) X hf dX4_acceptLineEnd_21 (by decide) (fun hf => ?_) (fun hf => ?_)
    · refine g_aload_n X dX4_acceptLineEnd_24 0 rfl ?_
      refine g_getR X hf (T := TX4) rfl (by decide) (by decide) in_RX4 tb_281 rfl dX4_acceptLineEnd_25 (fun v4 hf => ?_)
      refine g_getR X hf (T := TX3) rfl (by decide) (by decide) in_RX3 tb_200 rfl dX4_acceptLineEnd_28 (fun v5 hf => ?_)
      refine g_aload_n X dX4_acceptLineEnd_31 0 rfl ?_
      refine g_getI X hf (T := TX4) rfl (by decide) (by decide) in_RX4 tb_284 rfl dX4_acceptLineEnd_32 (fun v6 hf => ?_)
      refine g_aload_n X dX4_acceptLineEnd_35 0 rfl ?_
      refine g_getR X hf (T := TX4) rfl (by decide) (by decide) in_RX4 tb_281 rfl dX4_acceptLineEnd_36 (fun v7 hf => ?_)
      refine g_getI X hf (T := TX3) rfl (by decide) (by decide) in_RX3 tb_196 rfl dX4_acceptLineEnd_39 (fun v8 hf => ?_)
      refine g_iastore X hf dX4_acceptLineEnd_42 (fun h9 hf => ?_)
      exact w_X4_acceptLineEnd_43 X a0 h9 hf
    · exact w_X4_acceptLineEnd_43 X a0 h2 hf
  · refine g_iconst (v := 0) X dX4_acceptLineEnd_9 (by decide) ?_
    exact g_zreturn X (zW hf) (by decide) (by decide) (by decide) dX4_acceptLineEnd_10
def b_X4_acceptBehindOne_91   (x0 : Option Nat) (h : AH) : Option (Int32 × AH) :=
  (gI 4 6 h x0).bind fun v1 =>
  if v1 = 0 then
    (ck 4 h x0 (f_X4_acceptLineEnd x0 h)).bind fun p2 =>
    if p2.1 = 0 then
      some (0, p2.2)
    else
      some (1, p2.2)
  else
    some (0, h)
set_option maxRecDepth 20000 in
theorem w_X4_acceptBehindOne_91 {K : KT} {w : (Int32 × AH)}   (X : CX K cX4_acceptBehindOne RX4 TB (some .boolean) "acceptBehindOne" (rmD 7 0 0) 3 0 0)  (x0 : Option Nat) (h : AH) (hf : b_X4_acceptBehindOne_91 x0 h = some w) : GG K (some (tI w.1), w.2) 0 0 91 [(0, tR x0)] [] h := by
  unfold b_X4_acceptBehindOne_91 at hf
  refine g_aload_n X dX4_acceptBehindOne_91 0 rfl ?_
  refine g_getI X hf (T := TX4) rfl (by decide) (by decide) in_RX4 tb_286 rfl dX4_acceptBehindOne_92 (fun v1 hf => ?_)
  refine g_ifne (tgt := 109) X hf dX4_acceptBehindOne_95 (by decide) (fun hf => ?_) (fun hf => ?_)
  · refine g_aload_n X dX4_acceptBehindOne_98 0 rfl ?_
    refine g_callV (n := 0) (av := []) (rest := []) (k := 4) X hf (fun p2 => (some (tI p2.1), p2.2)) (fun _ q => m_X4_acceptLineEnd q) (gdV tb_760 tb_761 tb_1668 tb_9 tb_762) rfl (by decide +kernel) rfl (by decide) rfl (by decide) (by decide) rfl (Nat.le_of_ble_eq_true rfl) dX4_acceptBehindOne_99 (fun p2 hf => ?_)
    refine g_ifeq (tgt := 109) X hf dX4_acceptBehindOne_102 (by decide) (fun hf => ?_) (fun hf => ?_)
    · refine g_iconst (v := 0) X dX4_acceptBehindOne_109 (by decide) ?_
      exact g_zreturn X (zW hf) (by decide) (by decide) (by decide) dX4_acceptBehindOne_110
    · refine g_iconst (v := 1) X dX4_acceptBehindOne_105 (by decide) ?_
      refine g_goto (tgt := 110) X dX4_acceptBehindOne_106 (by decide) ?_
      exact g_zreturn X (zW hf) (by decide) (by decide) (by decide) dX4_acceptBehindOne_110
  · refine g_iconst (v := 0) X dX4_acceptBehindOne_109 (by decide) ?_
    exact g_zreturn X (zW hf) (by decide) (by decide) (by decide) dX4_acceptBehindOne_110
def b_X4_acceptBehindOne_21   (x0 : Option Nat) (s0 : Int32) (h : AH) : Option (Int32 × AH) :=
  (ck 4 h x0 (f_X4_settle x0 s0 h)).bind fun h1 =>
  (ck 4 h1 x0 (f_X4_delay x0 s0 h1)).bind fun h2 =>
  (pI 4 3 h2 x0 2).bind fun h3 =>
  some (1, h3)
set_option maxRecDepth 20000 in
theorem w_X4_acceptBehindOne_21 {K : KT} {w : (Int32 × AH)}   (X : CX K cX4_acceptBehindOne RX4 TB (some .boolean) "acceptBehindOne" (rmD 7 0 0) 3 0 0)  (x0 : Option Nat) (s0 : Int32) (h : AH) (hf : b_X4_acceptBehindOne_21 x0 s0 h = some w) : GG K (some (tI w.1), w.2) 0 0 21 [(0, tR x0)] [tI s0] h := by
  unfold b_X4_acceptBehindOne_21 at hf
  refine g_istore_n (lv' := [(0, tR x0), (2, tI s0)]) X dX4_acceptBehindOne_21 (by decide) (in_pick [1, 0] rfl) ?_
  refine g_aload_n X dX4_acceptBehindOne_22 0 rfl ?_
  refine g_iload_n X dX4_acceptBehindOne_23 1 rfl ?_
  refine g_callV (n := 1) (av := [tI s0]) (rest := []) (k := 4) X hf (fun h1 => (none, h1)) (fun _ q => m_X4_settle q) (gdV tb_753 tb_754 tb_1666 tb_9 tb_755) rfl (by decide +kernel) rfl (by decide) rfl (by decide) (by decide) rfl (Nat.le_of_ble_eq_true rfl) dX4_acceptBehindOne_24 (fun h1 hf => ?_)
  refine g_aload_n X dX4_acceptBehindOne_27 0 rfl ?_
  refine g_iload_n X dX4_acceptBehindOne_28 1 rfl ?_
  refine g_callV (n := 1) (av := [tI s0]) (rest := []) (k := 4) X hf (fun h2 => (none, h2)) (fun _ q => m_X4_delay q) (gdV tb_737 tb_738 tb_1662 tb_9 tb_739) rfl (by decide +kernel) rfl (by decide) rfl (by decide) (by decide) rfl (Nat.le_of_ble_eq_true rfl) dX4_acceptBehindOne_29 (fun h2 hf => ?_)
  refine g_aload_n X dX4_acceptBehindOne_32 0 rfl ?_
  refine g_iconst (v := 2) X dX4_acceptBehindOne_33 (by decide) ?_
  refine g_putI X hf (T := TX4) rfl (by decide) (by decide) in_RX4 tyX4 tyX4_ok nmX4 tb_283 rfl rfl rfl dX4_acceptBehindOne_34 (fun h3 hf => ?_)
  refine g_iconst (v := 1) X dX4_acceptBehindOne_37 (by decide) ?_
  exact g_zreturn X (zW hf) (by decide) (by decide) (by decide) dX4_acceptBehindOne_38
def f_X4_acceptBehindOne  (a0 : Option Nat) (h : AH) : Option (Int32 × AH) :=
  (ck 4 h a0 (f_X4_among a0 (some (h.2.2 (60 + 6))) h)).bind fun v1 =>
  if v1 < 0 then
    (gI 4 8 h a0).bind fun v2 =>
    if v2 = 41 then
      (gI 4 6 h a0).bind fun v3 =>
      if 0 < v3 then
        (ck 4 h a0 (f_X4_settle a0 4 h)).bind fun h4 =>
        (gI 4 12 h4 a0).bind fun v5 =>
        (pI 4 12 h4 a0 (mMax 0 (v5 - 1))).bind fun h6 =>
        (gI 4 6 h6 a0).bind fun v7 =>
        (pI 4 6 h6 a0 (v7 - 1)).bind fun h8 =>
        (pI 4 3 h8 a0 5).bind fun h9 =>
        some (1, h9)
      else
        b_X4_acceptBehindOne_91 a0 h
    else
      b_X4_acceptBehindOne_91 a0 h
  else
    if v1 = 0 then
      b_X4_acceptBehindOne_21 a0 8 h
    else
      b_X4_acceptBehindOne_21 a0 4 h
set_option maxRecDepth 20000 in
theorem m_X4_acceptBehindOne  {a0 : Option Nat} {h : AH} {w : (Int32 × AH)} (hf : f_X4_acceptBehindOne a0 h = some w) : CT yX4_acceptBehindOne (wU yX4_acceptBehindOne cX4_acceptBehindOne 3 (some .boolean)) (rmD 7 0 0) 0 0 [tR a0] h (some (tI w.1), w.2) := by
  refine CT.of (cc := cX4_acceptBehindOne) (nL := 3) (ret := (some .boolean)) (by decide) (by simp [lg_sl, vOf_cat, wOf]) ?_
  intro K X
  refine g_locs (lv' := [(0, tR a0)]) (fun q hq => hq) ?_
  unfold f_X4_acceptBehindOne at hf
  refine g_aload_n X dX4_acceptBehindOne_0 0 rfl ?_
  refine g_ldcS X 6 rfl dX4_acceptBehindOne_1 ?_
  refine g_callV (n := 1) (av := [tR (some (h.2.2 (60 + 6)))]) (rest := []) (k := 4) X hf (fun v1 => (some (tI v1), h)) (fun _ q => m_X4_among q) (gdV tb_679 tb_680 tb_1657 tb_9 tb_681) rfl (by decide +kernel) rfl (by decide) rfl (by decide) (by decide) rfl (Nat.le_of_ble_eq_true rfl) dX4_acceptBehindOne_3 (fun v1 hf => ?_)
  refine g_istore_n (lv' := [(0, tR a0), (1, tI v1)]) X dX4_acceptBehindOne_6 (by decide) (in_pick [1, 0] rfl) ?_
  refine g_iload_n X dX4_acceptBehindOne_7 1 rfl ?_
  refine g_iflt (tgt := 39) X hf dX4_acceptBehindOne_8 (by decide) (fun hf => ?_) (fun hf => ?_)
  · refine g_aload_n X dX4_acceptBehindOne_39 0 rfl ?_
    refine g_getI X hf (T := TX4) rfl (by decide) (by decide) in_RX4 tb_288 rfl dX4_acceptBehindOne_40 (fun v2 hf => ?_)
    refine g_bipush (v := 41) X dX4_acceptBehindOne_43 (by decide) ?_
    refine g_icmpne (tgt := 91) X hf dX4_acceptBehindOne_45 (by decide) (fun hf => ?_) (fun hf => ?_)
    · refine g_aload_n X dX4_acceptBehindOne_48 0 rfl ?_
      refine g_getI X hf (T := TX4) rfl (by decide) (by decide) in_RX4 tb_286 rfl dX4_acceptBehindOne_49 (fun v3 hf => ?_)
      refine g_ifle (tgt := 91) X hf dX4_acceptBehindOne_52 (by decide) (fun hf => ?_) (fun hf => ?_)
      · refine g_aload_n X dX4_acceptBehindOne_55 0 rfl ?_
        refine g_iconst (v := 4) X dX4_acceptBehindOne_56 (by decide) ?_
        refine g_callV (n := 1) (av := [tI 4]) (rest := []) (k := 4) X hf (fun h4 => (none, h4)) (fun _ q => m_X4_settle q) (gdV tb_753 tb_754 tb_1666 tb_9 tb_755) rfl (by decide +kernel) rfl (by decide) rfl (by decide) (by decide) rfl (Nat.le_of_ble_eq_true rfl) dX4_acceptBehindOne_57 (fun h4 hf => ?_)
        refine g_aload_n X dX4_acceptBehindOne_60 0 rfl ?_
        refine g_iconst (v := 0) X dX4_acceptBehindOne_61 (by decide) ?_
        refine g_aload_n X dX4_acceptBehindOne_62 0 rfl ?_
        refine g_getI X hf (T := TX4) rfl (by decide) (by decide) in_RX4 tb_292 rfl dX4_acceptBehindOne_63 (fun v5 hf => ?_)
        refine g_iconst (v := 1) X dX4_acceptBehindOne_66 (by decide) ?_
        refine g_isub X dX4_acceptBehindOne_67 ?_
        refine g_mmax X tb_759 tb_492 tb_13 tb_493 ⟨Nat.le_of_ble_eq_true rfl, Nat.le_of_ble_eq_true rfl⟩ ⟨Nat.le_of_ble_eq_true rfl, Nat.le_of_ble_eq_true rfl⟩ dX4_acceptBehindOne_68 ?_
        refine g_putI X hf (T := TX4) rfl (by decide) (by decide) in_RX4 tyX4 tyX4_ok nmX4 tb_292 rfl rfl rfl dX4_acceptBehindOne_71 (fun h6 hf => ?_)
        refine g_aload_n X dX4_acceptBehindOne_74 0 rfl ?_
        refine g_dup X dX4_acceptBehindOne_75 rfl ?_
        refine g_getI X hf (T := TX4) rfl (by decide) (by decide) in_RX4 tb_286 rfl dX4_acceptBehindOne_76 (fun v7 hf => ?_)
        refine g_iconst (v := 1) X dX4_acceptBehindOne_79 (by decide) ?_
        refine g_isub X dX4_acceptBehindOne_80 ?_
        refine g_putI X hf (T := TX4) rfl (by decide) (by decide) in_RX4 tyX4 tyX4_ok nmX4 tb_286 rfl rfl rfl dX4_acceptBehindOne_81 (fun h8 hf => ?_)
        refine g_aload_n X dX4_acceptBehindOne_84 0 rfl ?_
        refine g_iconst (v := 5) X dX4_acceptBehindOne_85 (by decide) ?_
        refine g_putI X hf (T := TX4) rfl (by decide) (by decide) in_RX4 tyX4 tyX4_ok nmX4 tb_283 rfl rfl rfl dX4_acceptBehindOne_86 (fun h9 hf => ?_)
        refine g_iconst (v := 1) X dX4_acceptBehindOne_89 (by decide) ?_
        exact g_zreturn X (zW hf) (by decide) (by decide) (by decide) dX4_acceptBehindOne_90
      · refine g_locs (lv' := [(0, tR a0)]) (in_pick [0] rfl) ?_
        exact w_X4_acceptBehindOne_91 X a0 h hf
    · refine g_locs (lv' := [(0, tR a0)]) (in_pick [0] rfl) ?_
      exact w_X4_acceptBehindOne_91 X a0 h hf
  · refine g_iload_n X dX4_acceptBehindOne_11 1 rfl ?_
    refine g_ifne (tgt := 20) X hf dX4_acceptBehindOne_12 (by decide) (fun hf => ?_) (fun hf => ?_)
    · refine g_bipush (v := 8) X dX4_acceptBehindOne_15 (by decide) ?_
      refine g_goto (tgt := 21) X dX4_acceptBehindOne_17 (by decide) ?_
      refine g_locs (lv' := [(0, tR a0)]) (in_pick [0] rfl) ?_
      exact w_X4_acceptBehindOne_21 X a0 8 h hf
    · refine g_iconst (v := 4) X dX4_acceptBehindOne_20 (by decide) ?_
      refine g_locs (lv' := [(0, tR a0)]) (in_pick [0] rfl) ?_
      exact w_X4_acceptBehindOne_21 X a0 4 h hf
def b_X4_acceptBehindTerm_140   (x0 : Option Nat) (h : AH) : Option (Int32 × AH) :=
  (ck 4 h x0 (f_X4_acceptBehindOne x0 h)).bind fun p1 =>
  (rZ p1.1).bind fun vz => some (vz, p1.2)
set_option maxRecDepth 20000 in
theorem w_X4_acceptBehindTerm_140 {K : KT} {w : (Int32 × AH)}   (X : CX K cX4_acceptBehindTerm RX4 TB (some .boolean) "acceptBehindTerm" (rmD 8 0 0) 1 0 0)  (x0 : Option Nat) (h : AH) (hf : b_X4_acceptBehindTerm_140 x0 h = some w) : GG K (some (tI w.1), w.2) 0 0 140 [(0, tR x0)] [] h := by
  unfold b_X4_acceptBehindTerm_140 at hf
  refine g_aload_n X dX4_acceptBehindTerm_140 0 rfl ?_
  refine g_callV (n := 0) (av := []) (rest := []) (k := 4) X hf (fun p1 => (some (tI p1.1), p1.2)) (fun _ q => m_X4_acceptBehindOne q) (gdV tb_756 tb_757 tb_1667 tb_9 tb_758) rfl (by decide +kernel) rfl (by decide) rfl (by decide) (by decide) rfl (Nat.le_of_ble_eq_true rfl) dX4_acceptBehindTerm_141 (fun p1 hf => ?_)
  obtain ⟨vz, hz1, hz2⟩ := Option.bind_eq_some_iff.mp hf
  cases hz2
  exact g_zreturn2 X hz1 (by decide) (by decide) dX4_acceptBehindTerm_144
def b_X4_acceptBehindTerm_117   (x0 : Option Nat) (h : AH) : Option (Int32 × AH) :=
  (ck 4 h x0 (f_X4_settle x0 16 h)).bind fun h1 =>
  (gI 4 7 h1 x0).bind fun v2 =>
  if v2 = 0 then
    (gR 4 2 h1 x0).bind fun v3 =>
    (ck 3 h1 v3 (f_X3_emit v3 26 0 h1)).bind fun h4 =>
    b_X4_acceptBehindTerm_140 x0 h4
  else
    b_X4_acceptBehindTerm_140 x0 h1
set_option maxRecDepth 20000 in
theorem w_X4_acceptBehindTerm_117 {K : KT} {w : (Int32 × AH)}   (X : CX K cX4_acceptBehindTerm RX4 TB (some .boolean) "acceptBehindTerm" (rmD 8 0 0) 1 0 0)  (x0 : Option Nat) (h : AH) (hf : b_X4_acceptBehindTerm_117 x0 h = some w) : GG K (some (tI w.1), w.2) 0 0 117 [(0, tR x0)] [] h := by
  unfold b_X4_acceptBehindTerm_117 at hf
  refine g_aload_n X dX4_acceptBehindTerm_117 0 rfl ?_
  refine g_bipush (v := 16) X dX4_acceptBehindTerm_118 (by decide) ?_
  refine g_callV (n := 1) (av := [tI 16]) (rest := []) (k := 4) X hf (fun h1 => (none, h1)) (fun _ q => m_X4_settle q) (gdV tb_753 tb_754 tb_1666 tb_9 tb_755) rfl (by decide +kernel) rfl (by decide) rfl (by decide) (by decide) rfl (Nat.le_of_ble_eq_true rfl) dX4_acceptBehindTerm_120 (fun h1 hf => ?_)
  refine g_aload_n X dX4_acceptBehindTerm_123 0 rfl ?_
  refine g_getI X hf (T := TX4) rfl (by decide) (by decide) in_RX4 tb_287 rfl dX4_acceptBehindTerm_124 (fun v2 hf => ?_)
  refine g_ifne (tgt := 140) X hf dX4_acceptBehindTerm_127 (by decide) (fun hf => ?_) (fun hf => ?_)
  · refine g_aload_n X dX4_acceptBehindTerm_130 0 rfl ?_
    refine g_getR X hf (T := TX4) rfl (by decide) (by decide) in_RX4 tb_281 rfl dX4_acceptBehindTerm_131 (fun v3 hf => ?_)
    refine g_bipush (v := 26) X dX4_acceptBehindTerm_134 (by decide) ?_
    refine g_iconst (v := 0) X dX4_acceptBehindTerm_136 (by decide) ?_
    refine g_callV (n := 2) (av := [tI 26, tI 0]) (rest := []) (k := 3) X hf (fun h4 => (none, h4)) (fun _ q => m_X3_emit q) (gdV tb_746 tb_747 tb_748 tb_8 tb_749) rfl (by decide +kernel) rfl (by decide) rfl (by decide) (by decide) rfl (Nat.le_of_ble_eq_true rfl) dX4_acceptBehindTerm_137 (fun h4 hf => ?_)
    exact w_X4_acceptBehindTerm_140 X x0 h4 hf
  · exact w_X4_acceptBehindTerm_140 X x0 h1 hf
def b_X4_acceptBehindTerm_85   (x0 : Option Nat) (h : AH) : Option (Int32 × AH) :=
  (ck 4 h x0 (f_X4_settle x0 20 h)).bind fun h1 =>
  (gI 4 8 h1 x0).bind fun v2 =>
  (ck 4 h1 x0 (f_X4_delay x0 ((16 + v2) - 60) h1)).bind fun h3 =>
  (pZ 4 7 h3 x0 1).bind fun h4 =>
  (pI 4 3 h4 x0 3).bind fun h5 =>
  some (1, h5)
set_option maxRecDepth 20000 in
theorem w_X4_acceptBehindTerm_85 {K : KT} {w : (Int32 × AH)}   (X : CX K cX4_acceptBehindTerm RX4 TB (some .boolean) "acceptBehindTerm" (rmD 8 0 0) 1 0 0)  (x0 : Option Nat) (h : AH) (hf : b_X4_acceptBehindTerm_85 x0 h = some w) : GG K (some (tI w.1), w.2) 0 0 85 [(0, tR x0)] [] h := by
  unfold b_X4_acceptBehindTerm_85 at hf
  refine g_aload_n X dX4_acceptBehindTerm_85 0 rfl ?_
  refine g_bipush (v := 20) X dX4_acceptBehindTerm_86 (by decide) ?_
  refine g_callV (n := 1) (av := [tI 20]) (rest := []) (k := 4) X hf (fun h1 => (none, h1)) (fun _ q => m_X4_settle q) (gdV tb_753 tb_754 tb_1666 tb_9 tb_755) rfl (by decide +kernel) rfl (by decide) rfl (by decide) (by decide) rfl (Nat.le_of_ble_eq_true rfl) dX4_acceptBehindTerm_88 (fun h1 hf => ?_)
  refine g_aload_n X dX4_acceptBehindTerm_91 0 rfl ?_
  refine g_bipush (v := 16) X dX4_acceptBehindTerm_92 (by decide) ?_
  refine g_aload_n X dX4_acceptBehindTerm_94 0 rfl ?_
  refine g_getI X hf (T := TX4) rfl (by decide) (by decide) in_RX4 tb_288 rfl dX4_acceptBehindTerm_95 (fun v2 hf => ?_)
  refine g_iadd X dX4_acceptBehindTerm_98 ?_
  refine g_bipush (v := 60) X dX4_acceptBehindTerm_99 (by decide) ?_
  refine g_isub X dX4_acceptBehindTerm_101 ?_
  refine g_callV (n := 1) (av := [tI ((16 + v2) - 60)]) (rest := []) (k := 4) X hf (fun h3 => (none, h3)) (fun _ q => m_X4_delay q) (gdV tb_737 tb_738 tb_1662 tb_9 tb_739) rfl (by decide +kernel) rfl (by decide) rfl (by decide) (by decide) rfl (Nat.le_of_ble_eq_true rfl) dX4_acceptBehindTerm_102 (fun h3 hf => ?_)
  refine g_aload_n X dX4_acceptBehindTerm_105 0 rfl ?_
  refine g_iconst (v := 1) X dX4_acceptBehindTerm_106 (by decide) ?_
  refine g_putZ X hf (T := TX4) rfl (by decide) (by decide) in_RX4 tyX4 tyX4_ok nmX4 tb_287 rfl rfl rfl dX4_acceptBehindTerm_107 (fun h4 hf => ?_)
  refine g_aload_n X dX4_acceptBehindTerm_110 0 rfl ?_
  refine g_iconst (v := 3) X dX4_acceptBehindTerm_111 (by decide) ?_
  refine g_putI X hf (T := TX4) rfl (by decide) (by decide) in_RX4 tyX4 tyX4_ok nmX4 tb_283 rfl rfl rfl dX4_acceptBehindTerm_112 (fun h5 hf => ?_)
  refine g_iconst (v := 1) X dX4_acceptBehindTerm_115 (by decide) ?_
  exact g_zreturn X (zW hf) (by decide) (by decide) (by decide) dX4_acceptBehindTerm_116
def b_X4_acceptBehindTerm_41   (x0 : Option Nat) (s0 : Option Nat) (s1 : Int32) (h : AH) : Option (Int32 × AH) :=
  (ck 4 h s0 (f_X4_delay s0 s1 h)).bind fun h1 =>
  (pI 4 3 h1 x0 3).bind fun h2 =>
  some (1, h2)
set_option maxRecDepth 20000 in
theorem w_X4_acceptBehindTerm_41 {K : KT} {w : (Int32 × AH)}   (X : CX K cX4_acceptBehindTerm RX4 TB (some .boolean) "acceptBehindTerm" (rmD 8 0 0) 1 0 0)  (x0 : Option Nat) (s0 : Option Nat) (s1 : Int32) (h : AH) (hf : b_X4_acceptBehindTerm_41 x0 s0 s1 h = some w) : GG K (some (tI w.1), w.2) 0 0 41 [(0, tR x0)] [tI s1, tR s0] h := by
  unfold b_X4_acceptBehindTerm_41 at hf
  refine g_callV (n := 1) (av := [tI s1]) (rest := []) (k := 4) X hf (fun h1 => (none, h1)) (fun _ q => m_X4_delay q) (gdV tb_737 tb_738 tb_1662 tb_9 tb_739) rfl (by decide +kernel) rfl (by decide) rfl (by decide) (by decide) rfl (Nat.le_of_ble_eq_true rfl) dX4_acceptBehindTerm_41 (fun h1 hf => ?_)
  refine g_aload_n X dX4_acceptBehindTerm_44 0 rfl ?_
  refine g_iconst (v := 3) X dX4_acceptBehindTerm_45 (by decide) ?_
  refine g_putI X hf (T := TX4) rfl (by decide) (by decide) in_RX4 tyX4 tyX4_ok nmX4 tb_283 rfl rfl rfl dX4_acceptBehindTerm_46 (fun h2 hf => ?_)
  refine g_iconst (v := 1) X dX4_acceptBehindTerm_49 (by decide) ?_
  exact g_zreturn X (zW hf) (by decide) (by decide) (by decide) dX4_acceptBehindTerm_50
def b_X4_acceptBehindTerm_18   (x0 : Option Nat) (h : AH) : Option (Int32 × AH) :=
  (ck 4 h x0 (f_X4_settle x0 20 h)).bind fun h1 =>
  (gI 4 8 h1 x0).bind fun v2 =>
  if v2 = 43 then
    b_X4_acceptBehindTerm_41 x0 x0 20 h1
  else
    b_X4_acceptBehindTerm_41 x0 x0 21 h1
set_option maxRecDepth 20000 in
theorem w_X4_acceptBehindTerm_18 {K : KT} {w : (Int32 × AH)}   (X : CX K cX4_acceptBehindTerm RX4 TB (some .boolean) "acceptBehindTerm" (rmD 8 0 0) 1 0 0)  (x0 : Option Nat) (h : AH) (hf : b_X4_acceptBehindTerm_18 x0 h = some w) : GG K (some (tI w.1), w.2) 0 0 18 [(0, tR x0)] [] h := by
  unfold b_X4_acceptBehindTerm_18 at hf
  refine g_aload_n X dX4_acceptBehindTerm_18 0 rfl ?_
  refine g_bipush (v := 20) X dX4_acceptBehindTerm_19 (by decide) ?_
  refine g_callV (n := 1) (av := [tI 20]) (rest := []) (k := 4) X hf (fun h1 => (none, h1)) (fun _ q => m_X4_settle q) (gdV tb_753 tb_754 tb_1666 tb_9 tb_755) rfl (by decide +kernel) rfl (by decide) rfl (by decide) (by decide) rfl (Nat.le_of_ble_eq_true rfl) dX4_acceptBehindTerm_21 (fun h1 hf => ?_)
  refine g_aload_n X dX4_acceptBehindTerm_24 0 rfl ?_
  refine g_aload_n X dX4_acceptBehindTerm_25 0 rfl ?_
  refine g_getI X hf (T := TX4) rfl (by decide) (by decide) in_RX4 tb_288 rfl dX4_acceptBehindTerm_26 (fun v2 hf => ?_)
  refine g_bipush (v := 43) X dX4_acceptBehindTerm_29 (by decide) ?_
  refine g_icmpne (tgt := 39) X hf dX4_acceptBehindTerm_31 (by decide) (fun hf => ?_) (fun hf => ?_)
  · refine g_bipush (v := 20) X dX4_acceptBehindTerm_34 (by decide) ?_
    refine g_goto (tgt := 41) X dX4_acceptBehindTerm_36 (by decide) ?_
    exact w_X4_acceptBehindTerm_41 X x0 x0 20 h1 hf
  · refine g_bipush (v := 21) X dX4_acceptBehindTerm_39 (by decide) ?_
    exact w_X4_acceptBehindTerm_41 X x0 x0 21 h1 hf
def f_X4_acceptBehindTerm  (a0 : Option Nat) (h : AH) : Option (Int32 × AH) :=
  (gI 4 8 h a0).bind fun v1 =>
  if v1 = 43 then
    b_X4_acceptBehindTerm_18 a0 h
  else
    (gI 4 8 h a0).bind fun v2 =>
    if v2 = 45 then
      b_X4_acceptBehindTerm_18 a0 h
    else
      (gI 4 7 h a0).bind fun v3 =>
      if v3 = 0 then
        (gI 4 8 h a0).bind fun v4 =>
        if v4 = 60 then
          b_X4_acceptBehindTerm_85 a0 h
        else
          (gI 4 8 h a0).bind fun v5 =>
          if v5 = 61 then
            b_X4_acceptBehindTerm_85 a0 h
          else
            (gI 4 8 h a0).bind fun v6 =>
            if v6 = 62 then
              b_X4_acceptBehindTerm_85 a0 h
            else
              b_X4_acceptBehindTerm_117 a0 h
      else
        b_X4_acceptBehindTerm_117 a0 h
set_option maxRecDepth 20000 in
theorem m_X4_acceptBehindTerm  {a0 : Option Nat} {h : AH} {w : (Int32 × AH)} (hf : f_X4_acceptBehindTerm a0 h = some w) : CT yX4_acceptBehindTerm (wU yX4_acceptBehindTerm cX4_acceptBehindTerm 1 (some .boolean)) (rmD 8 0 0) 0 0 [tR a0] h (some (tI w.1), w.2) := by
  refine CT.of (cc := cX4_acceptBehindTerm) (nL := 1) (ret := (some .boolean)) (by decide) (by simp [lg_sl, vOf_cat, wOf]) ?_
  intro K X
  refine g_locs (lv' := [(0, tR a0)]) (fun q hq => hq) ?_
  unfold f_X4_acceptBehindTerm at hf
  refine g_aload_n X dX4_acceptBehindTerm_0 0 rfl ?_
  refine g_getI X hf (T := TX4) rfl (by decide) (by decide) in_RX4 tb_288 rfl dX4_acceptBehindTerm_1 (fun v1 hf => ?_)
  refine g_bipush (v := 43) X dX4_acceptBehindTerm_4 (by decide) ?_
  refine g_icmpeq (tgt := 18) X hf dX4_acceptBehindTerm_6 (by decide) (fun hf => ?_) (fun hf => ?_)
  · exact w_X4_acceptBehindTerm_18 X a0 h hf
  · refine g_aload_n X dX4_acceptBehindTerm_9 0 rfl ?_
    refine g_getI X hf (T := TX4) rfl (by decide) (by decide) in_RX4 tb_288 rfl dX4_acceptBehindTerm_10 (fun v2 hf => ?_)
    refine g_bipush (v := 45) X dX4_acceptBehindTerm_13 (by decide) ?_
    refine g_icmpne (tgt := 51) X hf dX4_acceptBehindTerm_15 (by decide) (fun hf => ?_) (fun hf => ?_)
    · exact w_X4_acceptBehindTerm_18 X a0 h hf
    · refine g_aload_n X dX4_acceptBehindTerm_51 0 rfl ?_
      refine g_getI X hf (T := TX4) rfl (by decide) (by decide) in_RX4 tb_287 rfl dX4_acceptBehindTerm_52 (fun v3 hf => ?_)
      refine g_ifne (tgt := 117) X hf dX4_acceptBehindTerm_55 (by decide) (fun hf => ?_) (fun hf => ?_)
      · refine g_aload_n X dX4_acceptBehindTerm_58 0 rfl ?_
        refine g_getI X hf (T := TX4) rfl (by decide) (by decide) in_RX4 tb_288 rfl dX4_acceptBehindTerm_59 (fun v4 hf => ?_)
        refine g_bipush (v := 60) X dX4_acceptBehindTerm_62 (by decide) ?_
        refine g_icmpeq (tgt := 85) X hf dX4_acceptBehindTerm_64 (by decide) (fun hf => ?_) (fun hf => ?_)
        · exact w_X4_acceptBehindTerm_85 X a0 h hf
        · refine g_aload_n X dX4_acceptBehindTerm_67 0 rfl ?_
          refine g_getI X hf (T := TX4) rfl (by decide) (by decide) in_RX4 tb_288 rfl dX4_acceptBehindTerm_68 (fun v5 hf => ?_)
          refine g_bipush (v := 61) X dX4_acceptBehindTerm_71 (by decide) ?_
          refine g_icmpeq (tgt := 85) X hf dX4_acceptBehindTerm_73 (by decide) (fun hf => ?_) (fun hf => ?_)
          · exact w_X4_acceptBehindTerm_85 X a0 h hf
          · refine g_aload_n X dX4_acceptBehindTerm_76 0 rfl ?_
            refine g_getI X hf (T := TX4) rfl (by decide) (by decide) in_RX4 tb_288 rfl dX4_acceptBehindTerm_77 (fun v6 hf => ?_)
            refine g_bipush (v := 62) X dX4_acceptBehindTerm_80 (by decide) ?_
            refine g_icmpne (tgt := 117) X hf dX4_acceptBehindTerm_82 (by decide) (fun hf => ?_) (fun hf => ?_)
            · exact w_X4_acceptBehindTerm_85 X a0 h hf
            · exact w_X4_acceptBehindTerm_117 X a0 h hf
      · exact w_X4_acceptBehindTerm_117 X a0 h hf
def f_X4_accept  (a0 : Option Nat) (h : AH) : Option (Int32 × AH) :=
  (gI 4 3 h a0).bind fun v1 =>
  if v1 < 0 ∨ 5 < v1 then
    (ck 4 h a0 (f_X4_acceptLineEnd a0 h)).bind fun p2 =>
    (rZ p2.1).bind fun vz => some (vz, p2.2)
  else if v1 = 0 then
    (ck 4 h a0 (f_X4_acceptLine a0 h)).bind fun p3 =>
    (rZ p3.1).bind fun vz => some (vz, p3.2)
  else if v1 = 1 then
    (ck 4 h a0 (f_X4_acceptYears a0 h)).bind fun p4 =>
    (rZ p4.1).bind fun vz => some (vz, p4.2)
  else if v1 = 2 then
    (ck 4 h a0 (f_X4_acceptOne a0 h)).bind fun p5 =>
    (rZ p5.1).bind fun vz => some (vz, p5.2)
  else if v1 = 3 then
    (ck 4 h a0 (f_X4_acceptTerm a0 h)).bind fun p6 =>
    (rZ p6.1).bind fun vz => some (vz, p6.2)
  else if v1 = 4 then
    (ck 4 h a0 (f_X4_acceptBehindTerm a0 h)).bind fun p7 =>
    (rZ p7.1).bind fun vz => some (vz, p7.2)
  else if v1 = 5 then
    (ck 4 h a0 (f_X4_acceptBehindOne a0 h)).bind fun p8 =>
    (rZ p8.1).bind fun vz => some (vz, p8.2)
  else none
set_option maxRecDepth 20000 in
theorem m_X4_accept  {a0 : Option Nat} {h : AH} {w : (Int32 × AH)} (hf : f_X4_accept a0 h = some w) : CT yX4_accept (wU yX4_accept cX4_accept 1 (some .boolean)) (rmD 9 0 0) 0 0 [tR a0] h (some (tI w.1), w.2) := by
  refine CT.of (cc := cX4_accept) (nL := 1) (ret := (some .boolean)) (by decide) (by simp [lg_sl, vOf_cat, wOf]) ?_
  intro K X
  refine g_locs (lv' := [(0, tR a0)]) (fun q hq => hq) ?_
  unfold f_X4_accept at hf
  refine g_aload_n X dX4_accept_0 0 rfl ?_
  refine g_getI X hf (T := TX4) rfl (by decide) (by decide) in_RX4 tb_283 rfl dX4_accept_1 (fun v1 hf => ?_)
  by_cases hsw : v1 < 0 ∨ 5 < v1
  · rw [if_pos hsw] at hf
    refine g_tabOut (tgt := 74) X dX4_accept_4 (tab_out hsw) (by decide) ?_
    refine g_aload_n X dX4_accept_74 0 rfl ?_
    refine g_callV (n := 0) (av := []) (rest := []) (k := 4) X hf (fun p2 => (some (tI p2.1), p2.2)) (fun _ q => m_X4_acceptLineEnd q) (gdV tb_760 tb_761 tb_1668 tb_9 tb_762) rfl (by decide +kernel) rfl (by decide) rfl (by decide) (by decide) rfl (Nat.le_of_ble_eq_true rfl) dX4_accept_75 (fun p2 hf => ?_)
    obtain ⟨vz, hz1, hz2⟩ := Option.bind_eq_some_iff.mp hf
    cases hz2
    exact g_zreturn2 X hz1 (by decide) (by decide) dX4_accept_78
  rw [if_neg hsw] at hf
  by_cases hs0 : v1 = 0
  · rw [if_pos hs0] at hf
    refine g_tabIn (off := 40) (tgt := 44) X 0 hs0 dX4_accept_4 (by decide) (by decide) (by decide +kernel) (by decide) ?_
    refine g_aload_n X dX4_accept_44 0 rfl ?_
    refine g_callV (n := 0) (av := []) (rest := []) (k := 4) X hf (fun p3 => (some (tI p3.1), p3.2)) (fun _ q => m_X4_acceptLine q) (gdV tb_676 tb_677 tb_1656 tb_9 tb_678) rfl (by decide +kernel) rfl (by decide) rfl (by decide) (by decide) rfl (Nat.le_of_ble_eq_true rfl) dX4_accept_45 (fun p3 hf => ?_)
    obtain ⟨vz, hz1, hz2⟩ := Option.bind_eq_some_iff.mp hf
    cases hz2
    exact g_zreturn2 X hz1 (by decide) (by decide) dX4_accept_48
  rw [if_neg hs0] at hf
  by_cases hs1 : v1 = 1
  · rw [if_pos hs1] at hf
    refine g_tabIn (off := 45) (tgt := 49) X 1 hs1 dX4_accept_4 (by decide) (by decide) (by decide +kernel) (by decide) ?_
    refine g_aload_n X dX4_accept_49 0 rfl ?_
    refine g_callV (n := 0) (av := []) (rest := []) (k := 4) X hf (fun p4 => (some (tI p4.1), p4.2)) (fun _ q => m_X4_acceptYears q) (gdV tb_728 tb_729 tb_1659 tb_9 tb_730) rfl (by decide +kernel) rfl (by decide) rfl (by decide) (by decide) rfl (Nat.le_of_ble_eq_true rfl) dX4_accept_50 (fun p4 hf => ?_)
    obtain ⟨vz, hz1, hz2⟩ := Option.bind_eq_some_iff.mp hf
    cases hz2
    exact g_zreturn2 X hz1 (by decide) (by decide) dX4_accept_53
  rw [if_neg hs1] at hf
  by_cases hs2 : v1 = 2
  · rw [if_pos hs2] at hf
    refine g_tabIn (off := 50) (tgt := 54) X 2 hs2 dX4_accept_4 (by decide) (by decide) (by decide +kernel) (by decide) ?_
    refine g_aload_n X dX4_accept_54 0 rfl ?_
    refine g_callV (n := 0) (av := []) (rest := []) (k := 4) X hf (fun p5 => (some (tI p5.1), p5.2)) (fun _ q => m_X4_acceptOne q) (gdV tb_734 tb_735 tb_1661 tb_9 tb_736) rfl (by decide +kernel) rfl (by decide) rfl (by decide) (by decide) rfl (Nat.le_of_ble_eq_true rfl) dX4_accept_55 (fun p5 hf => ?_)
    obtain ⟨vz, hz1, hz2⟩ := Option.bind_eq_some_iff.mp hf
    cases hz2
    exact g_zreturn2 X hz1 (by decide) (by decide) dX4_accept_58
  rw [if_neg hs2] at hf
  by_cases hs3 : v1 = 3
  · rw [if_pos hs3] at hf
    refine g_tabIn (off := 55) (tgt := 59) X 3 hs3 dX4_accept_4 (by decide) (by decide) (by decide +kernel) (by decide) ?_
    refine g_aload_n X dX4_accept_59 0 rfl ?_
    refine g_callV (n := 0) (av := []) (rest := []) (k := 4) X hf (fun p6 => (some (tI p6.1), p6.2)) (fun _ q => m_X4_acceptTerm q) (gdV tb_740 tb_741 tb_1663 tb_9 tb_742) rfl (by decide +kernel) rfl (by decide) rfl (by decide) (by decide) rfl (Nat.le_of_ble_eq_true rfl) dX4_accept_60 (fun p6 hf => ?_)
    obtain ⟨vz, hz1, hz2⟩ := Option.bind_eq_some_iff.mp hf
    cases hz2
    exact g_zreturn2 X hz1 (by decide) (by decide) dX4_accept_63
  rw [if_neg hs3] at hf
  by_cases hs4 : v1 = 4
  · rw [if_pos hs4] at hf
    refine g_tabIn (off := 60) (tgt := 64) X 4 hs4 dX4_accept_4 (by decide) (by decide) (by decide +kernel) (by decide) ?_
    refine g_aload_n X dX4_accept_64 0 rfl ?_
    refine g_callV (n := 0) (av := []) (rest := []) (k := 4) X hf (fun p7 => (some (tI p7.1), p7.2)) (fun _ q => m_X4_acceptBehindTerm q) (gdV tb_750 tb_751 tb_1665 tb_9 tb_752) rfl (by decide +kernel) rfl (by decide) rfl (by decide) (by decide) rfl (Nat.le_of_ble_eq_true rfl) dX4_accept_65 (fun p7 hf => ?_)
    obtain ⟨vz, hz1, hz2⟩ := Option.bind_eq_some_iff.mp hf
    cases hz2
    exact g_zreturn2 X hz1 (by decide) (by decide) dX4_accept_68
  rw [if_neg hs4] at hf
  by_cases hs5 : v1 = 5
  · rw [if_pos hs5] at hf
    refine g_tabIn (off := 65) (tgt := 69) X 5 hs5 dX4_accept_4 (by decide) (by decide) (by decide +kernel) (by decide) ?_
    refine g_aload_n X dX4_accept_69 0 rfl ?_
    refine g_callV (n := 0) (av := []) (rest := []) (k := 4) X hf (fun p8 => (some (tI p8.1), p8.2)) (fun _ q => m_X4_acceptBehindOne q) (gdV tb_756 tb_757 tb_1667 tb_9 tb_758) rfl (by decide +kernel) rfl (by decide) rfl (by decide) (by decide) rfl (Nat.le_of_ble_eq_true rfl) dX4_accept_70 (fun p8 hf => ?_)
    obtain ⟨vz, hz1, hz2⟩ := Option.bind_eq_some_iff.mp hf
    cases hz2
    exact g_zreturn2 X hz1 (by decide) (by decide) dX4_accept_73
  rw [if_neg hs5] at hf
  cases hf
def b_X4_useTape_104   (x0 : Option Nat) (h : AH) : Option (Int32 × AH) :=
  (gI 4 9 h x0).bind fun v1 =>
  some (((-100) - v1), h)
set_option maxRecDepth 20000 in
theorem w_X4_useTape_104 {K : KT} {w : (Int32 × AH)}   (X : CX K cX4_useTape RX4 TB (some .int) "useTape" (rmD 10 0 0) 3 0 0)  (x0 : Option Nat) (h : AH) (hf : b_X4_useTape_104 x0 h = some w) : GG K (some (tI w.1), w.2) 0 0 104 [(0, tR x0)] [] h := by
  unfold b_X4_useTape_104 at hf
  refine g_bipush (v := (-100)) X dX4_useTape_104 (by decide) ?_
  refine g_aload_n X dX4_useTape_106 0 rfl ?_
  refine g_getI X hf (T := TX4) rfl (by decide) (by decide) in_RX4 tb_289 rfl dX4_useTape_107 (fun v1 hf => ?_)
  refine g_isub X dX4_useTape_110 ?_
  exact g_ireturn X (zW hf) (by decide) (by decide) dX4_useTape_111
def b_X4_useTape_78   (x0 : Option Nat) (x1 : Int32) (h : AH) : Option (Int32 × AH) :=
  (pI 4 1 h x0 0).bind fun h1 =>
  if x1 = 0 then
    b_X4_useTape_104 x0 h1
  else
    (gI 4 3 h1 x0).bind fun v2 =>
    if v2 = 0 then
      (gI 4 5 h1 x0).bind fun v3 =>
      (f_J6_bitCount_0f7a4 v3 h1).bind fun v4 =>
      some (v4, h1)
    else
      b_X4_useTape_104 x0 h1
set_option maxRecDepth 20000 in
theorem w_X4_useTape_78 {K : KT} {w : (Int32 × AH)}   (X : CX K cX4_useTape RX4 TB (some .int) "useTape" (rmD 10 0 0) 3 0 0)  (x0 : Option Nat) (x1 : Int32) (h : AH) (hf : b_X4_useTape_78 x0 x1 h = some w) : GG K (some (tI w.1), w.2) 0 0 78 [(0, tR x0), (1, tI x1)] [] h := by
  unfold b_X4_useTape_78 at hf
  refine g_aload_n X dX4_useTape_78 0 rfl ?_
  refine g_iconst (v := 0) X dX4_useTape_79 (by decide) ?_
  refine g_putI X hf (T := TX4) rfl (by decide) (by decide) in_RX4 tyX4 tyX4_ok nmX4 tb_279 rfl rfl rfl dX4_useTape_80 (fun h1 hf => ?_)
  refine g_iload_n X dX4_useTape_83 1 rfl ?_
  refine g_ifeq (tgt := 104) X hf dX4_useTape_84 (by decide) (fun hf => ?_) (fun hf => ?_)
  · refine g_locs (lv' := [(0, tR x0)]) (in_pick [0] rfl) ?_
    exact w_X4_useTape_104 X x0 h1 hf
  · refine g_aload_n X dX4_useTape_87 0 rfl ?_
    refine g_getI X hf (T := TX4) rfl (by decide) (by decide) in_RX4 tb_283 rfl dX4_useTape_88 (fun v2 hf => ?_)
    refine g_ifne (tgt := 104) X hf dX4_useTape_91 (by decide) (fun hf => ?_) (fun hf => ?_)
    · refine g_aload_n X dX4_useTape_94 0 rfl ?_
      refine g_getI X hf (T := TX4) rfl (by decide) (by decide) in_RX4 tb_285 rfl dX4_useTape_95 (fun v3 hf => ?_)
      refine g_callS (n := 1) (av := [tI v3]) (rest := []) X hf (fun v4 => (some (tI v4), h1)) (fun _ q => m_J6_bitCount_0f7a4 q) (gdS tb_763 tb_612 tb_14 tb_613) rfl (by decide +kernel) rfl (by decide) (by decide) rfl (Nat.le_of_ble_eq_true rfl) dX4_useTape_98 (fun v4 hf => ?_)
      refine g_goto (tgt := 111) X dX4_useTape_101 (by decide) ?_
      exact g_ireturn X (zW hf) (by decide) (by decide) dX4_useTape_111
    · refine g_locs (lv' := [(0, tR x0)]) (in_pick [0] rfl) ?_
      exact w_X4_useTape_104 X x0 h1 hf
def b_X4_useTape_40    : Nat → Option Nat → Int32 → Int32 → AH → Option (Int32 × AH)
  | 0 => fun _ _ _ _ => none
  | n + 1 => fun x0 x1 x2 h =>
    if x2 < 300 then
      if x1 = 0 then
        b_X4_useTape_78 x0 x1 h
      else
        (gI 4 8 h x0).bind fun v1 =>
        if v1 = (-1) then
          b_X4_useTape_78 x0 x1 h
        else
          (ck 4 h x0 (f_X4_accept x0 h)).bind fun p2 =>
          if p2.1 = 0 then
            b_X4_useTape_40 n x0 p2.1 (x2 + 1) p2.2
          else
            (ck 4 p2.2 x0 (f_X4_find x0 p2.2)).bind fun h3 =>
            b_X4_useTape_40 n x0 p2.1 (x2 + 1) h3
    else
      b_X4_useTape_78 x0 x1 h
set_option maxRecDepth 20000 in
theorem w_X4_useTape_40 {K : KT} {w : (Int32 × AH)}   (X : CX K cX4_useTape RX4 TB (some .int) "useTape" (rmD 10 0 0) 3 0 0)  : ∀ (n : Nat) (x0 : Option Nat) (x1 : Int32) (x2 : Int32) (h : AH), b_X4_useTape_40 n x0 x1 x2 h = some w → GG K (some (tI w.1), w.2) 0 0 40 [(0, tR x0), (1, tI x1), (2, tI x2)] [] h := by
  intro n
  induction n with
  | zero =>
    intro x0 x1 x2 h hf
    cases (show none = some w from hf)
  | succ n ih =>
    intro x0 x1 x2 h hf
    rw [b_X4_useTape_40] at hf
    refine g_iload_n X dX4_useTape_40 2 rfl ?_
    refine g_sipush (v := 300) X dX4_useTape_41 (by decide) ?_
    refine g_icmpge (tgt := 78) X hf dX4_useTape_44 (by decide) (fun hf => ?_) (fun hf => ?_)
    · refine g_iload_n X dX4_useTape_47 1 rfl ?_
      refine g_ifeq (tgt := 78) X hf dX4_useTape_48 (by decide) (fun hf => ?_) (fun hf => ?_)
      · refine g_locs (lv' := [(0, tR x0), (1, tI x1)]) (in_pick [0, 1] rfl) ?_
        exact w_X4_useTape_78 X x0 x1 h hf
      · refine g_aload_n X dX4_useTape_51 0 rfl ?_
        refine g_getI X hf (T := TX4) rfl (by decide) (by decide) in_RX4 tb_288 rfl dX4_useTape_52 (fun v1 hf => ?_)
        refine g_iconst (v := (-1)) X dX4_useTape_55 (by decide) ?_
        refine g_icmpeq (tgt := 78) X hf dX4_useTape_56 (by decide) (fun hf => ?_) (fun hf => ?_)
        · refine g_locs (lv' := [(0, tR x0), (1, tI x1)]) (in_pick [0, 1] rfl) ?_
          exact w_X4_useTape_78 X x0 x1 h hf
        · refine g_aload_n X dX4_useTape_59 0 rfl ?_
          refine g_callV (n := 0) (av := []) (rest := []) (k := 4) X hf (fun p2 => (some (tI p2.1), p2.2)) (fun _ q => m_X4_accept q) (gdV tb_673 tb_674 tb_1655 tb_9 tb_675) rfl (by decide +kernel) rfl (by decide) rfl (by decide) (by decide) rfl (Nat.le_of_ble_eq_true rfl) dX4_useTape_60 (fun p2 hf => ?_)
          refine g_istore_n (lv' := [(0, tR x0), (1, tI p2.1), (2, tI x2)]) X dX4_useTape_63 (by decide) (in_pick [1, 0, 2] rfl) ?_
          refine g_iload_n X dX4_useTape_64 1 rfl ?_
          refine g_ifeq (tgt := 72) X hf dX4_useTape_65 (by decide) (fun hf => ?_) (fun hf => ?_)
          · refine g_iinc (v := (x2 + 1)) (lv' := [(0, tR x0), (1, tI p2.1), (2, tI (x2 + 1))]) X dX4_useTape_72 2 rfl (by rfl) (by decide) (in_pick [1, 2, 0] rfl) ?_
            refine g_goto (tgt := 40) X dX4_useTape_75 (by decide) ?_
            exact ih x0 p2.1 (x2 + 1) p2.2 hf
          · refine g_aload_n X dX4_useTape_68 0 rfl ?_
            refine g_callV (n := 0) (av := []) (rest := []) (k := 4) X hf (fun h3 => (none, h3)) (fun _ q => m_X4_find q) (gdV tb_664 tb_665 tb_1654 tb_9 tb_666) rfl (by decide +kernel) rfl (by decide) rfl (by decide) (by decide) rfl (Nat.le_of_ble_eq_true rfl) dX4_useTape_69 (fun h3 hf => ?_)
            refine g_iinc (v := (x2 + 1)) (lv' := [(0, tR x0), (1, tI p2.1), (2, tI (x2 + 1))]) X dX4_useTape_72 2 rfl (by rfl) (by decide) (in_pick [1, 2, 0] rfl) ?_
            refine g_goto (tgt := 40) X dX4_useTape_75 (by decide) ?_
            exact ih x0 p2.1 (x2 + 1) h3 hf
    · refine g_locs (lv' := [(0, tR x0), (1, tI x1)]) (in_pick [0, 1] rfl) ?_
      exact w_X4_useTape_78 X x0 x1 h hf
def f_X4_useTape  (a0 : Option Nat) (h : AH) : Option (Int32 × AH) :=
  (gR 4 2 h a0).bind fun v1 =>
  (ck 3 h v1 (f_X3_beginEmpty v1 h)).bind fun h2 =>
  (pI 4 3 h2 a0 0).bind fun h3 =>
  (pI 4 5 h3 a0 0).bind fun h4 =>
  (pI 4 6 h4 a0 0).bind fun h5 =>
  (pI 4 12 h5 a0 0).bind fun h6 =>
  (pI 4 10 h6 a0 0).bind fun h7 =>
  (ck 4 h7 a0 (f_X4_find a0 h7)).bind fun h8 =>
  b_X4_useTape_40 FU a0 1 0 h8
set_option maxRecDepth 20000 in
theorem m_X4_useTape  {a0 : Option Nat} {h : AH} {w : (Int32 × AH)} (hf : f_X4_useTape a0 h = some w) : CT yX4_useTape (wU yX4_useTape cX4_useTape 3 (some .int)) (rmD 10 0 0) 0 0 [tR a0] h (some (tI w.1), w.2) := by
  refine CT.of (cc := cX4_useTape) (nL := 3) (ret := (some .int)) (by decide) (by simp [lg_sl, vOf_cat, wOf]) ?_
  intro K X
  refine g_locs (lv' := [(0, tR a0)]) (fun q hq => hq) ?_
  unfold f_X4_useTape at hf
  refine g_aload_n X dX4_useTape_0 0 rfl ?_
  refine g_getR X hf (T := TX4) rfl (by decide) (by decide) in_RX4 tb_281 rfl dX4_useTape_1 (fun v1 hf => ?_)
  refine g_callV (n := 0) (av := []) (rest := []) (k := 3) X hf (fun h2 => (none, h2)) (fun _ q => m_X3_beginEmpty q) (gdV tb_660 tb_661 tb_662 tb_8 tb_663) rfl (by decide +kernel) rfl (by decide) rfl (by decide) (by decide) rfl (Nat.le_of_ble_eq_true rfl) dX4_useTape_4 (fun h2 hf => ?_)
  refine g_aload_n X dX4_useTape_7 0 rfl ?_
  refine g_iconst (v := 0) X dX4_useTape_8 (by decide) ?_
  refine g_putI X hf (T := TX4) rfl (by decide) (by decide) in_RX4 tyX4 tyX4_ok nmX4 tb_283 rfl rfl rfl dX4_useTape_9 (fun h3 hf => ?_)
  refine g_aload_n X dX4_useTape_12 0 rfl ?_
  refine g_iconst (v := 0) X dX4_useTape_13 (by decide) ?_
  refine g_putI X hf (T := TX4) rfl (by decide) (by decide) in_RX4 tyX4 tyX4_ok nmX4 tb_285 rfl rfl rfl dX4_useTape_14 (fun h4 hf => ?_)
  refine g_aload_n X dX4_useTape_17 0 rfl ?_
  refine g_iconst (v := 0) X dX4_useTape_18 (by decide) ?_
  refine g_putI X hf (T := TX4) rfl (by decide) (by decide) in_RX4 tyX4 tyX4_ok nmX4 tb_286 rfl rfl rfl dX4_useTape_19 (fun h5 hf => ?_)
  refine g_aload_n X dX4_useTape_22 0 rfl ?_
  refine g_iconst (v := 0) X dX4_useTape_23 (by decide) ?_
  refine g_putI X hf (T := TX4) rfl (by decide) (by decide) in_RX4 tyX4 tyX4_ok nmX4 tb_292 rfl rfl rfl dX4_useTape_24 (fun h6 hf => ?_)
  refine g_aload_n X dX4_useTape_27 0 rfl ?_
  refine g_iconst (v := 0) X dX4_useTape_28 (by decide) ?_
  refine g_putI X hf (T := TX4) rfl (by decide) (by decide) in_RX4 tyX4 tyX4_ok nmX4 tb_290 rfl rfl rfl dX4_useTape_29 (fun h7 hf => ?_)
  refine g_iconst (v := 1) X dX4_useTape_32 (by decide) ?_
  refine g_istore_n (lv' := [(0, tR a0), (1, tI 1)]) X dX4_useTape_33 (by decide) (in_pick [1, 0] rfl) ?_
  refine g_aload_n X dX4_useTape_34 0 rfl ?_
  refine g_callV (n := 0) (av := []) (rest := []) (k := 4) X hf (fun h8 => (none, h8)) (fun _ q => m_X4_find q) (gdV tb_664 tb_665 tb_1654 tb_9 tb_666) rfl (by decide +kernel) rfl (by decide) rfl (by decide) (by decide) rfl (Nat.le_of_ble_eq_true rfl) dX4_useTape_35 (fun h8 hf => ?_)
  refine g_iconst (v := 0) X dX4_useTape_38 (by decide) ?_
  refine g_istore_n (lv' := [(0, tR a0), (1, tI 1), (2, tI 0)]) X dX4_useTape_39 (by decide) (in_pick [1, 2, 0] rfl) ?_
  exact w_X4_useTape_40 X FU a0 1 0 h8 hf
def f_X5_writesFathers  (a0 : Option Nat) (h : AH) : Option Int32 :=
  (gI 5 5 h a0).bind fun v1 =>
  if (v1 &&& 1) = 0 then
    some 0
  else
    some 1
set_option maxRecDepth 20000 in
theorem m_X5_writesFathers  {a0 : Option Nat} {h : AH} {w : Int32} (hf : f_X5_writesFathers a0 h = some w) : CT yX5_writesFathers (wU yX5_writesFathers cX5_writesFathers 1 (some .boolean)) (rmD 1 0 0) 0 0 [tR a0] h (some (tI w), h) := by
  refine CT.of (cc := cX5_writesFathers) (nL := 1) (ret := (some .boolean)) (by decide) (by simp [lg_sl, vOf_cat, wOf]) ?_
  intro K X
  refine g_locs (lv' := [(0, tR a0)]) (fun q hq => hq) ?_
  unfold f_X5_writesFathers at hf
  refine g_aload_n X dX5_writesFathers_0 0 rfl ?_
  refine g_getI X hf (T := TX5) rfl (by decide) (by decide) in_RX5 tb_83 rfl dX5_writesFathers_1 (fun v1 hf => ?_)
  refine g_iconst (v := 1) X dX5_writesFathers_4 (by decide) ?_
  refine g_iand X dX5_writesFathers_5 ?_
  refine g_ifeq (tgt := 13) X hf dX5_writesFathers_6 (by decide) (fun hf => ?_) (fun hf => ?_)
  · refine g_iconst (v := 0) X dX5_writesFathers_13 (by decide) ?_
    exact g_zreturn X (zP hf) (by decide) (by decide) (by decide) dX5_writesFathers_14
  · refine g_iconst (v := 1) X dX5_writesFathers_9 (by decide) ?_
    refine g_goto (tgt := 14) X dX5_writesFathers_10 (by decide) ?_
    exact g_zreturn X (zP hf) (by decide) (by decide) (by decide) dX5_writesFathers_14
def f_X5_writesWards  (a0 : Option Nat) (h : AH) : Option Int32 :=
  (gI 5 5 h a0).bind fun v1 =>
  if (v1 &&& 2) = 0 then
    some 0
  else
    some 1
set_option maxRecDepth 20000 in
theorem m_X5_writesWards  {a0 : Option Nat} {h : AH} {w : Int32} (hf : f_X5_writesWards a0 h = some w) : CT yX5_writesWards (wU yX5_writesWards cX5_writesWards 1 (some .boolean)) (rmD 1 0 0) 0 0 [tR a0] h (some (tI w), h) := by
  refine CT.of (cc := cX5_writesWards) (nL := 1) (ret := (some .boolean)) (by decide) (by simp [lg_sl, vOf_cat, wOf]) ?_
  intro K X
  refine g_locs (lv' := [(0, tR a0)]) (fun q hq => hq) ?_
  unfold f_X5_writesWards at hf
  refine g_aload_n X dX5_writesWards_0 0 rfl ?_
  refine g_getI X hf (T := TX5) rfl (by decide) (by decide) in_RX5 tb_83 rfl dX5_writesWards_1 (fun v1 hf => ?_)
  refine g_iconst (v := 2) X dX5_writesWards_4 (by decide) ?_
  refine g_iand X dX5_writesWards_5 ?_
  refine g_ifeq (tgt := 13) X hf dX5_writesWards_6 (by decide) (fun hf => ?_) (fun hf => ?_)
  · refine g_iconst (v := 0) X dX5_writesWards_13 (by decide) ?_
    exact g_zreturn X (zP hf) (by decide) (by decide) (by decide) dX5_writesWards_14
  · refine g_iconst (v := 1) X dX5_writesWards_9 (by decide) ?_
    refine g_goto (tgt := 14) X dX5_writesWards_10 (by decide) ?_
    exact g_zreturn X (zP hf) (by decide) (by decide) (by decide) dX5_writesWards_14
def f_X5_kind  (a0 : Option Nat) (h : AH) : Option Int32 :=
  (ck 5 h a0 (f_X5_wasSent a0 h)).bind fun v1 =>
  if v1 = 0 then
    some (-1)
  else
    (gI 5 8 h a0).bind fun v2 =>
    if v2 = 0 then
      some 5
    else
      some 6
set_option maxRecDepth 20000 in
theorem m_X5_kind  {a0 : Option Nat} {h : AH} {w : Int32} (hf : f_X5_kind a0 h = some w) : CT yX5_kind (wU yX5_kind cX5_kind 1 (some .int)) (rmD 2 0 0) 0 0 [tR a0] h (some (tI w), h) := by
  refine CT.of (cc := cX5_kind) (nL := 1) (ret := (some .int)) (by decide) (by simp [lg_sl, vOf_cat, wOf]) ?_
  intro K X
  refine g_locs (lv' := [(0, tR a0)]) (fun q hq => hq) ?_
  unfold f_X5_kind at hf
  refine g_aload_n X dX5_kind_0 0 rfl ?_
  refine g_callV (n := 0) (av := []) (rest := []) (k := 5) X hf (fun v1 => (some (tI v1), h)) (fun _ q => m_X5_wasSent q) (gdV tb_1035 tb_504 tb_505 tb_4 tb_506) rfl (by decide +kernel) rfl (by decide) rfl (by decide) (by decide) rfl (Nat.le_of_ble_eq_true rfl) dX5_kind_1 (fun v1 hf => ?_)
  refine g_ifne (tgt := 9) X hf dX5_kind_4 (by decide) (fun hf => ?_) (fun hf => ?_)
  · refine g_iconst (v := (-1)) X dX5_kind_7 (by decide) ?_
    exact g_ireturn X (zP hf) (by decide) (by decide) dX5_kind_8
  · refine g_aload_n X dX5_kind_9 0 rfl ?_
    refine g_getI X hf (T := TX5) rfl (by decide) (by decide) in_RX5 tb_91 rfl dX5_kind_10 (fun v2 hf => ?_)
    refine g_ifeq (tgt := 21) X hf dX5_kind_13 (by decide) (fun hf => ?_) (fun hf => ?_)
    · refine g_iconst (v := 5) X dX5_kind_21 (by decide) ?_
      exact g_ireturn X (zP hf) (by decide) (by decide) dX5_kind_22
    · refine g_bipush (v := 6) X dX5_kind_16 (by decide) ?_
      refine g_goto (tgt := 22) X dX5_kind_18 (by decide) ?_
      exact g_ireturn X (zP hf) (by decide) (by decide) dX5_kind_22
def f_X6_init  (a0 : Nat) (h : AH) : Option AH :=
  (nA 100 16 (.int 0) 16 h).bind fun h1 =>
  (pR 6 2 h1 (some a0) (some h.1)).bind fun h2 =>
  (nA 100 16 (.int 0) 16 h2).bind fun h3 =>
  (pR 6 3 h3 (some a0) (some h2.1)).bind fun h4 =>
  (nA 100 16 (.int 0) 16 h4).bind fun h5 =>
  (pR 6 4 h5 (some a0) (some h4.1)).bind fun h6 =>
  (nA 100 5 (.int 0) 5 h6).bind fun h7 =>
  (pR 6 5 h7 (some a0) (some h6.1)).bind fun h8 =>
  some h8
set_option maxRecDepth 20000 in
theorem m_X6_init  {a0 : Nat} {h : AH} {w : AH} (hf : f_X6_init a0 h = some w) : CT yX6_init (wU yX6_init cX6_init 1 none) (rmD 1 4 53) 4 53 [tR (some a0)] h (none, w) := by
  refine CT.of (cc := cX6_init) (nL := 1) (ret := none) (by decide) (by simp [lg_sl, vOf_cat, wOf]) ?_
  intro K X
  refine g_locs (lv' := [(0, tR (some a0))]) (fun q hq => hq) ?_
  unfold f_X6_init at hf
  refine g_aload_n X dX6_init_0 0 rfl ?_
  refine g_objInit X tb_310 tb_27 tb_28 ⟨Nat.le_of_ble_eq_true rfl, Nat.le_of_ble_eq_true rfl⟩ dX6_init_1 ?_
  refine g_aload_n X dX6_init_4 0 rfl ?_
  refine g_bipush (v := 16) X dX6_init_5 (by decide) ?_
  refine g_newa (atype := .int) X hf (by decide) rfl rfl (fun _ _ q => q) tb_64 (Nat.le_of_ble_eq_true rfl) (by decide) dX6_init_7 (fun h1 hf => ?_)
  refine g_putFR X hf (T := TX6) rfl (by decide) (by decide) in_RX6 tyX6 tyX6_ok nmX6 tb_314 rfl rfl rfl rfl rfl dX6_init_9 (fun h2 hf => ?_)
  refine g_aload_n X dX6_init_12 0 rfl ?_
  refine g_bipush (v := 16) X dX6_init_13 (by decide) ?_
  refine g_newa (atype := .int) X hf (by decide) rfl rfl (fun _ _ q => q) tb_64 (Nat.le_of_ble_eq_true rfl) (by decide) dX6_init_15 (fun h3 hf => ?_)
  refine g_putFR X hf (T := TX6) rfl (by decide) (by decide) in_RX6 tyX6 tyX6_ok nmX6 tb_316 rfl rfl rfl rfl rfl dX6_init_17 (fun h4 hf => ?_)
  refine g_aload_n X dX6_init_20 0 rfl ?_
  refine g_bipush (v := 16) X dX6_init_21 (by decide) ?_
  refine g_newa (atype := .int) X hf (by decide) rfl rfl (fun _ _ q => q) tb_64 (Nat.le_of_ble_eq_true rfl) (by decide) dX6_init_23 (fun h5 hf => ?_)
  refine g_putFR X hf (T := TX6) rfl (by decide) (by decide) in_RX6 tyX6 tyX6_ok nmX6 tb_318 rfl rfl rfl rfl rfl dX6_init_25 (fun h6 hf => ?_)
  refine g_aload_n X dX6_init_28 0 rfl ?_
  refine g_iconst (v := 5) X dX6_init_29 (by decide) ?_
  refine g_newa (atype := .int) X hf (by decide) rfl rfl (fun _ _ q => q) tb_64 (Nat.le_of_ble_eq_true rfl) (by decide) dX6_init_30 (fun h7 hf => ?_)
  refine g_putFR X hf (T := TX6) rfl (by decide) (by decide) in_RX6 tyX6 tyX6_ok nmX6 tb_319 rfl rfl rfl rfl rfl dX6_init_32 (fun h8 hf => ?_)
  exact g_vreturn X (zV hf) (by decide) (by decide) dX6_init_35
def f_X6_addCast  (a0 : Option Nat) (a1 : Int32) (a2 : Int32) (h : AH) : Option AH :=
  (gI 6 1 h a0).bind fun v1 =>
  (pI 6 1 h a0 (v1 + 1)).bind fun h2 =>
  (gR 6 2 h2 a0).bind fun v3 =>
  (aI h2 v3 a1).bind fun v4 =>
  (sI h2 v3 a1 (v4 + 1)).bind fun h5 =>
  (gR 6 4 h5 a0).bind fun v6 =>
  (aI h5 v6 a1).bind fun v7 =>
  (sI h5 v6 a1 (v7 ||| (1 <<< (a2 &&& 31)))).bind fun h8 =>
  some h8
set_option maxRecDepth 20000 in
theorem m_X6_addCast  {a0 : Option Nat} {a1 : Int32} {a2 : Int32} {h : AH} {w : AH} (hf : f_X6_addCast a0 a1 a2 h = some w) : CT yX6_addCast (wU yX6_addCast cX6_addCast 3 none) (rmD 1 0 0) 0 0 [tR a0, tI a1, tI a2] h (none, w) := by
  refine CT.of (cc := cX6_addCast) (nL := 3) (ret := none) (by decide) (by simp [lg_sl, vOf_cat, wOf]) ?_
  intro K X
  refine g_locs (lv' := [(0, tR a0), (1, tI a1), (2, tI a2)]) (fun q hq => hq) ?_
  unfold f_X6_addCast at hf
  refine g_aload_n X dX6_addCast_0 0 rfl ?_
  refine g_dup X dX6_addCast_1 rfl ?_
  refine g_getI X hf (T := TX6) rfl (by decide) (by decide) in_RX6 tb_312 rfl dX6_addCast_2 (fun v1 hf => ?_)
  refine g_iconst (v := 1) X dX6_addCast_5 (by decide) ?_
  refine g_iadd X dX6_addCast_6 ?_
  refine g_putI X hf (T := TX6) rfl (by decide) (by decide) in_RX6 tyX6 tyX6_ok nmX6 tb_312 rfl rfl rfl dX6_addCast_7 (fun h2 hf => ?_)
  refine g_aload_n X dX6_addCast_10 0 rfl ?_
  refine g_getR X hf (T := TX6) rfl (by decide) (by decide) in_RX6 tb_314 rfl dX6_addCast_11 (fun v3 hf => ?_)
  refine g_iload_n X dX6_addCast_14 1 rfl ?_
  refine g_dup2 X dX6_addCast_15 rfl rfl ?_
  refine g_iaload X hf dX6_addCast_16 (fun v4 hf => ?_)
  refine g_iconst (v := 1) X dX6_addCast_17 (by decide) ?_
  refine g_iadd X dX6_addCast_18 ?_
  refine g_iastore X hf dX6_addCast_19 (fun h5 hf => ?_)
  refine g_aload_n X dX6_addCast_20 0 rfl ?_
  refine g_getR X hf (T := TX6) rfl (by decide) (by decide) in_RX6 tb_318 rfl dX6_addCast_21 (fun v6 hf => ?_)
  refine g_iload_n X dX6_addCast_24 1 rfl ?_
  refine g_dup2 X dX6_addCast_25 rfl rfl ?_
  refine g_iaload X hf dX6_addCast_26 (fun v7 hf => ?_)
  refine g_iconst (v := 1) X dX6_addCast_27 (by decide) ?_
  refine g_iload_n X dX6_addCast_28 2 rfl ?_
  refine g_ishl X dX6_addCast_29 ?_
  refine g_ior X dX6_addCast_30 ?_
  refine g_iastore X hf dX6_addCast_31 (fun h8 hf => ?_)
  exact g_vreturn X (zV hf) (by decide) (by decide) dX6_addCast_32
def b_X6_firstMan_31  (k4 : Option Nat → Int32 → Int32 → Option Int32) (h : AH) (x0 : Option Nat) (x2 : Int32) : Option Int32 :=
  k4 x0 x2 (x2 + 1)
set_option maxRecDepth 20000 in
theorem w_X6_firstMan_31 {K : KT} {w : Int32} {h : AH} {k4 : Option Nat → Int32 → Int32 → Option Int32}  (X : CX K cX6_firstMan RX6 TB (some .int) "firstMan" (rmD 1 0 0) 3 0 0) (hk4 : ∀ (x0 : Option Nat) (x1 : Int32) (x2 : Int32), k4 x0 x1 x2 = some w → GG K (some (tI w), h) 0 0 4 [(0, tR x0), (1, tI x1), (2, tI x2)] [] h) (x0 : Option Nat) (x2 : Int32) (hf : b_X6_firstMan_31 k4 h x0 x2 = some w) : GG K (some (tI w), h) 0 0 31 [(0, tR x0), (2, tI x2)] [] h := by
  unfold b_X6_firstMan_31 at hf
  refine g_iload_n X dX6_firstMan_31 1 rfl ?_
  refine g_istore_n (lv' := [(0, tR x0), (1, tI x2), (2, tI x2)]) X dX6_firstMan_32 (by decide) (in_pick [1, 0, 2] rfl) ?_
  refine g_iinc (v := (x2 + 1)) (lv' := [(0, tR x0), (1, tI x2), (2, tI (x2 + 1))]) X dX6_firstMan_33 2 rfl (by rfl) (by decide) (in_pick [1, 2, 0] rfl) ?_
  refine g_goto (tgt := 4) X dX6_firstMan_36 (by decide) ?_
  exact hk4 x0 x2 (x2 + 1) hf
def b_X6_firstMan_4   (h : AH) : Nat → Option Nat → Int32 → Int32 → Option Int32
  | 0 => fun _ _ _ => none
  | n + 1 => fun x0 x1 x2 =>
    (gI 6 0 h x0).bind fun v1 =>
    if x2 < v1 then
      if x1 < 0 then
        b_X6_firstMan_31 (b_X6_firstMan_4 h n) h x0 x2
      else
        (gR 6 2 h x0).bind fun v2 =>
        (aI h v2 x2).bind fun v3 =>
        (gR 6 2 h x0).bind fun v4 =>
        (aI h v4 x1).bind fun v5 =>
        if v5 < v3 then
          b_X6_firstMan_31 (b_X6_firstMan_4 h n) h x0 x2
        else
          b_X6_firstMan_4 h n x0 x1 (x2 + 1)
    else
      some x1
set_option maxRecDepth 20000 in
theorem w_X6_firstMan_4 {K : KT} {w : Int32} {h : AH}   (X : CX K cX6_firstMan RX6 TB (some .int) "firstMan" (rmD 1 0 0) 3 0 0)  : ∀ (n : Nat) (x0 : Option Nat) (x1 : Int32) (x2 : Int32), b_X6_firstMan_4 h n x0 x1 x2 = some w → GG K (some (tI w), h) 0 0 4 [(0, tR x0), (1, tI x1), (2, tI x2)] [] h := by
  intro n
  induction n with
  | zero =>
    intro x0 x1 x2 hf
    cases (show none = some w from hf)
  | succ n ih =>
    intro x0 x1 x2 hf
    rw [b_X6_firstMan_4] at hf
    refine g_iload_n X dX6_firstMan_4 2 rfl ?_
    refine g_aload_n X dX6_firstMan_5 0 rfl ?_
    refine g_getI X hf (T := TX6) rfl (by decide) (by decide) in_RX6 tb_311 rfl dX6_firstMan_6 (fun v1 hf => ?_)
    refine g_icmpge (tgt := 39) X hf dX6_firstMan_9 (by decide) (fun hf => ?_) (fun hf => ?_)
    · refine g_iload_n X dX6_firstMan_12 1 rfl ?_
      refine g_iflt (tgt := 31) X hf dX6_firstMan_13 (by decide) (fun hf => ?_) (fun hf => ?_)
      · refine g_locs (lv' := [(0, tR x0), (2, tI x2)]) (in_pick [0, 2] rfl) ?_
        exact w_X6_firstMan_31 X ih x0 x2 hf
      · refine g_aload_n X dX6_firstMan_16 0 rfl ?_
        refine g_getR X hf (T := TX6) rfl (by decide) (by decide) in_RX6 tb_314 rfl dX6_firstMan_17 (fun v2 hf => ?_)
        refine g_iload_n X dX6_firstMan_20 2 rfl ?_
        refine g_iaload X hf dX6_firstMan_21 (fun v3 hf => ?_)
        refine g_aload_n X dX6_firstMan_22 0 rfl ?_
        refine g_getR X hf (T := TX6) rfl (by decide) (by decide) in_RX6 tb_314 rfl dX6_firstMan_23 (fun v4 hf => ?_)
        refine g_iload_n X dX6_firstMan_26 1 rfl ?_
        refine g_iaload X hf dX6_firstMan_27 (fun v5 hf => ?_)
        refine g_icmple (tgt := 33) X hf dX6_firstMan_28 (by decide) (fun hf => ?_) (fun hf => ?_)
        · refine g_locs (lv' := [(0, tR x0), (2, tI x2)]) (in_pick [0, 2] rfl) ?_
          exact w_X6_firstMan_31 X ih x0 x2 hf
        · refine g_iinc (v := (x2 + 1)) (lv' := [(0, tR x0), (1, tI x1), (2, tI (x2 + 1))]) X dX6_firstMan_33 2 rfl (by rfl) (by decide) (in_pick [1, 2, 0] rfl) ?_
          refine g_goto (tgt := 4) X dX6_firstMan_36 (by decide) ?_
          exact ih x0 x1 (x2 + 1) hf
    · refine g_iload_n X dX6_firstMan_39 1 rfl ?_
      exact g_ireturn X (zP hf) (by decide) (by decide) dX6_firstMan_40
def f_X6_firstMan  (a0 : Option Nat) (h : AH) : Option Int32 :=
  b_X6_firstMan_4 h FU a0 (-1) 0
set_option maxRecDepth 20000 in
theorem m_X6_firstMan  {a0 : Option Nat} {h : AH} {w : Int32} (hf : f_X6_firstMan a0 h = some w) : CT yX6_firstMan (wU yX6_firstMan cX6_firstMan 3 (some .int)) (rmD 1 0 0) 0 0 [tR a0] h (some (tI w), h) := by
  refine CT.of (cc := cX6_firstMan) (nL := 3) (ret := (some .int)) (by decide) (by simp [lg_sl, vOf_cat, wOf]) ?_
  intro K X
  refine g_locs (lv' := [(0, tR a0)]) (fun q hq => hq) ?_
  unfold f_X6_firstMan at hf
  refine g_iconst (v := (-1)) X dX6_firstMan_0 (by decide) ?_
  refine g_istore_n (lv' := [(0, tR a0), (1, tI (-1))]) X dX6_firstMan_1 (by decide) (in_pick [1, 0] rfl) ?_
  refine g_iconst (v := 0) X dX6_firstMan_2 (by decide) ?_
  refine g_istore_n (lv' := [(0, tR a0), (1, tI (-1)), (2, tI 0)]) X dX6_firstMan_3 (by decide) (in_pick [1, 2, 0] rfl) ?_
  exact w_X6_firstMan_4 X FU a0 (-1) 0 hf
def f_X6_leastOf  (a0 : Option Nat) (a1 : Int32) (h : AH) : Option Int32 :=
  if a1 < 0 then
    some 0
  else
    (gR 6 2 h a0).bind fun v1 =>
    (aI h v1 a1).bind fun v2 =>
    some v2
set_option maxRecDepth 20000 in
theorem m_X6_leastOf  {a0 : Option Nat} {a1 : Int32} {h : AH} {w : Int32} (hf : f_X6_leastOf a0 a1 h = some w) : CT yX6_leastOf (wU yX6_leastOf cX6_leastOf 2 (some .int)) (rmD 1 0 0) 0 0 [tR a0, tI a1] h (some (tI w), h) := by
  refine CT.of (cc := cX6_leastOf) (nL := 2) (ret := (some .int)) (by decide) (by simp [lg_sl, vOf_cat, wOf]) ?_
  intro K X
  refine g_locs (lv' := [(0, tR a0), (1, tI a1)]) (fun q hq => hq) ?_
  unfold f_X6_leastOf at hf
  refine g_iload_n X dX6_leastOf_0 1 rfl ?_
  refine g_ifge (tgt := 8) X hf dX6_leastOf_1 (by decide) (fun hf => ?_) (fun hf => ?_)
  · refine g_iconst (v := 0) X dX6_leastOf_4 (by decide) ?_
    refine g_goto (tgt := 14) X dX6_leastOf_5 (by decide) ?_
    exact g_ireturn X (zP hf) (by decide) (by decide) dX6_leastOf_14
  · refine g_aload_n X dX6_leastOf_8 0 rfl ?_
    refine g_getR X hf (T := TX6) rfl (by decide) (by decide) in_RX6 tb_314 rfl dX6_leastOf_9 (fun v1 hf => ?_)
    refine g_iload_n X dX6_leastOf_12 1 rfl ?_
    refine g_iaload X hf dX6_leastOf_13 (fun v2 hf => ?_)
    exact g_ireturn X (zP hf) (by decide) (by decide) dX6_leastOf_14
def b_X6_secondTo_4   (h : AH) : Nat → Option Nat → Int32 → Int32 → Int32 → Option Int32
  | 0 => fun _ _ _ _ => none
  | n + 1 => fun x0 x1 x2 x3 =>
    (gI 6 0 h x0).bind fun v1 =>
    if x3 < v1 then
      if x3 = x1 then
        b_X6_secondTo_4 h n x0 x1 x2 (x3 + 1)
      else
        (gR 6 2 h x0).bind fun v2 =>
        (aI h v2 x3).bind fun v3 =>
        if x2 < v3 then
          (gR 6 2 h x0).bind fun v4 =>
          (aI h v4 x3).bind fun v5 =>
          b_X6_secondTo_4 h n x0 x1 v5 (x3 + 1)
        else
          b_X6_secondTo_4 h n x0 x1 x2 (x3 + 1)
    else
      some x2
set_option maxRecDepth 20000 in
theorem w_X6_secondTo_4 {K : KT} {w : Int32} {h : AH}   (X : CX K cX6_secondTo RX6 TB (some .int) "secondTo" (rmD 1 0 0) 4 0 0)  : ∀ (n : Nat) (x0 : Option Nat) (x1 : Int32) (x2 : Int32) (x3 : Int32), b_X6_secondTo_4 h n x0 x1 x2 x3 = some w → GG K (some (tI w), h) 0 0 4 [(0, tR x0), (1, tI x1), (2, tI x2), (3, tI x3)] [] h := by
  intro n
  induction n with
  | zero =>
    intro x0 x1 x2 x3 hf
    cases (show none = some w from hf)
  | succ n ih =>
    intro x0 x1 x2 x3 hf
    rw [b_X6_secondTo_4] at hf
    refine g_iload_n X dX6_secondTo_4 3 rfl ?_
    refine g_aload_n X dX6_secondTo_5 0 rfl ?_
    refine g_getI X hf (T := TX6) rfl (by decide) (by decide) in_RX6 tb_311 rfl dX6_secondTo_6 (fun v1 hf => ?_)
    refine g_icmpge (tgt := 40) X hf dX6_secondTo_9 (by decide) (fun hf => ?_) (fun hf => ?_)
    · refine g_iload_n X dX6_secondTo_12 3 rfl ?_
      refine g_iload_n X dX6_secondTo_13 1 rfl ?_
      refine g_icmpeq (tgt := 34) X hf dX6_secondTo_14 (by decide) (fun hf => ?_) (fun hf => ?_)
      · refine g_iinc (v := (x3 + 1)) (lv' := [(0, tR x0), (1, tI x1), (2, tI x2), (3, tI (x3 + 1))]) X dX6_secondTo_34 3 rfl (by rfl) (by decide) (in_pick [1, 2, 3, 0] rfl) ?_
        refine g_goto (tgt := 4) X dX6_secondTo_37 (by decide) ?_
        exact ih x0 x1 x2 (x3 + 1) hf
      · refine g_aload_n X dX6_secondTo_17 0 rfl ?_
        refine g_getR X hf (T := TX6) rfl (by decide) (by decide) in_RX6 tb_314 rfl dX6_secondTo_18 (fun v2 hf => ?_)
        refine g_iload_n X dX6_secondTo_21 3 rfl ?_
        refine g_iaload X hf dX6_secondTo_22 (fun v3 hf => ?_)
        refine g_iload_n X dX6_secondTo_23 2 rfl ?_
        refine g_icmple (tgt := 34) X hf dX6_secondTo_24 (by decide) (fun hf => ?_) (fun hf => ?_)
        · refine g_aload_n X dX6_secondTo_27 0 rfl ?_
          refine g_getR X hf (T := TX6) rfl (by decide) (by decide) in_RX6 tb_314 rfl dX6_secondTo_28 (fun v4 hf => ?_)
          refine g_iload_n X dX6_secondTo_31 3 rfl ?_
          refine g_iaload X hf dX6_secondTo_32 (fun v5 hf => ?_)
          refine g_istore_n (lv' := [(0, tR x0), (1, tI x1), (2, tI v5), (3, tI x3)]) X dX6_secondTo_33 (by decide) (in_pick [1, 2, 0, 3] rfl) ?_
          refine g_iinc (v := (x3 + 1)) (lv' := [(0, tR x0), (1, tI x1), (2, tI v5), (3, tI (x3 + 1))]) X dX6_secondTo_34 3 rfl (by rfl) (by decide) (in_pick [1, 2, 3, 0] rfl) ?_
          refine g_goto (tgt := 4) X dX6_secondTo_37 (by decide) ?_
          exact ih x0 x1 v5 (x3 + 1) hf
        · refine g_iinc (v := (x3 + 1)) (lv' := [(0, tR x0), (1, tI x1), (2, tI x2), (3, tI (x3 + 1))]) X dX6_secondTo_34 3 rfl (by rfl) (by decide) (in_pick [1, 2, 3, 0] rfl) ?_
          refine g_goto (tgt := 4) X dX6_secondTo_37 (by decide) ?_
          exact ih x0 x1 x2 (x3 + 1) hf
    · refine g_iload_n X dX6_secondTo_40 2 rfl ?_
      exact g_ireturn X (zP hf) (by decide) (by decide) dX6_secondTo_41
def f_X6_secondTo  (a0 : Option Nat) (a1 : Int32) (h : AH) : Option Int32 :=
  b_X6_secondTo_4 h FU a0 a1 0 0
set_option maxRecDepth 20000 in
theorem m_X6_secondTo  {a0 : Option Nat} {a1 : Int32} {h : AH} {w : Int32} (hf : f_X6_secondTo a0 a1 h = some w) : CT yX6_secondTo (wU yX6_secondTo cX6_secondTo 4 (some .int)) (rmD 1 0 0) 0 0 [tR a0, tI a1] h (some (tI w), h) := by
  refine CT.of (cc := cX6_secondTo) (nL := 4) (ret := (some .int)) (by decide) (by simp [lg_sl, vOf_cat, wOf]) ?_
  intro K X
  refine g_locs (lv' := [(0, tR a0), (1, tI a1)]) (fun q hq => hq) ?_
  unfold f_X6_secondTo at hf
  refine g_iconst (v := 0) X dX6_secondTo_0 (by decide) ?_
  refine g_istore_n (lv' := [(0, tR a0), (1, tI a1), (2, tI 0)]) X dX6_secondTo_1 (by decide) (in_pick [1, 2, 0] rfl) ?_
  refine g_iconst (v := 0) X dX6_secondTo_2 (by decide) ?_
  refine g_istore_n (lv' := [(0, tR a0), (1, tI a1), (2, tI 0), (3, tI 0)]) X dX6_secondTo_3 (by decide) (in_pick [1, 2, 3, 0] rfl) ?_
  exact w_X6_secondTo_4 X FU a0 a1 0 0 hf
def f_X6_tribesFor  (a0 : Option Nat) (a1 : Int32) (h : AH) : Option Int32 :=
  if a1 < 0 then
    some 0
  else
    (gR 6 4 h a0).bind fun v1 =>
    (aI h v1 a1).bind fun v2 =>
    (f_J6_bitCount_0f7a4 v2 h).bind fun v3 =>
    some v3
set_option maxRecDepth 20000 in
theorem m_X6_tribesFor  {a0 : Option Nat} {a1 : Int32} {h : AH} {w : Int32} (hf : f_X6_tribesFor a0 a1 h = some w) : CT yX6_tribesFor (wU yX6_tribesFor cX6_tribesFor 2 (some .int)) (rmD 2 0 0) 0 0 [tR a0, tI a1] h (some (tI w), h) := by
  refine CT.of (cc := cX6_tribesFor) (nL := 2) (ret := (some .int)) (by decide) (by simp [lg_sl, vOf_cat, wOf]) ?_
  intro K X
  refine g_locs (lv' := [(0, tR a0), (1, tI a1)]) (fun q hq => hq) ?_
  unfold f_X6_tribesFor at hf
  refine g_iload_n X dX6_tribesFor_0 1 rfl ?_
  refine g_ifge (tgt := 8) X hf dX6_tribesFor_1 (by decide) (fun hf => ?_) (fun hf => ?_)
  · refine g_iconst (v := 0) X dX6_tribesFor_4 (by decide) ?_
    refine g_goto (tgt := 17) X dX6_tribesFor_5 (by decide) ?_
    exact g_ireturn X (zP hf) (by decide) (by decide) dX6_tribesFor_17
  · refine g_aload_n X dX6_tribesFor_8 0 rfl ?_
    refine g_getR X hf (T := TX6) rfl (by decide) (by decide) in_RX6 tb_318 rfl dX6_tribesFor_9 (fun v1 hf => ?_)
    refine g_iload_n X dX6_tribesFor_12 1 rfl ?_
    refine g_iaload X hf dX6_tribesFor_13 (fun v2 hf => ?_)
    refine g_callS (n := 1) (av := [tI v2]) (rest := []) X hf (fun v3 => (some (tI v3), h)) (fun _ q => m_J6_bitCount_0f7a4 q) (gdS tb_824 tb_612 tb_14 tb_613) rfl (by decide +kernel) rfl (by decide) (by decide) rfl (Nat.le_of_ble_eq_true rfl) dX6_tribesFor_14 (fun v3 hf => ?_)
    exact g_ireturn X (zP hf) (by decide) (by decide) dX6_tribesFor_17
def f_X6_whoGoes  (a0 : Option Nat) (a1 : Option Nat) (h : AH) : Option (Int32 × AH) :=
  (ck 6 h a0 (f_X6_firstMan a0 h)).bind fun v1 =>
  (ck 6 h a0 (f_X6_leastOf a0 v1 h)).bind fun v2 =>
  if 0 < v2 then
    (gI 6 1 h a0).bind fun v3 =>
    (gR 6 2 h a0).bind fun v4 =>
    (aI h v4 v1).bind fun v5 =>
    (ck 6 h a0 (f_X6_secondTo a0 v1 h)).bind fun v6 =>
    (ck 6 h a0 (f_X6_tribesFor a0 v1 h)).bind fun v7 =>
    (ck 3 h a1 (f_X3_isEnough a1 v3 v5 v6 v7 h)).bind fun p8 =>
    if p8.1 = 0 then
      some ((-3), p8.2)
    else
      some (v1, p8.2)
  else
    some ((-3), h)
set_option maxRecDepth 20000 in
theorem m_X6_whoGoes  {a0 : Option Nat} {a1 : Option Nat} {h : AH} {w : (Int32 × AH)} (hf : f_X6_whoGoes a0 a1 h = some w) : CT yX6_whoGoes (wU yX6_whoGoes cX6_whoGoes 3 (some .int)) (rmD 4 0 0) 0 0 [tR a0, tR a1] h (some (tI w.1), w.2) := by
  refine CT.of (cc := cX6_whoGoes) (nL := 3) (ret := (some .int)) (by decide) (by simp [lg_sl, vOf_cat, wOf]) ?_
  intro K X
  refine g_locs (lv' := [(0, tR a0), (1, tR a1)]) (fun q hq => hq) ?_
  unfold f_X6_whoGoes at hf
  refine g_aload_n X dX6_whoGoes_0 0 rfl ?_
  refine g_callV (n := 0) (av := []) (rest := []) (k := 6) X hf (fun v1 => (some (tI v1), h)) (fun _ q => m_X6_firstMan q) (gdV tb_829 tb_809 tb_810 tb_10 tb_811) rfl (by decide +kernel) rfl (by decide) rfl (by decide) (by decide) rfl (Nat.le_of_ble_eq_true rfl) dX6_whoGoes_1 (fun v1 hf => ?_)
  refine g_istore_n (lv' := [(0, tR a0), (1, tR a1), (2, tI v1)]) X dX6_whoGoes_4 (by decide) (in_pick [1, 2, 0] rfl) ?_
  refine g_aload_n X dX6_whoGoes_5 0 rfl ?_
  refine g_iload_n X dX6_whoGoes_6 2 rfl ?_
  refine g_callV (n := 1) (av := [tI v1]) (rest := []) (k := 6) X hf (fun v2 => (some (tI v2), h)) (fun _ q => m_X6_leastOf q) (gdV tb_830 tb_813 tb_814 tb_10 tb_815) rfl (by decide +kernel) rfl (by decide) rfl (by decide) (by decide) rfl (Nat.le_of_ble_eq_true rfl) dX6_whoGoes_7 (fun v2 hf => ?_)
  refine g_ifgt (tgt := 16) X hf dX6_whoGoes_10 (by decide) (fun hf => ?_) (fun hf => ?_)
  · refine g_aload_n X dX6_whoGoes_16 1 rfl ?_
    refine g_aload_n X dX6_whoGoes_17 0 rfl ?_
    refine g_getI X hf (T := TX6) rfl (by decide) (by decide) in_RX6 tb_312 rfl dX6_whoGoes_18 (fun v3 hf => ?_)
    refine g_aload_n X dX6_whoGoes_21 0 rfl ?_
    refine g_getR X hf (T := TX6) rfl (by decide) (by decide) in_RX6 tb_314 rfl dX6_whoGoes_22 (fun v4 hf => ?_)
    refine g_iload_n X dX6_whoGoes_25 2 rfl ?_
    refine g_iaload X hf dX6_whoGoes_26 (fun v5 hf => ?_)
    refine g_aload_n X dX6_whoGoes_27 0 rfl ?_
    refine g_iload_n X dX6_whoGoes_28 2 rfl ?_
    refine g_callV (n := 1) (av := [tI v1]) (rest := [tI v5, tI v3, tR a1]) (k := 6) X hf (fun v6 => (some (tI v6), h)) (fun _ q => m_X6_secondTo q) (gdV tb_831 tb_817 tb_818 tb_10 tb_819) rfl (by decide +kernel) rfl (by decide) rfl (by decide) (by decide) rfl (Nat.le_of_ble_eq_true rfl) dX6_whoGoes_29 (fun v6 hf => ?_)
    refine g_aload_n X dX6_whoGoes_32 0 rfl ?_
    refine g_iload_n X dX6_whoGoes_33 2 rfl ?_
    refine g_callV (n := 1) (av := [tI v1]) (rest := [tI v6, tI v5, tI v3, tR a1]) (k := 6) X hf (fun v7 => (some (tI v7), h)) (fun _ q => m_X6_tribesFor q) (gdV tb_832 tb_821 tb_822 tb_10 tb_823) rfl (by decide +kernel) rfl (by decide) rfl (by decide) (by decide) rfl (Nat.le_of_ble_eq_true rfl) dX6_whoGoes_34 (fun v7 hf => ?_)
    refine g_callV (n := 4) (av := [tI v3, tI v5, tI v6, tI v7]) (rest := []) (k := 3) X hf (fun p8 => (some (tI p8.1), p8.2)) (fun _ q => m_X3_isEnough q) (gdV tb_833 tb_834 tb_835 tb_8 tb_836) rfl (by decide +kernel) rfl (by decide) rfl (by decide) (by decide) rfl (Nat.le_of_ble_eq_true rfl) dX6_whoGoes_37 (fun p8 hf => ?_)
    refine g_ifeq (tgt := 47) X hf dX6_whoGoes_40 (by decide) (fun hf => ?_) (fun hf => ?_)
    · refine g_bipush (v := (-3)) X dX6_whoGoes_47 (by decide) ?_
      exact g_ireturn X (zW hf) (by decide) (by decide) dX6_whoGoes_49
    · refine g_iload_n X dX6_whoGoes_43 2 rfl ?_
      refine g_goto (tgt := 49) X dX6_whoGoes_44 (by decide) ?_
      exact g_ireturn X (zW hf) (by decide) (by decide) dX6_whoGoes_49
  · refine g_bipush (v := (-3)) X dX6_whoGoes_13 (by decide) ?_
    exact g_ireturn X (zW hf) (by decide) (by decide) dX6_whoGoes_15
