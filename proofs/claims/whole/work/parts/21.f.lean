def b_X2_addMan_24    : Nat → Option Nat → Option Nat → Int32 → AH → Option (Int32 × AH)
  | 0 => fun _ _ _ _ => none
  | n + 1 => fun x0 x5 x6 h =>
    (gI 2 12 h x0).bind fun v1 =>
    if x6 < v1 then
      (gR 2 11 h x0).bind fun v2 =>
      (aR h v2 x6).bind fun v3 =>
      (gI 2 6 h x0).bind fun v4 =>
      (ck 2 h x0 (f_X2_mean x0 v3 x5 v4 h)).bind fun h5 =>
      b_X2_addMan_24 n x0 x5 (x6 + 1) h5
    else
      (gI 2 6 h x0).bind fun v6 =>
      (pI 2 6 h x0 (v6 + 1)).bind fun h7 =>
      (gI 2 6 h7 x0).bind fun v8 =>
      some ((v8 - 1), h7)
set_option maxRecDepth 20000 in
theorem w_X2_addMan_24 {K : KT} {w : (Int32 × AH)}   (X : CX K cX2_addMan RX2 TB (some .int) "addMan" (rmD 3 0 0) 7 0 0)  : ∀ (n : Nat) (x0 : Option Nat) (x5 : Option Nat) (x6 : Int32) (h : AH), b_X2_addMan_24 n x0 x5 x6 h = some w → GG K (some (tI w.1), w.2) 0 0 24 [(0, tR x0), (5, tR x5), (6, tI x6)] [] h := by
  intro n
  induction n with
  | zero =>
    intro x0 x5 x6 h hf
    cases (show none = some w from hf)
  | succ n ih =>
    intro x0 x5 x6 h hf
    rw [b_X2_addMan_24] at hf
    refine g_iload X dX2_addMan_24 2 rfl ?_
    refine g_aload_n X dX2_addMan_26 0 rfl ?_
    refine g_getI X hf (T := TX2) rfl (by decide) (by decide) in_RX2 tb_235 rfl dX2_addMan_27 (fun v1 hf => ?_)
    refine g_icmpge (tgt := 56) X hf dX2_addMan_30 (by decide) (fun hf => ?_) (fun hf => ?_)
    · refine g_aload_n X dX2_addMan_33 0 rfl ?_
      refine g_aload_n X dX2_addMan_34 0 rfl ?_
      refine g_getR X hf (T := TX2) rfl (by decide) (by decide) in_RX2 tb_233 rfl dX2_addMan_35 (fun v2 hf => ?_)
      refine g_iload X dX2_addMan_38 2 rfl ?_
      refine g_aaload X hf dX2_addMan_40 (fun v3 hf => ?_)
      refine g_aload X dX2_addMan_41 1 rfl ?_
      refine g_aload_n X dX2_addMan_43 0 rfl ?_
      refine g_getI X hf (T := TX2) rfl (by decide) (by decide) in_RX2 tb_223 rfl dX2_addMan_44 (fun v4 hf => ?_)
      refine g_callV (n := 3) (av := [tR v3, tR x5, tI v4]) (rest := []) (k := 2) X hf (fun h5 => (none, h5)) (fun _ q => m_X2_mean q) (gdV tb_445 tb_446 tb_1648 tb_2 tb_447) rfl (by decide +kernel) rfl (by decide) rfl (by decide) (by decide) rfl (Nat.le_of_ble_eq_true rfl) dX2_addMan_47 (fun h5 hf => ?_)
      refine g_iinc (v := (x6 + 1)) (lv' := [(0, tR x0), (5, tR x5), (6, tI (x6 + 1))]) X dX2_addMan_50 2 rfl (by rfl) (by decide) (in_pick [1, 2, 0] rfl) ?_
      refine g_goto (tgt := 24) X dX2_addMan_53 (by decide) ?_
      exact ih x0 x5 (x6 + 1) h5 hf
    · refine g_aload_n X dX2_addMan_56 0 rfl ?_
      refine g_dup X dX2_addMan_57 rfl ?_
      refine g_getI X hf (T := TX2) rfl (by decide) (by decide) in_RX2 tb_223 rfl dX2_addMan_58 (fun v6 hf => ?_)
      refine g_iconst (v := 1) X dX2_addMan_61 (by decide) ?_
      refine g_iadd X dX2_addMan_62 ?_
      refine g_putI X hf (T := TX2) rfl (by decide) (by decide) in_RX2 tyX2 tyX2_ok nmX2 tb_223 rfl rfl rfl dX2_addMan_63 (fun h7 hf => ?_)
      refine g_aload_n X dX2_addMan_66 0 rfl ?_
      refine g_getI X hf (T := TX2) rfl (by decide) (by decide) in_RX2 tb_223 rfl dX2_addMan_67 (fun v8 hf => ?_)
      refine g_iconst (v := 1) X dX2_addMan_70 (by decide) ?_
      refine g_isub X dX2_addMan_71 ?_
      exact g_ireturn X (zW hf) (by decide) (by decide) dX2_addMan_72
def f_X2_addMan  (a0 : Option Nat) (a1 : Int32) (a2 : Int32) (a3 : Int32) (a4 : Int32) (h : AH) : Option (Int32 × AH) :=
  (gR 2 5 h a0).bind fun v1 =>
  (gI 2 6 h a0).bind fun v2 =>
  (aR h v1 v2).bind fun v3 =>
  (ck 5 h v3 (f_X5_begin v3 a1 a2 a3 a4 h)).bind fun h4 =>
  b_X2_addMan_24 FU a0 v3 0 h4
set_option maxRecDepth 20000 in
theorem m_X2_addMan  {a0 : Option Nat} {a1 : Int32} {a2 : Int32} {a3 : Int32} {a4 : Int32} {h : AH} {w : (Int32 × AH)} (hf : f_X2_addMan a0 a1 a2 a3 a4 h = some w) : CT yX2_addMan (wU yX2_addMan cX2_addMan 7 (some .int)) (rmD 3 0 0) 0 0 [tR a0, tI a1, tI a2, tI a3, tI a4] h (some (tI w.1), w.2) := by
  refine CT.of (cc := cX2_addMan) (nL := 7) (ret := (some .int)) (by decide) (by simp [lg_sl, vOf_cat, wOf]) ?_
  intro K X
  refine g_locs (lv' := [(0, tR a0), (1, tI a1), (2, tI a2), (3, tI a3), (4, tI a4)]) (fun q hq => hq) ?_
  unfold f_X2_addMan at hf
  refine g_aload_n X dX2_addMan_0 0 rfl ?_
  refine g_getR X hf (T := TX2) rfl (by decide) (by decide) in_RX2 tb_221 rfl dX2_addMan_1 (fun v1 hf => ?_)
  refine g_aload_n X dX2_addMan_4 0 rfl ?_
  refine g_getI X hf (T := TX2) rfl (by decide) (by decide) in_RX2 tb_223 rfl dX2_addMan_5 (fun v2 hf => ?_)
  refine g_aaload X hf dX2_addMan_8 (fun v3 hf => ?_)
  refine g_astore (lv' := [(0, tR a0), (1, tI a1), (2, tI a2), (3, tI a3), (4, tI a4), (5, tR v3)]) X dX2_addMan_9 (by decide) (in_pick [1, 2, 3, 4, 5, 0] rfl) ?_
  refine g_aload X dX2_addMan_11 5 rfl ?_
  refine g_iload_n X dX2_addMan_13 1 rfl ?_
  refine g_iload_n X dX2_addMan_14 2 rfl ?_
  refine g_iload_n X dX2_addMan_15 3 rfl ?_
  refine g_iload X dX2_addMan_16 4 rfl ?_
  refine g_callV (n := 4) (av := [tI a1, tI a2, tI a3, tI a4]) (rest := []) (k := 5) X hf (fun h4 => (none, h4)) (fun _ q => m_X5_begin q) (gdV tb_441 tb_442 tb_443 tb_4 tb_444) rfl (by decide +kernel) rfl (by decide) rfl (by decide) (by decide) rfl (Nat.le_of_ble_eq_true rfl) dX2_addMan_18 (fun h4 hf => ?_)
  refine g_iconst (v := 0) X dX2_addMan_21 (by decide) ?_
  refine g_istore (lv' := [(0, tR a0), (1, tI a1), (2, tI a2), (3, tI a3), (4, tI a4), (5, tR v3), (6, tI 0)]) X dX2_addMan_22 (by decide) (in_pick [1, 2, 3, 4, 5, 6, 0] rfl) ?_
  refine g_locs (lv' := [(0, tR a0), (5, tR v3), (6, tI 0)]) (in_pick [0, 5, 6] rfl) ?_
  exact w_X2_addMan_24 X FU a0 v3 0 h4 hf
def b_X2_addSherd_20    : Nat → Option Nat → Option Nat → Int32 → AH → Option (Int32 × AH)
  | 0 => fun _ _ _ _ => none
  | n + 1 => fun x0 x1 x2 h =>
    (gI 2 6 h x0).bind fun v1 =>
    if x2 < v1 then
      (gR 2 5 h x0).bind fun v2 =>
      (aR h v2 x2).bind fun v3 =>
      (ck 2 h x0 (f_X2_mean x0 x1 v3 x2 h)).bind fun h4 =>
      b_X2_addSherd_20 n x0 x1 (x2 + 1) h4
    else
      (gI 2 12 h x0).bind fun v5 =>
      (pI 2 12 h x0 (v5 + 1)).bind fun h6 =>
      (gI 2 12 h6 x0).bind fun v7 =>
      some ((v7 - 1), h6)
set_option maxRecDepth 20000 in
theorem w_X2_addSherd_20 {K : KT} {w : (Int32 × AH)}   (X : CX K cX2_addSherd RX2 TB (some .int) "addSherd" (rmD 3 0 0) 3 0 0)  : ∀ (n : Nat) (x0 : Option Nat) (x1 : Option Nat) (x2 : Int32) (h : AH), b_X2_addSherd_20 n x0 x1 x2 h = some w → GG K (some (tI w.1), w.2) 0 0 20 [(0, tR x0), (1, tR x1), (2, tI x2)] [] h := by
  intro n
  induction n with
  | zero =>
    intro x0 x1 x2 h hf
    cases (show none = some w from hf)
  | succ n ih =>
    intro x0 x1 x2 h hf
    rw [b_X2_addSherd_20] at hf
    refine g_iload_n X dX2_addSherd_20 2 rfl ?_
    refine g_aload_n X dX2_addSherd_21 0 rfl ?_
    refine g_getI X hf (T := TX2) rfl (by decide) (by decide) in_RX2 tb_223 rfl dX2_addSherd_22 (fun v1 hf => ?_)
    refine g_icmpge (tgt := 46) X hf dX2_addSherd_25 (by decide) (fun hf => ?_) (fun hf => ?_)
    · refine g_aload_n X dX2_addSherd_28 0 rfl ?_
      refine g_aload_n X dX2_addSherd_29 1 rfl ?_
      refine g_aload_n X dX2_addSherd_30 0 rfl ?_
      refine g_getR X hf (T := TX2) rfl (by decide) (by decide) in_RX2 tb_221 rfl dX2_addSherd_31 (fun v2 hf => ?_)
      refine g_iload_n X dX2_addSherd_34 2 rfl ?_
      refine g_aaload X hf dX2_addSherd_35 (fun v3 hf => ?_)
      refine g_iload_n X dX2_addSherd_36 2 rfl ?_
      refine g_callV (n := 3) (av := [tR x1, tR v3, tI x2]) (rest := []) (k := 2) X hf (fun h4 => (none, h4)) (fun _ q => m_X2_mean q) (gdV tb_445 tb_446 tb_1648 tb_2 tb_447) rfl (by decide +kernel) rfl (by decide) rfl (by decide) (by decide) rfl (Nat.le_of_ble_eq_true rfl) dX2_addSherd_37 (fun h4 hf => ?_)
      refine g_iinc (v := (x2 + 1)) (lv' := [(0, tR x0), (1, tR x1), (2, tI (x2 + 1))]) X dX2_addSherd_40 2 rfl (by rfl) (by decide) (in_pick [1, 2, 0] rfl) ?_
      refine g_goto (tgt := 20) X dX2_addSherd_43 (by decide) ?_
      exact ih x0 x1 (x2 + 1) h4 hf
    · refine g_aload_n X dX2_addSherd_46 0 rfl ?_
      refine g_dup X dX2_addSherd_47 rfl ?_
      refine g_getI X hf (T := TX2) rfl (by decide) (by decide) in_RX2 tb_235 rfl dX2_addSherd_48 (fun v5 hf => ?_)
      refine g_iconst (v := 1) X dX2_addSherd_51 (by decide) ?_
      refine g_iadd X dX2_addSherd_52 ?_
      refine g_putI X hf (T := TX2) rfl (by decide) (by decide) in_RX2 tyX2 tyX2_ok nmX2 tb_235 rfl rfl rfl dX2_addSherd_53 (fun h6 hf => ?_)
      refine g_aload_n X dX2_addSherd_56 0 rfl ?_
      refine g_getI X hf (T := TX2) rfl (by decide) (by decide) in_RX2 tb_235 rfl dX2_addSherd_57 (fun v7 hf => ?_)
      refine g_iconst (v := 1) X dX2_addSherd_60 (by decide) ?_
      refine g_isub X dX2_addSherd_61 ?_
      exact g_ireturn X (zW hf) (by decide) (by decide) dX2_addSherd_62
def f_X2_addSherd  (a0 : Option Nat) (h : AH) : Option (Int32 × AH) :=
  (gR 2 11 h a0).bind fun v1 =>
  (gI 2 12 h a0).bind fun v2 =>
  (aR h v1 v2).bind fun v3 =>
  (gI 2 0 h a0).bind fun v4 =>
  (pI 8 7 h v3 v4).bind fun h5 =>
  b_X2_addSherd_20 FU a0 v3 0 h5
set_option maxRecDepth 20000 in
theorem m_X2_addSherd  {a0 : Option Nat} {h : AH} {w : (Int32 × AH)} (hf : f_X2_addSherd a0 h = some w) : CT yX2_addSherd (wU yX2_addSherd cX2_addSherd 3 (some .int)) (rmD 3 0 0) 0 0 [tR a0] h (some (tI w.1), w.2) := by
  refine CT.of (cc := cX2_addSherd) (nL := 3) (ret := (some .int)) (by decide) (by simp [lg_sl, vOf_cat, wOf]) ?_
  intro K X
  refine g_locs (lv' := [(0, tR a0)]) (fun q hq => hq) ?_
  unfold f_X2_addSherd at hf
  refine g_aload_n X dX2_addSherd_0 0 rfl ?_
  refine g_getR X hf (T := TX2) rfl (by decide) (by decide) in_RX2 tb_233 rfl dX2_addSherd_1 (fun v1 hf => ?_)
  refine g_aload_n X dX2_addSherd_4 0 rfl ?_
  refine g_getI X hf (T := TX2) rfl (by decide) (by decide) in_RX2 tb_235 rfl dX2_addSherd_5 (fun v2 hf => ?_)
  refine g_aaload X hf dX2_addSherd_8 (fun v3 hf => ?_)
  refine g_astore_n (lv' := [(0, tR a0), (1, tR v3)]) X dX2_addSherd_9 (by decide) (in_pick [1, 0] rfl) ?_
  refine g_aload_n X dX2_addSherd_10 1 rfl ?_
  refine g_aload_n X dX2_addSherd_11 0 rfl ?_
  refine g_getI X hf (T := TX2) rfl (by decide) (by decide) in_RX2 tb_211 rfl dX2_addSherd_12 (fun v4 hf => ?_)
  refine g_putI X hf (T := TX8) rfl (by decide) (by decide) in_RX8 tyX8 tyX8_ok nmX8 tb_166 rfl rfl rfl dX2_addSherd_15 (fun h5 hf => ?_)
  refine g_iconst (v := 0) X dX2_addSherd_18 (by decide) ?_
  refine g_istore_n (lv' := [(0, tR a0), (1, tR v3), (2, tI 0)]) X dX2_addSherd_19 (by decide) (in_pick [1, 2, 0] rfl) ?_
  exact w_X2_addSherd_20 X FU a0 v3 0 h5 hf
def b_X2_isWet_2   (h : AH) : Nat → Option Nat → Int32 → Int32 → Option Int32
  | 0 => fun _ _ _ => none
  | n + 1 => fun x0 x1 x2 =>
    (gI 2 2 h x0).bind fun v1 =>
    if x2 < v1 then
      (gR 2 1 h x0).bind fun v2 =>
      (aI h v2 x2).bind fun v3 =>
      if v3 = x1 then
        some 1
      else
        b_X2_isWet_2 h n x0 x1 (x2 + 1)
    else
      some 0
set_option maxRecDepth 20000 in
theorem w_X2_isWet_2 {K : KT} {w : Int32} {h : AH}   (X : CX K cX2_isWet RX2 TB (some .boolean) "isWet" (rmD 1 0 0) 3 0 0)  : ∀ (n : Nat) (x0 : Option Nat) (x1 : Int32) (x2 : Int32), b_X2_isWet_2 h n x0 x1 x2 = some w → GG K (some (tI w), h) 0 0 2 [(0, tR x0), (1, tI x1), (2, tI x2)] [] h := by
  intro n
  induction n with
  | zero =>
    intro x0 x1 x2 hf
    cases (show none = some w from hf)
  | succ n ih =>
    intro x0 x1 x2 hf
    rw [b_X2_isWet_2] at hf
    refine g_iload_n X dX2_isWet_2 2 rfl ?_
    refine g_aload_n X dX2_isWet_3 0 rfl ?_
    refine g_getI X hf (T := TX2) rfl (by decide) (by decide) in_RX2 tb_215 rfl dX2_isWet_4 (fun v1 hf => ?_)
    refine g_icmpge (tgt := 28) X hf dX2_isWet_7 (by decide) (fun hf => ?_) (fun hf => ?_)
    · refine g_aload_n X dX2_isWet_10 0 rfl ?_
      refine g_getR X hf (T := TX2) rfl (by decide) (by decide) in_RX2 tb_213 rfl dX2_isWet_11 (fun v2 hf => ?_)
      refine g_iload_n X dX2_isWet_14 2 rfl ?_
      refine g_iaload X hf dX2_isWet_15 (fun v3 hf => ?_)
      refine g_iload_n X dX2_isWet_16 1 rfl ?_
      refine g_icmpne (tgt := 22) X hf dX2_isWet_17 (by decide) (fun hf => ?_) (fun hf => ?_)
      · refine g_iconst (v := 1) X dX2_isWet_20 (by decide) ?_
        exact g_zreturn X (zP hf) (by decide) (by decide) (by decide) dX2_isWet_21
      · refine g_iinc (v := (x2 + 1)) (lv' := [(0, tR x0), (1, tI x1), (2, tI (x2 + 1))]) X dX2_isWet_22 2 rfl (by rfl) (by decide) (in_pick [1, 2, 0] rfl) ?_
        refine g_goto (tgt := 2) X dX2_isWet_25 (by decide) ?_
        exact ih x0 x1 (x2 + 1) hf
    · refine g_iconst (v := 0) X dX2_isWet_28 (by decide) ?_
      exact g_zreturn X (zP hf) (by decide) (by decide) (by decide) dX2_isWet_29
def f_X2_isWet  (a0 : Option Nat) (a1 : Int32) (h : AH) : Option Int32 :=
  b_X2_isWet_2 h FU a0 a1 0
set_option maxRecDepth 20000 in
theorem m_X2_isWet  {a0 : Option Nat} {a1 : Int32} {h : AH} {w : Int32} (hf : f_X2_isWet a0 a1 h = some w) : CT yX2_isWet (wU yX2_isWet cX2_isWet 3 (some .boolean)) (rmD 1 0 0) 0 0 [tR a0, tI a1] h (some (tI w), h) := by
  refine CT.of (cc := cX2_isWet) (nL := 3) (ret := (some .boolean)) (by decide) (by simp [lg_sl, vOf_cat, wOf]) ?_
  intro K X
  refine g_locs (lv' := [(0, tR a0), (1, tI a1)]) (fun q hq => hq) ?_
  unfold f_X2_isWet at hf
  refine g_iconst (v := 0) X dX2_isWet_0 (by decide) ?_
  refine g_istore_n (lv' := [(0, tR a0), (1, tI a1), (2, tI 0)]) X dX2_isWet_1 (by decide) (in_pick [1, 2, 0] rfl) ?_
  exact w_X2_isWet_2 X FU a0 a1 0 hf
def f_X5_clubBit  (a0 : Option Nat) (h : AH) : Option Int32 :=
  (gI 5 1 h a0).bind fun v1 =>
  if v1 < 0 then
    some 0
  else
    (gI 5 1 h a0).bind fun v2 =>
    some (1 <<< (v2 &&& 31))
set_option maxRecDepth 20000 in
theorem m_X5_clubBit  {a0 : Option Nat} {h : AH} {w : Int32} (hf : f_X5_clubBit a0 h = some w) : CT yX5_clubBit (wU yX5_clubBit cX5_clubBit 1 (some .int)) (rmD 1 0 0) 0 0 [tR a0] h (some (tI w), h) := by
  refine CT.of (cc := cX5_clubBit) (nL := 1) (ret := (some .int)) (by decide) (by simp [lg_sl, vOf_cat, wOf]) ?_
  intro K X
  refine g_locs (lv' := [(0, tR a0)]) (fun q hq => hq) ?_
  unfold f_X5_clubBit at hf
  refine g_aload_n X dX5_clubBit_0 0 rfl ?_
  refine g_getI X hf (T := TX5) rfl (by decide) (by decide) in_RX5 tb_72 rfl dX5_clubBit_1 (fun v1 hf => ?_)
  refine g_ifge (tgt := 11) X hf dX5_clubBit_4 (by decide) (fun hf => ?_) (fun hf => ?_)
  · refine g_iconst (v := 0) X dX5_clubBit_7 (by decide) ?_
    refine g_goto (tgt := 17) X dX5_clubBit_8 (by decide) ?_
    exact g_ireturn X (zP hf) (by decide) (by decide) dX5_clubBit_17
  · refine g_iconst (v := 1) X dX5_clubBit_11 (by decide) ?_
    refine g_aload_n X dX5_clubBit_12 0 rfl ?_
    refine g_getI X hf (T := TX5) rfl (by decide) (by decide) in_RX5 tb_72 rfl dX5_clubBit_13 (fun v2 hf => ?_)
    refine g_ishl X dX5_clubBit_16 ?_
    exact g_ireturn X (zP hf) (by decide) (by decide) dX5_clubBit_17
def b_X2_spread_123  (k77 : Option Nat → Option Nat → Int32 → Int32 → Int32 → Int32 → AH → Option (Int32 × AH)) (x0 : Option Nat) (x1 : Option Nat) (x2 : Int32) (x3 : Int32) (x4 : Int32) (x5 : Int32) (s0 : Int32) (h : AH) : Option (Int32 × AH) :=
  if s0 = 0 then
    k77 x0 x1 x2 x3 x4 (x5 + 1) h
  else
    (gR 10 2 h x1).bind fun v1 =>
    (aI h v1 x5).bind fun v2 =>
    if v2 < 0 then
      (gR 10 2 h x1).bind fun v3 =>
      (gI 2 0 h x0).bind fun v4 =>
      (sI h v3 x5 (v4 + 1)).bind fun h5 =>
      k77 x0 x1 x2 x3 1 (x5 + 1) h5
    else
      k77 x0 x1 x2 x3 x4 (x5 + 1) h
set_option maxRecDepth 20000 in
theorem w_X2_spread_123 {K : KT} {w : (Int32 × AH)} {k77 : Option Nat → Option Nat → Int32 → Int32 → Int32 → Int32 → AH → Option (Int32 × AH)}  (X : CX K cX2_spread RX2 TB (some .boolean) "spread" (rmD 2 0 0) 7 0 0) (hk77 : ∀ (x0 : Option Nat) (x1 : Option Nat) (x2 : Int32) (x3 : Int32) (x4 : Int32) (x5 : Int32) (h : AH), k77 x0 x1 x2 x3 x4 x5 h = some w → GG K (some (tI w.1), w.2) 0 0 77 [(0, tR x0), (1, tR x1), (2, tI x2), (3, tI x3), (4, tI x4), (5, tI x5)] [] h) (x0 : Option Nat) (x1 : Option Nat) (x2 : Int32) (x3 : Int32) (x4 : Int32) (x5 : Int32) (s0 : Int32) (h : AH) (hf : b_X2_spread_123 k77 x0 x1 x2 x3 x4 x5 s0 h = some w) : GG K (some (tI w.1), w.2) 0 0 123 [(0, tR x0), (1, tR x1), (2, tI x2), (3, tI x3), (4, tI x4), (5, tI x5)] [tI s0] h := by
  unfold b_X2_spread_123 at hf
  refine g_istore (lv' := [(0, tR x0), (1, tR x1), (2, tI x2), (3, tI x3), (4, tI x4), (5, tI x5), (6, tI s0)]) X dX2_spread_123 (by decide) (in_pick [1, 2, 3, 4, 5, 6, 0] rfl) ?_
  refine g_iload X dX2_spread_125 6 rfl ?_
  refine g_ifeq (tgt := 156) X hf dX2_spread_127 (by decide) (fun hf => ?_) (fun hf => ?_)
  · refine g_iinc (v := (x5 + 1)) (lv' := [(0, tR x0), (1, tR x1), (2, tI x2), (3, tI x3), (4, tI x4), (5, tI (x5 + 1)), (6, tI s0)]) X dX2_spread_156 5 rfl (by rfl) (by decide) (in_pick [1, 2, 3, 4, 5, 0, 6] rfl) ?_
    refine g_goto (tgt := 77) X dX2_spread_159 (by decide) ?_
    refine g_locs (lv' := [(0, tR x0), (1, tR x1), (2, tI x2), (3, tI x3), (4, tI x4), (5, tI (x5 + 1))]) (in_pick [0, 1, 2, 3, 4, 5] rfl) ?_
    exact hk77 x0 x1 x2 x3 x4 (x5 + 1) h hf
  · refine g_aload_n X dX2_spread_130 1 rfl ?_
    refine g_getR X hf (T := TX10) rfl (by decide) (by decide) in_RX10 tb_115 rfl dX2_spread_131 (fun v1 hf => ?_)
    refine g_iload X dX2_spread_134 5 rfl ?_
    refine g_iaload X hf dX2_spread_136 (fun v2 hf => ?_)
    refine g_ifge (tgt := 156) X hf dX2_spread_137 (by decide) (fun hf => ?_) (fun hf => ?_)
    · refine g_aload_n X dX2_spread_140 1 rfl ?_
      refine g_getR X hf (T := TX10) rfl (by decide) (by decide) in_RX10 tb_115 rfl dX2_spread_141 (fun v3 hf => ?_)
      refine g_iload X dX2_spread_144 5 rfl ?_
      refine g_aload_n X dX2_spread_146 0 rfl ?_
      refine g_getI X hf (T := TX2) rfl (by decide) (by decide) in_RX2 tb_211 rfl dX2_spread_147 (fun v4 hf => ?_)
      refine g_iconst (v := 1) X dX2_spread_150 (by decide) ?_
      refine g_iadd X dX2_spread_151 ?_
      refine g_iastore X hf dX2_spread_152 (fun h5 hf => ?_)
      refine g_iconst (v := 1) X dX2_spread_153 (by decide) ?_
      refine g_istore (lv' := [(0, tR x0), (1, tR x1), (2, tI x2), (3, tI x3), (4, tI 1), (5, tI x5), (6, tI s0)]) X dX2_spread_154 (by decide) (in_pick [1, 2, 3, 4, 0, 5, 6] rfl) ?_
      refine g_iinc (v := (x5 + 1)) (lv' := [(0, tR x0), (1, tR x1), (2, tI x2), (3, tI x3), (4, tI 1), (5, tI (x5 + 1)), (6, tI s0)]) X dX2_spread_156 5 rfl (by rfl) (by decide) (in_pick [1, 2, 3, 4, 5, 0, 6] rfl) ?_
      refine g_goto (tgt := 77) X dX2_spread_159 (by decide) ?_
      refine g_locs (lv' := [(0, tR x0), (1, tR x1), (2, tI x2), (3, tI x3), (4, tI 1), (5, tI (x5 + 1))]) (in_pick [0, 1, 2, 3, 4, 5] rfl) ?_
      exact hk77 x0 x1 x2 x3 1 (x5 + 1) h5 hf
    · refine g_iinc (v := (x5 + 1)) (lv' := [(0, tR x0), (1, tR x1), (2, tI x2), (3, tI x3), (4, tI x4), (5, tI (x5 + 1)), (6, tI s0)]) X dX2_spread_156 5 rfl (by rfl) (by decide) (in_pick [1, 2, 3, 4, 5, 0, 6] rfl) ?_
      refine g_goto (tgt := 77) X dX2_spread_159 (by decide) ?_
      refine g_locs (lv' := [(0, tR x0), (1, tR x1), (2, tI x2), (3, tI x3), (4, tI x4), (5, tI (x5 + 1))]) (in_pick [0, 1, 2, 3, 4, 5] rfl) ?_
      exact hk77 x0 x1 x2 x3 x4 (x5 + 1) h hf
def b_X2_spread_77    : Nat → Option Nat → Option Nat → Int32 → Int32 → Int32 → Int32 → AH → Option (Int32 × AH)
  | 0 => fun _ _ _ _ _ _ _ => none
  | n + 1 => fun x0 x1 x2 x3 x4 x5 h =>
    (gI 2 6 h x0).bind fun v1 =>
    if x5 < v1 then
      (gR 2 5 h x0).bind fun v2 =>
      (aR h v2 x5).bind fun v3 =>
      (gI 5 0 h v3).bind fun v4 =>
      if ((x2 >>> (v4 &&& 31)) &&& 1) = 0 then
        (gR 2 5 h x0).bind fun v5 =>
        (aR h v5 x5).bind fun v6 =>
        (ck 5 h v6 (f_X5_clubBit v6 h)).bind fun v7 =>
        if (x3 &&& v7) = 0 then
          b_X2_spread_123 (b_X2_spread_77 n) x0 x1 x2 x3 x4 x5 0 h
        else
          b_X2_spread_123 (b_X2_spread_77 n) x0 x1 x2 x3 x4 x5 1 h
      else
        b_X2_spread_123 (b_X2_spread_77 n) x0 x1 x2 x3 x4 x5 1 h
    else
      (rZ x4).bind fun vz => some (vz, h)
set_option maxRecDepth 20000 in
theorem w_X2_spread_77 {K : KT} {w : (Int32 × AH)}   (X : CX K cX2_spread RX2 TB (some .boolean) "spread" (rmD 2 0 0) 7 0 0)  : ∀ (n : Nat) (x0 : Option Nat) (x1 : Option Nat) (x2 : Int32) (x3 : Int32) (x4 : Int32) (x5 : Int32) (h : AH), b_X2_spread_77 n x0 x1 x2 x3 x4 x5 h = some w → GG K (some (tI w.1), w.2) 0 0 77 [(0, tR x0), (1, tR x1), (2, tI x2), (3, tI x3), (4, tI x4), (5, tI x5)] [] h := by
  intro n
  induction n with
  | zero =>
    intro x0 x1 x2 x3 x4 x5 h hf
    cases (show none = some w from hf)
  | succ n ih =>
    intro x0 x1 x2 x3 x4 x5 h hf
    rw [b_X2_spread_77] at hf
    refine g_iload X dX2_spread_77 5 rfl ?_
    refine g_aload_n X dX2_spread_79 0 rfl ?_
    refine g_getI X hf (T := TX2) rfl (by decide) (by decide) in_RX2 tb_223 rfl dX2_spread_80 (fun v1 hf => ?_)
    refine g_icmpge (tgt := 162) X hf dX2_spread_83 (by decide) (fun hf => ?_) (fun hf => ?_)
    · refine g_iload_n X dX2_spread_86 2 rfl ?_
      refine g_aload_n X dX2_spread_87 0 rfl ?_
      refine g_getR X hf (T := TX2) rfl (by decide) (by decide) in_RX2 tb_221 rfl dX2_spread_88 (fun v2 hf => ?_)
      refine g_iload X dX2_spread_91 5 rfl ?_
      refine g_aaload X hf dX2_spread_93 (fun v3 hf => ?_)
      refine g_getI X hf (T := TX5) rfl (by decide) (by decide) in_RX5 tb_70 rfl dX2_spread_94 (fun v4 hf => ?_)
      refine g_ishr X dX2_spread_97 ?_
      refine g_iconst (v := 1) X dX2_spread_98 (by decide) ?_
      refine g_iand X dX2_spread_99 ?_
      refine g_ifne (tgt := 118) X hf dX2_spread_100 (by decide) (fun hf => ?_) (fun hf => ?_)
      · refine g_iload_n X dX2_spread_103 3 rfl ?_
        refine g_aload_n X dX2_spread_104 0 rfl ?_
        refine g_getR X hf (T := TX2) rfl (by decide) (by decide) in_RX2 tb_221 rfl dX2_spread_105 (fun v5 hf => ?_)
        refine g_iload X dX2_spread_108 5 rfl ?_
        refine g_aaload X hf dX2_spread_110 (fun v6 hf => ?_)
        refine g_callV (n := 0) (av := []) (rest := [tI x3]) (k := 5) X hf (fun v7 => (some (tI v7), h)) (fun _ q => m_X5_clubBit q) (gdV tb_398 tb_399 tb_400 tb_4 tb_401) rfl (by decide +kernel) rfl (by decide) rfl (by decide) (by decide) rfl (Nat.le_of_ble_eq_true rfl) dX2_spread_111 (fun v7 hf => ?_)
        refine g_iand X dX2_spread_114 ?_
        refine g_ifeq (tgt := 122) X hf dX2_spread_115 (by decide) (fun hf => ?_) (fun hf => ?_)
        · refine g_iconst (v := 0) X dX2_spread_122 (by decide) ?_
          exact w_X2_spread_123 X ih x0 x1 x2 x3 x4 x5 0 h hf
        · refine g_iconst (v := 1) X dX2_spread_118 (by decide) ?_
          refine g_goto (tgt := 123) X dX2_spread_119 (by decide) ?_
          exact w_X2_spread_123 X ih x0 x1 x2 x3 x4 x5 1 h hf
      · refine g_iconst (v := 1) X dX2_spread_118 (by decide) ?_
        refine g_goto (tgt := 123) X dX2_spread_119 (by decide) ?_
        exact w_X2_spread_123 X ih x0 x1 x2 x3 x4 x5 1 h hf
    · refine g_iload X dX2_spread_162 4 rfl ?_
      obtain ⟨vz, hz1, hz2⟩ := Option.bind_eq_some_iff.mp hf
      cases hz2
      exact g_zreturn2 X hz1 (by decide) (by decide) dX2_spread_164
def b_X2_spread_71   (x0 : Option Nat) (x1 : Option Nat) (x2 : Int32) (x3 : Int32) (h : AH) : Option (Int32 × AH) :=
  b_X2_spread_77 FU x0 x1 x2 x3 0 0 h
set_option maxRecDepth 20000 in
theorem w_X2_spread_71 {K : KT} {w : (Int32 × AH)}   (X : CX K cX2_spread RX2 TB (some .boolean) "spread" (rmD 2 0 0) 7 0 0)  (x0 : Option Nat) (x1 : Option Nat) (x2 : Int32) (x3 : Int32) (h : AH) (hf : b_X2_spread_71 x0 x1 x2 x3 h = some w) : GG K (some (tI w.1), w.2) 0 0 71 [(0, tR x0), (1, tR x1), (2, tI x2), (3, tI x3)] [] h := by
  unfold b_X2_spread_71 at hf
  refine g_iconst (v := 0) X dX2_spread_71 (by decide) ?_
  refine g_istore (lv' := [(0, tR x0), (1, tR x1), (2, tI x2), (3, tI x3), (4, tI 0)]) X dX2_spread_72 (by decide) (in_pick [1, 2, 3, 4, 0] rfl) ?_
  refine g_iconst (v := 0) X dX2_spread_74 (by decide) ?_
  refine g_istore (lv' := [(0, tR x0), (1, tR x1), (2, tI x2), (3, tI x3), (4, tI 0), (5, tI 0)]) X dX2_spread_75 (by decide) (in_pick [1, 2, 3, 4, 5, 0] rfl) ?_
  exact w_X2_spread_77 X FU x0 x1 x2 x3 0 0 h hf
def b_X2_spread_7    : Nat → Option Nat → Option Nat → Int32 → Int32 → Int32 → AH → Option (Int32 × AH)
  | 0 => fun _ _ _ _ _ _ => none
  | n + 1 => fun x0 x1 x2 x3 x4 h =>
    (gI 2 6 h x0).bind fun v1 =>
    if x4 < v1 then
      (gR 10 2 h x1).bind fun v2 =>
      (aI h v2 x4).bind fun v3 =>
      if v3 < 0 then
        b_X2_spread_7 n x0 x1 x2 x3 (x4 + 1) h
      else
        (gR 2 5 h x0).bind fun v4 =>
        (aR h v4 x4).bind fun v5 =>
        (gI 5 0 h v5).bind fun v6 =>
        (gR 2 5 h x0).bind fun v7 =>
        (aR h v7 x4).bind fun v8 =>
        (ck 5 h v8 (f_X5_clubBit v8 h)).bind fun v9 =>
        b_X2_spread_7 n x0 x1 (x2 ||| (1 <<< (v6 &&& 31))) (x3 ||| v9) (x4 + 1) h
    else
      (gI 2 0 h x0).bind fun v10 =>
      if (iRem v10 3) = 0 then
        b_X2_spread_71 x0 x1 x2 x3 h
      else
        b_X2_spread_71 x0 x1 x2 0 h
set_option maxRecDepth 20000 in
theorem w_X2_spread_7 {K : KT} {w : (Int32 × AH)}   (X : CX K cX2_spread RX2 TB (some .boolean) "spread" (rmD 2 0 0) 7 0 0)  : ∀ (n : Nat) (x0 : Option Nat) (x1 : Option Nat) (x2 : Int32) (x3 : Int32) (x4 : Int32) (h : AH), b_X2_spread_7 n x0 x1 x2 x3 x4 h = some w → GG K (some (tI w.1), w.2) 0 0 7 [(0, tR x0), (1, tR x1), (2, tI x2), (3, tI x3), (4, tI x4)] [] h := by
  intro n
  induction n with
  | zero =>
    intro x0 x1 x2 x3 x4 h hf
    cases (show none = some w from hf)
  | succ n ih =>
    intro x0 x1 x2 x3 x4 h hf
    rw [b_X2_spread_7] at hf
    refine g_iload X dX2_spread_7 4 rfl ?_
    refine g_aload_n X dX2_spread_9 0 rfl ?_
    refine g_getI X hf (T := TX2) rfl (by decide) (by decide) in_RX2 tb_223 rfl dX2_spread_10 (fun v1 hf => ?_)
    refine g_icmpge (tgt := 60) X hf dX2_spread_13 (by decide) (fun hf => ?_) (fun hf => ?_)
    · refine g_aload_n X dX2_spread_16 1 rfl ?_
      refine g_getR X hf (T := TX10) rfl (by decide) (by decide) in_RX10 tb_115 rfl dX2_spread_17 (fun v2 hf => ?_)
      refine g_iload X dX2_spread_20 4 rfl ?_
      refine g_iaload X hf dX2_spread_22 (fun v3 hf => ?_)
      refine g_iflt (tgt := 54) X hf dX2_spread_23 (by decide) (fun hf => ?_) (fun hf => ?_)
      · refine g_iinc (v := (x4 + 1)) (lv' := [(0, tR x0), (1, tR x1), (2, tI x2), (3, tI x3), (4, tI (x4 + 1))]) X dX2_spread_54 4 rfl (by rfl) (by decide) (in_pick [1, 2, 3, 4, 0] rfl) ?_
        refine g_goto (tgt := 7) X dX2_spread_57 (by decide) ?_
        exact ih x0 x1 x2 x3 (x4 + 1) h hf
      · refine g_iload_n X dX2_spread_26 2 rfl ?_
        refine g_iconst (v := 1) X dX2_spread_27 (by decide) ?_
        refine g_aload_n X dX2_spread_28 0 rfl ?_
        refine g_getR X hf (T := TX2) rfl (by decide) (by decide) in_RX2 tb_221 rfl dX2_spread_29 (fun v4 hf => ?_)
        refine g_iload X dX2_spread_32 4 rfl ?_
        refine g_aaload X hf dX2_spread_34 (fun v5 hf => ?_)
        refine g_getI X hf (T := TX5) rfl (by decide) (by decide) in_RX5 tb_70 rfl dX2_spread_35 (fun v6 hf => ?_)
        refine g_ishl X dX2_spread_38 ?_
        refine g_ior X dX2_spread_39 ?_
        refine g_istore_n (lv' := [(0, tR x0), (1, tR x1), (2, tI (x2 ||| (1 <<< (v6 &&& 31)))), (3, tI x3), (4, tI x4)]) X dX2_spread_40 (by decide) (in_pick [1, 2, 0, 3, 4] rfl) ?_
        refine g_iload_n X dX2_spread_41 3 rfl ?_
        refine g_aload_n X dX2_spread_42 0 rfl ?_
        refine g_getR X hf (T := TX2) rfl (by decide) (by decide) in_RX2 tb_221 rfl dX2_spread_43 (fun v7 hf => ?_)
        refine g_iload X dX2_spread_46 4 rfl ?_
        refine g_aaload X hf dX2_spread_48 (fun v8 hf => ?_)
        refine g_callV (n := 0) (av := []) (rest := [tI x3]) (k := 5) X hf (fun v9 => (some (tI v9), h)) (fun _ q => m_X5_clubBit q) (gdV tb_398 tb_399 tb_400 tb_4 tb_401) rfl (by decide +kernel) rfl (by decide) rfl (by decide) (by decide) rfl (Nat.le_of_ble_eq_true rfl) dX2_spread_49 (fun v9 hf => ?_)
        refine g_ior X dX2_spread_52 ?_
        refine g_istore_n (lv' := [(0, tR x0), (1, tR x1), (2, tI (x2 ||| (1 <<< (v6 &&& 31)))), (3, tI (x3 ||| v9)), (4, tI x4)]) X dX2_spread_53 (by decide) (in_pick [1, 2, 3, 0, 4] rfl) ?_
        refine g_iinc (v := (x4 + 1)) (lv' := [(0, tR x0), (1, tR x1), (2, tI (x2 ||| (1 <<< (v6 &&& 31)))), (3, tI (x3 ||| v9)), (4, tI (x4 + 1))]) X dX2_spread_54 4 rfl (by rfl) (by decide) (in_pick [1, 2, 3, 4, 0] rfl) ?_
        refine g_goto (tgt := 7) X dX2_spread_57 (by decide) ?_
        exact ih x0 x1 (x2 ||| (1 <<< (v6 &&& 31))) (x3 ||| v9) (x4 + 1) h hf
    · refine g_aload_n X dX2_spread_60 0 rfl ?_
      refine g_getI X hf (T := TX2) rfl (by decide) (by decide) in_RX2 tb_211 rfl dX2_spread_61 (fun v10 hf => ?_)
      refine g_iconst (v := 3) X dX2_spread_64 (by decide) ?_
      refine g_iremc X dX2_spread_65 (by decide) ?_
      refine g_ifeq (tgt := 71) X hf dX2_spread_66 (by decide) (fun hf => ?_) (fun hf => ?_)
      · refine g_locs (lv' := [(0, tR x0), (1, tR x1), (2, tI x2), (3, tI x3)]) (in_pick [0, 1, 2, 3] rfl) ?_
        exact w_X2_spread_71 X x0 x1 x2 x3 h hf
      · refine g_iconst (v := 0) X dX2_spread_69 (by decide) ?_
        refine g_istore_n (lv' := [(0, tR x0), (1, tR x1), (2, tI x2), (3, tI 0), (4, tI x4)]) X dX2_spread_70 (by decide) (in_pick [1, 2, 3, 0, 4] rfl) ?_
        refine g_locs (lv' := [(0, tR x0), (1, tR x1), (2, tI x2), (3, tI 0)]) (in_pick [0, 1, 2, 3] rfl) ?_
        exact w_X2_spread_71 X x0 x1 x2 0 h hf
def f_X2_spread  (a0 : Option Nat) (a1 : Option Nat) (h : AH) : Option (Int32 × AH) :=
  b_X2_spread_7 FU a0 a1 0 0 0 h
set_option maxRecDepth 20000 in
theorem m_X2_spread  {a0 : Option Nat} {a1 : Option Nat} {h : AH} {w : (Int32 × AH)} (hf : f_X2_spread a0 a1 h = some w) : CT yX2_spread (wU yX2_spread cX2_spread 7 (some .boolean)) (rmD 2 0 0) 0 0 [tR a0, tR a1] h (some (tI w.1), w.2) := by
  refine CT.of (cc := cX2_spread) (nL := 7) (ret := (some .boolean)) (by decide) (by simp [lg_sl, vOf_cat, wOf]) ?_
  intro K X
  refine g_locs (lv' := [(0, tR a0), (1, tR a1)]) (fun q hq => hq) ?_
  unfold f_X2_spread at hf
  refine g_iconst (v := 0) X dX2_spread_0 (by decide) ?_
  refine g_istore_n (lv' := [(0, tR a0), (1, tR a1), (2, tI 0)]) X dX2_spread_1 (by decide) (in_pick [1, 2, 0] rfl) ?_
  refine g_iconst (v := 0) X dX2_spread_2 (by decide) ?_
  refine g_istore_n (lv' := [(0, tR a0), (1, tR a1), (2, tI 0), (3, tI 0)]) X dX2_spread_3 (by decide) (in_pick [1, 2, 3, 0] rfl) ?_
  refine g_iconst (v := 0) X dX2_spread_4 (by decide) ?_
  refine g_istore (lv' := [(0, tR a0), (1, tR a1), (2, tI 0), (3, tI 0), (4, tI 0)]) X dX2_spread_5 (by decide) (in_pick [1, 2, 3, 4, 0] rfl) ?_
  exact w_X2_spread_7 X FU a0 a1 0 0 0 h hf
def b_X2_passDay_4    : Nat → Option Nat → Int32 → Int32 → AH → Option (Int32 × AH)
  | 0 => fun _ _ _ _ => none
  | n + 1 => fun x0 x1 x2 h =>
    (gI 2 8 h x0).bind fun v1 =>
    if x2 < v1 then
      (gR 2 7 h x0).bind fun v2 =>
      (aR h v2 x2).bind fun v3 =>
      (ck 2 h x0 (f_X2_spread x0 v3 h)).bind fun p4 =>
      if p4.1 = 0 then
        b_X2_passDay_4 n x0 x1 (x2 + 1) p4.2
      else
        b_X2_passDay_4 n x0 1 (x2 + 1) p4.2
    else
      (gI 2 0 h x0).bind fun v5 =>
      (pI 2 0 h x0 (v5 + 1)).bind fun h6 =>
      (rZ x1).bind fun vz => some (vz, h6)
set_option maxRecDepth 20000 in
theorem w_X2_passDay_4 {K : KT} {w : (Int32 × AH)}   (X : CX K cX2_passDay RX2 TB (some .boolean) "passDay" (rmD 3 0 0) 3 0 0)  : ∀ (n : Nat) (x0 : Option Nat) (x1 : Int32) (x2 : Int32) (h : AH), b_X2_passDay_4 n x0 x1 x2 h = some w → GG K (some (tI w.1), w.2) 0 0 4 [(0, tR x0), (1, tI x1), (2, tI x2)] [] h := by
  intro n
  induction n with
  | zero =>
    intro x0 x1 x2 h hf
    cases (show none = some w from hf)
  | succ n ih =>
    intro x0 x1 x2 h hf
    rw [b_X2_passDay_4] at hf
    refine g_iload_n X dX2_passDay_4 2 rfl ?_
    refine g_aload_n X dX2_passDay_5 0 rfl ?_
    refine g_getI X hf (T := TX2) rfl (by decide) (by decide) in_RX2 tb_227 rfl dX2_passDay_6 (fun v1 hf => ?_)
    refine g_icmpge (tgt := 33) X hf dX2_passDay_9 (by decide) (fun hf => ?_) (fun hf => ?_)
    · refine g_aload_n X dX2_passDay_12 0 rfl ?_
      refine g_aload_n X dX2_passDay_13 0 rfl ?_
      refine g_getR X hf (T := TX2) rfl (by decide) (by decide) in_RX2 tb_225 rfl dX2_passDay_14 (fun v2 hf => ?_)
      refine g_iload_n X dX2_passDay_17 2 rfl ?_
      refine g_aaload X hf dX2_passDay_18 (fun v3 hf => ?_)
      refine g_callV (n := 1) (av := [tR v3]) (rest := []) (k := 2) X hf (fun p4 => (some (tI p4.1), p4.2)) (fun _ q => m_X2_spread q) (gdV tb_395 tb_396 tb_1647 tb_2 tb_397) rfl (by decide +kernel) rfl (by decide) rfl (by decide) (by decide) rfl (Nat.le_of_ble_eq_true rfl) dX2_passDay_19 (fun p4 hf => ?_)
      refine g_ifeq (tgt := 27) X hf dX2_passDay_22 (by decide) (fun hf => ?_) (fun hf => ?_)
      · refine g_iinc (v := (x2 + 1)) (lv' := [(0, tR x0), (1, tI x1), (2, tI (x2 + 1))]) X dX2_passDay_27 2 rfl (by rfl) (by decide) (in_pick [1, 2, 0] rfl) ?_
        refine g_goto (tgt := 4) X dX2_passDay_30 (by decide) ?_
        exact ih x0 x1 (x2 + 1) p4.2 hf
      · refine g_iconst (v := 1) X dX2_passDay_25 (by decide) ?_
        refine g_istore_n (lv' := [(0, tR x0), (1, tI 1), (2, tI x2)]) X dX2_passDay_26 (by decide) (in_pick [1, 0, 2] rfl) ?_
        refine g_iinc (v := (x2 + 1)) (lv' := [(0, tR x0), (1, tI 1), (2, tI (x2 + 1))]) X dX2_passDay_27 2 rfl (by rfl) (by decide) (in_pick [1, 2, 0] rfl) ?_
        refine g_goto (tgt := 4) X dX2_passDay_30 (by decide) ?_
        exact ih x0 1 (x2 + 1) p4.2 hf
    · refine g_aload_n X dX2_passDay_33 0 rfl ?_
      refine g_dup X dX2_passDay_34 rfl ?_
      refine g_getI X hf (T := TX2) rfl (by decide) (by decide) in_RX2 tb_211 rfl dX2_passDay_35 (fun v5 hf => ?_)
      refine g_iconst (v := 1) X dX2_passDay_38 (by decide) ?_
      refine g_iadd X dX2_passDay_39 ?_
      refine g_putI X hf (T := TX2) rfl (by decide) (by decide) in_RX2 tyX2 tyX2_ok nmX2 tb_211 rfl rfl rfl dX2_passDay_40 (fun h6 hf => ?_)
      refine g_iload_n X dX2_passDay_43 1 rfl ?_
      obtain ⟨vz, hz1, hz2⟩ := Option.bind_eq_some_iff.mp hf
      cases hz2
      exact g_zreturn2 X hz1 (by decide) (by decide) dX2_passDay_44
def f_X2_passDay  (a0 : Option Nat) (h : AH) : Option (Int32 × AH) :=
  b_X2_passDay_4 FU a0 0 0 h
set_option maxRecDepth 20000 in
theorem m_X2_passDay  {a0 : Option Nat} {h : AH} {w : (Int32 × AH)} (hf : f_X2_passDay a0 h = some w) : CT yX2_passDay (wU yX2_passDay cX2_passDay 3 (some .boolean)) (rmD 3 0 0) 0 0 [tR a0] h (some (tI w.1), w.2) := by
  refine CT.of (cc := cX2_passDay) (nL := 3) (ret := (some .boolean)) (by decide) (by simp [lg_sl, vOf_cat, wOf]) ?_
  intro K X
  refine g_locs (lv' := [(0, tR a0)]) (fun q hq => hq) ?_
  unfold f_X2_passDay at hf
  refine g_iconst (v := 0) X dX2_passDay_0 (by decide) ?_
  refine g_istore_n (lv' := [(0, tR a0), (1, tI 0)]) X dX2_passDay_1 (by decide) (in_pick [1, 0] rfl) ?_
  refine g_iconst (v := 0) X dX2_passDay_2 (by decide) ?_
  refine g_istore_n (lv' := [(0, tR a0), (1, tI 0), (2, tI 0)]) X dX2_passDay_3 (by decide) (in_pick [1, 2, 0] rfl) ?_
  exact w_X2_passDay_4 X FU a0 0 0 h hf
def b_X2_dreadOf_16   (h : AH) : Nat → Option Nat → Int32 → Int32 → Int32 → Int32 → Int32 → Option Int32
  | 0 => fun _ _ _ _ _ _ => none
  | n + 1 => fun x0 x1 x2 x3 x4 x5 =>
    (gI 2 8 h x0).bind fun v1 =>
    if x5 < v1 then
      (gR 2 7 h x0).bind fun v2 =>
      (aR h v2 x5).bind fun v3 =>
      (gI 10 0 h v3).bind fun v4 =>
      if v4 = x2 then
        (gR 10 2 h v3).bind fun v5 =>
        (aI h v5 x1).bind fun v6 =>
        if v6 < 0 then
          b_X2_dreadOf_16 h n x0 x1 x2 x3 x4 (x5 + 1)
        else
          (gR 10 2 h v3).bind fun v7 =>
          (aI h v7 x1).bind fun v8 =>
          if x3 < v8 then
            b_X2_dreadOf_16 h n x0 x1 x2 x3 x4 (x5 + 1)
          else
            (gI 10 1 h v3).bind fun v9 =>
            b_X2_dreadOf_16 h n x0 x1 x2 x3 (x4 + v9) (x5 + 1)
      else
        b_X2_dreadOf_16 h n x0 x1 x2 x3 x4 (x5 + 1)
    else
      some (mMax 0 (mMin 20 x4))
set_option maxRecDepth 20000 in
theorem w_X2_dreadOf_16 {K : KT} {w : Int32} {h : AH}   (X : CX K cX2_dreadOf RX2 TB (some .int) "dreadOf" (rmD 1 0 0) 7 0 0)  : ∀ (n : Nat) (x0 : Option Nat) (x1 : Int32) (x2 : Int32) (x3 : Int32) (x4 : Int32) (x5 : Int32), b_X2_dreadOf_16 h n x0 x1 x2 x3 x4 x5 = some w → GG K (some (tI w), h) 0 0 16 [(0, tR x0), (1, tI x1), (2, tI x2), (3, tI x3), (4, tI x4), (5, tI x5)] [] h := by
  intro n
  induction n with
  | zero =>
    intro x0 x1 x2 x3 x4 x5 hf
    cases (show none = some w from hf)
  | succ n ih =>
    intro x0 x1 x2 x3 x4 x5 hf
    rw [b_X2_dreadOf_16] at hf
    refine g_iload X dX2_dreadOf_16 5 rfl ?_
    refine g_aload_n X dX2_dreadOf_18 0 rfl ?_
    refine g_getI X hf (T := TX2) rfl (by decide) (by decide) in_RX2 tb_227 rfl dX2_dreadOf_19 (fun v1 hf => ?_)
    refine g_icmpge (tgt := 80) X hf dX2_dreadOf_22 (by decide) (fun hf => ?_) (fun hf => ?_)
    · refine g_aload_n X dX2_dreadOf_25 0 rfl ?_
      refine g_getR X hf (T := TX2) rfl (by decide) (by decide) in_RX2 tb_225 rfl dX2_dreadOf_26 (fun v2 hf => ?_)
      refine g_iload X dX2_dreadOf_29 5 rfl ?_
      refine g_aaload X hf dX2_dreadOf_31 (fun v3 hf => ?_)
      refine g_astore (lv' := [(0, tR x0), (1, tI x1), (2, tI x2), (3, tI x3), (4, tI x4), (5, tI x5), (6, tR v3)]) X dX2_dreadOf_32 (by decide) (in_pick [1, 2, 3, 4, 5, 6, 0] rfl) ?_
      refine g_aload X dX2_dreadOf_34 6 rfl ?_
      refine g_getI X hf (T := TX10) rfl (by decide) (by decide) in_RX10 tb_111 rfl dX2_dreadOf_36 (fun v4 hf => ?_)
      refine g_iload_n X dX2_dreadOf_39 2 rfl ?_
      refine g_icmpne (tgt := 74) X hf dX2_dreadOf_40 (by decide) (fun hf => ?_) (fun hf => ?_)
      · refine g_aload X dX2_dreadOf_43 6 rfl ?_
        refine g_getR X hf (T := TX10) rfl (by decide) (by decide) in_RX10 tb_115 rfl dX2_dreadOf_45 (fun v5 hf => ?_)
        refine g_iload_n X dX2_dreadOf_48 1 rfl ?_
        refine g_iaload X hf dX2_dreadOf_49 (fun v6 hf => ?_)
        refine g_iflt (tgt := 74) X hf dX2_dreadOf_50 (by decide) (fun hf => ?_) (fun hf => ?_)
        · refine g_iinc (v := (x5 + 1)) (lv' := [(0, tR x0), (1, tI x1), (2, tI x2), (3, tI x3), (4, tI x4), (5, tI (x5 + 1)), (6, tR v3)]) X dX2_dreadOf_74 5 rfl (by rfl) (by decide) (in_pick [1, 2, 3, 4, 5, 0, 6] rfl) ?_
          refine g_goto (tgt := 16) X dX2_dreadOf_77 (by decide) ?_
          refine g_locs (lv' := [(0, tR x0), (1, tI x1), (2, tI x2), (3, tI x3), (4, tI x4), (5, tI (x5 + 1))]) (in_pick [0, 1, 2, 3, 4, 5] rfl) ?_
          exact ih x0 x1 x2 x3 x4 (x5 + 1) hf
        · refine g_aload X dX2_dreadOf_53 6 rfl ?_
          refine g_getR X hf (T := TX10) rfl (by decide) (by decide) in_RX10 tb_115 rfl dX2_dreadOf_55 (fun v7 hf => ?_)
          refine g_iload_n X dX2_dreadOf_58 1 rfl ?_
          refine g_iaload X hf dX2_dreadOf_59 (fun v8 hf => ?_)
          refine g_iload_n X dX2_dreadOf_60 3 rfl ?_
          refine g_icmpgt (tgt := 74) X hf dX2_dreadOf_61 (by decide) (fun hf => ?_) (fun hf => ?_)
          · refine g_iinc (v := (x5 + 1)) (lv' := [(0, tR x0), (1, tI x1), (2, tI x2), (3, tI x3), (4, tI x4), (5, tI (x5 + 1)), (6, tR v3)]) X dX2_dreadOf_74 5 rfl (by rfl) (by decide) (in_pick [1, 2, 3, 4, 5, 0, 6] rfl) ?_
            refine g_goto (tgt := 16) X dX2_dreadOf_77 (by decide) ?_
            refine g_locs (lv' := [(0, tR x0), (1, tI x1), (2, tI x2), (3, tI x3), (4, tI x4), (5, tI (x5 + 1))]) (in_pick [0, 1, 2, 3, 4, 5] rfl) ?_
            exact ih x0 x1 x2 x3 x4 (x5 + 1) hf
          · refine g_iload X dX2_dreadOf_64 4 rfl ?_
            refine g_aload X dX2_dreadOf_66 6 rfl ?_
            refine g_getI X hf (T := TX10) rfl (by decide) (by decide) in_RX10 tb_113 rfl dX2_dreadOf_68 (fun v9 hf => ?_)
            refine g_iadd X dX2_dreadOf_71 ?_
            refine g_istore (lv' := [(0, tR x0), (1, tI x1), (2, tI x2), (3, tI x3), (4, tI (x4 + v9)), (5, tI x5), (6, tR v3)]) X dX2_dreadOf_72 (by decide) (in_pick [1, 2, 3, 4, 0, 5, 6] rfl) ?_
            refine g_iinc (v := (x5 + 1)) (lv' := [(0, tR x0), (1, tI x1), (2, tI x2), (3, tI x3), (4, tI (x4 + v9)), (5, tI (x5 + 1)), (6, tR v3)]) X dX2_dreadOf_74 5 rfl (by rfl) (by decide) (in_pick [1, 2, 3, 4, 5, 0, 6] rfl) ?_
            refine g_goto (tgt := 16) X dX2_dreadOf_77 (by decide) ?_
            refine g_locs (lv' := [(0, tR x0), (1, tI x1), (2, tI x2), (3, tI x3), (4, tI (x4 + v9)), (5, tI (x5 + 1))]) (in_pick [0, 1, 2, 3, 4, 5] rfl) ?_
            exact ih x0 x1 x2 x3 (x4 + v9) (x5 + 1) hf
      · refine g_iinc (v := (x5 + 1)) (lv' := [(0, tR x0), (1, tI x1), (2, tI x2), (3, tI x3), (4, tI x4), (5, tI (x5 + 1)), (6, tR v3)]) X dX2_dreadOf_74 5 rfl (by rfl) (by decide) (in_pick [1, 2, 3, 4, 5, 0, 6] rfl) ?_
        refine g_goto (tgt := 16) X dX2_dreadOf_77 (by decide) ?_
        refine g_locs (lv' := [(0, tR x0), (1, tI x1), (2, tI x2), (3, tI x3), (4, tI x4), (5, tI (x5 + 1))]) (in_pick [0, 1, 2, 3, 4, 5] rfl) ?_
        exact ih x0 x1 x2 x3 x4 (x5 + 1) hf
    · refine g_iconst (v := 0) X dX2_dreadOf_80 (by decide) ?_
      refine g_bipush (v := 20) X dX2_dreadOf_81 (by decide) ?_
      refine g_iload X dX2_dreadOf_83 4 rfl ?_
      refine g_mmin X tb_490 tb_451 tb_13 tb_452 ⟨Nat.le_of_ble_eq_true rfl, Nat.le_of_ble_eq_true rfl⟩ ⟨Nat.le_of_ble_eq_true rfl, Nat.le_of_ble_eq_true rfl⟩ dX2_dreadOf_85 ?_
      refine g_mmax X tb_491 tb_492 tb_13 tb_493 ⟨Nat.le_of_ble_eq_true rfl, Nat.le_of_ble_eq_true rfl⟩ ⟨Nat.le_of_ble_eq_true rfl, Nat.le_of_ble_eq_true rfl⟩ dX2_dreadOf_88 ?_
      exact g_ireturn X (zP hf) (by decide) (by decide) dX2_dreadOf_91
def f_X2_dreadOf  (a0 : Option Nat) (a1 : Int32) (a2 : Int32) (a3 : Int32) (h : AH) : Option Int32 :=
  (gR 2 5 h a0).bind fun v1 =>
  (aR h v1 a1).bind fun v2 =>
  (gR 5 9 h v2).bind fun v3 =>
  (aI h v3 a2).bind fun v4 =>
  b_X2_dreadOf_16 h FU a0 a1 a2 a3 v4 0
set_option maxRecDepth 20000 in
theorem m_X2_dreadOf  {a0 : Option Nat} {a1 : Int32} {a2 : Int32} {a3 : Int32} {h : AH} {w : Int32} (hf : f_X2_dreadOf a0 a1 a2 a3 h = some w) : CT yX2_dreadOf (wU yX2_dreadOf cX2_dreadOf 7 (some .int)) (rmD 1 0 0) 0 0 [tR a0, tI a1, tI a2, tI a3] h (some (tI w), h) := by
  refine CT.of (cc := cX2_dreadOf) (nL := 7) (ret := (some .int)) (by decide) (by simp [lg_sl, vOf_cat, wOf]) ?_
  intro K X
  refine g_locs (lv' := [(0, tR a0), (1, tI a1), (2, tI a2), (3, tI a3)]) (fun q hq => hq) ?_
  unfold f_X2_dreadOf at hf
  refine g_aload_n X dX2_dreadOf_0 0 rfl ?_
  refine g_getR X hf (T := TX2) rfl (by decide) (by decide) in_RX2 tb_221 rfl dX2_dreadOf_1 (fun v1 hf => ?_)
  refine g_iload_n X dX2_dreadOf_4 1 rfl ?_
  refine g_aaload X hf dX2_dreadOf_5 (fun v2 hf => ?_)
  refine g_getR X hf (T := TX5) rfl (by decide) (by decide) in_RX5 tb_95 rfl dX2_dreadOf_6 (fun v3 hf => ?_)
  refine g_iload_n X dX2_dreadOf_9 2 rfl ?_
  refine g_iaload X hf dX2_dreadOf_10 (fun v4 hf => ?_)
  refine g_istore (lv' := [(0, tR a0), (1, tI a1), (2, tI a2), (3, tI a3), (4, tI v4)]) X dX2_dreadOf_11 (by decide) (in_pick [1, 2, 3, 4, 0] rfl) ?_
  refine g_iconst (v := 0) X dX2_dreadOf_13 (by decide) ?_
  refine g_istore (lv' := [(0, tR a0), (1, tI a1), (2, tI a2), (3, tI a3), (4, tI v4), (5, tI 0)]) X dX2_dreadOf_14 (by decide) (in_pick [1, 2, 3, 4, 5, 0] rfl) ?_
  exact w_X2_dreadOf_16 X FU a0 a1 a2 a3 v4 0 hf
def b_X2_boundTo_7   (h : AH) : Nat → Option Nat → Int32 → Int32 → Int32 → Option Int32
  | 0 => fun _ _ _ _ => none
  | n + 1 => fun x0 x1 x2 x3 =>
    if x3 < 0 then
      some (-1)
    else
      (gR 2 9 h x0).bind fun v1 =>
      (aR h v1 x3).bind fun v2 =>
      (gI 1 0 h v2).bind fun v3 =>
      if v3 = x1 then
        (gI 1 2 h v2).bind fun v4 =>
        if x2 < v4 then
          b_X2_boundTo_7 h n x0 x1 x2 (x3 + (-1))
        else
          (gI 1 3 h v2).bind fun v5 =>
          if v5 < x2 then
            b_X2_boundTo_7 h n x0 x1 x2 (x3 + (-1))
          else
            (gI 1 1 h v2).bind fun v6 =>
            some v6
      else
        b_X2_boundTo_7 h n x0 x1 x2 (x3 + (-1))
set_option maxRecDepth 20000 in
theorem w_X2_boundTo_7 {K : KT} {w : Int32} {h : AH}   (X : CX K cX2_boundTo RX2 TB (some .int) "boundTo" (rmD 1 0 0) 5 0 0)  : ∀ (n : Nat) (x0 : Option Nat) (x1 : Int32) (x2 : Int32) (x3 : Int32), b_X2_boundTo_7 h n x0 x1 x2 x3 = some w → GG K (some (tI w), h) 0 0 7 [(0, tR x0), (1, tI x1), (2, tI x2), (3, tI x3)] [] h := by
  intro n
  induction n with
  | zero =>
    intro x0 x1 x2 x3 hf
    cases (show none = some w from hf)
  | succ n ih =>
    intro x0 x1 x2 x3 hf
    rw [b_X2_boundTo_7] at hf
    refine g_iload_n X dX2_boundTo_7 3 rfl ?_
    refine g_iflt (tgt := 58) X hf dX2_boundTo_8 (by decide) (fun hf => ?_) (fun hf => ?_)
    · refine g_iconst (v := (-1)) X dX2_boundTo_58 (by decide) ?_
      exact g_ireturn X (zP hf) (by decide) (by decide) dX2_boundTo_59
    · refine g_aload_n X dX2_boundTo_11 0 rfl ?_
      refine g_getR X hf (T := TX2) rfl (by decide) (by decide) in_RX2 tb_229 rfl dX2_boundTo_12 (fun v1 hf => ?_)
      refine g_iload_n X dX2_boundTo_15 3 rfl ?_
      refine g_aaload X hf dX2_boundTo_16 (fun v2 hf => ?_)
      refine g_astore (lv' := [(0, tR x0), (1, tI x1), (2, tI x2), (3, tI x3), (4, tR v2)]) X dX2_boundTo_17 (by decide) (in_pick [1, 2, 3, 4, 0] rfl) ?_
      refine g_aload X dX2_boundTo_19 4 rfl ?_
      refine g_getI X hf (T := TX1) rfl (by decide) (by decide) in_RX1 tb_125 rfl dX2_boundTo_21 (fun v3 hf => ?_)
      refine g_iload_n X dX2_boundTo_24 1 rfl ?_
      refine g_icmpne (tgt := 52) X hf dX2_boundTo_25 (by decide) (fun hf => ?_) (fun hf => ?_)
      · refine g_aload X dX2_boundTo_28 4 rfl ?_
        refine g_getI X hf (T := TX1) rfl (by decide) (by decide) in_RX1 tb_130 rfl dX2_boundTo_30 (fun v4 hf => ?_)
        refine g_iload_n X dX2_boundTo_33 2 rfl ?_
        refine g_icmpgt (tgt := 52) X hf dX2_boundTo_34 (by decide) (fun hf => ?_) (fun hf => ?_)
        · refine g_iinc (v := (x3 + (-1))) (lv' := [(0, tR x0), (1, tI x1), (2, tI x2), (3, tI (x3 + (-1))), (4, tR v2)]) X dX2_boundTo_52 3 rfl (by rfl) (by decide) (in_pick [1, 2, 3, 0, 4] rfl) ?_
          refine g_goto (tgt := 7) X dX2_boundTo_55 (by decide) ?_
          refine g_locs (lv' := [(0, tR x0), (1, tI x1), (2, tI x2), (3, tI (x3 + (-1)))]) (in_pick [0, 1, 2, 3] rfl) ?_
          exact ih x0 x1 x2 (x3 + (-1)) hf
        · refine g_iload_n X dX2_boundTo_37 2 rfl ?_
          refine g_aload X dX2_boundTo_38 4 rfl ?_
          refine g_getI X hf (T := TX1) rfl (by decide) (by decide) in_RX1 tb_132 rfl dX2_boundTo_40 (fun v5 hf => ?_)
          refine g_icmpgt (tgt := 52) X hf dX2_boundTo_43 (by decide) (fun hf => ?_) (fun hf => ?_)
          · refine g_iinc (v := (x3 + (-1))) (lv' := [(0, tR x0), (1, tI x1), (2, tI x2), (3, tI (x3 + (-1))), (4, tR v2)]) X dX2_boundTo_52 3 rfl (by rfl) (by decide) (in_pick [1, 2, 3, 0, 4] rfl) ?_
            refine g_goto (tgt := 7) X dX2_boundTo_55 (by decide) ?_
            refine g_locs (lv' := [(0, tR x0), (1, tI x1), (2, tI x2), (3, tI (x3 + (-1)))]) (in_pick [0, 1, 2, 3] rfl) ?_
            exact ih x0 x1 x2 (x3 + (-1)) hf
          · refine g_aload X dX2_boundTo_46 4 rfl ?_
            refine g_getI X hf (T := TX1) rfl (by decide) (by decide) in_RX1 tb_128 rfl dX2_boundTo_48 (fun v6 hf => ?_)
            exact g_ireturn X (zP hf) (by decide) (by decide) dX2_boundTo_51
      · refine g_iinc (v := (x3 + (-1))) (lv' := [(0, tR x0), (1, tI x1), (2, tI x2), (3, tI (x3 + (-1))), (4, tR v2)]) X dX2_boundTo_52 3 rfl (by rfl) (by decide) (in_pick [1, 2, 3, 0, 4] rfl) ?_
        refine g_goto (tgt := 7) X dX2_boundTo_55 (by decide) ?_
        refine g_locs (lv' := [(0, tR x0), (1, tI x1), (2, tI x2), (3, tI (x3 + (-1)))]) (in_pick [0, 1, 2, 3] rfl) ?_
        exact ih x0 x1 x2 (x3 + (-1)) hf
def f_X2_boundTo  (a0 : Option Nat) (a1 : Int32) (a2 : Int32) (h : AH) : Option Int32 :=
  (gI 2 10 h a0).bind fun v1 =>
  b_X2_boundTo_7 h FU a0 a1 a2 (v1 - 1)
set_option maxRecDepth 20000 in
theorem m_X2_boundTo  {a0 : Option Nat} {a1 : Int32} {a2 : Int32} {h : AH} {w : Int32} (hf : f_X2_boundTo a0 a1 a2 h = some w) : CT yX2_boundTo (wU yX2_boundTo cX2_boundTo 5 (some .int)) (rmD 1 0 0) 0 0 [tR a0, tI a1, tI a2] h (some (tI w), h) := by
  refine CT.of (cc := cX2_boundTo) (nL := 5) (ret := (some .int)) (by decide) (by simp [lg_sl, vOf_cat, wOf]) ?_
  intro K X
  refine g_locs (lv' := [(0, tR a0), (1, tI a1), (2, tI a2)]) (fun q hq => hq) ?_
  unfold f_X2_boundTo at hf
  refine g_aload_n X dX2_boundTo_0 0 rfl ?_
  refine g_getI X hf (T := TX2) rfl (by decide) (by decide) in_RX2 tb_231 rfl dX2_boundTo_1 (fun v1 hf => ?_)
  refine g_iconst (v := 1) X dX2_boundTo_4 (by decide) ?_
  refine g_isub X dX2_boundTo_5 ?_
  refine g_istore_n (lv' := [(0, tR a0), (1, tI a1), (2, tI a2), (3, tI (v1 - 1))]) X dX2_boundTo_6 (by decide) (in_pick [1, 2, 3, 0] rfl) ?_
  exact w_X2_boundTo_7 X FU a0 a1 a2 (v1 - 1) hf
def f_X5_wasSent  (a0 : Option Nat) (h : AH) : Option Int32 :=
  (gI 5 6 h a0).bind fun v1 =>
  if v1 < 0 then
    some 0
  else
    some 1
set_option maxRecDepth 20000 in
theorem m_X5_wasSent  {a0 : Option Nat} {h : AH} {w : Int32} (hf : f_X5_wasSent a0 h = some w) : CT yX5_wasSent (wU yX5_wasSent cX5_wasSent 1 (some .boolean)) (rmD 1 0 0) 0 0 [tR a0] h (some (tI w), h) := by
  refine CT.of (cc := cX5_wasSent) (nL := 1) (ret := (some .boolean)) (by decide) (by simp [lg_sl, vOf_cat, wOf]) ?_
  intro K X
  refine g_locs (lv' := [(0, tR a0)]) (fun q hq => hq) ?_
  unfold f_X5_wasSent at hf
  refine g_aload_n X dX5_wasSent_0 0 rfl ?_
  refine g_getI X hf (T := TX5) rfl (by decide) (by decide) in_RX5 tb_85 rfl dX5_wasSent_1 (fun v1 hf => ?_)
  refine g_iflt (tgt := 11) X hf dX5_wasSent_4 (by decide) (fun hf => ?_) (fun hf => ?_)
  · refine g_iconst (v := 0) X dX5_wasSent_11 (by decide) ?_
    exact g_zreturn X (zP hf) (by decide) (by decide) (by decide) dX5_wasSent_12
  · refine g_iconst (v := 1) X dX5_wasSent_7 (by decide) ?_
    refine g_goto (tgt := 12) X dX5_wasSent_8 (by decide) ?_
    exact g_zreturn X (zP hf) (by decide) (by decide) (by decide) dX5_wasSent_12
def f_X2_isSent  (a0 : Option Nat) (a1 : Int32) (a2 : Int32) (a3 : Int32) (h : AH) : Option Int32 :=
  (gR 2 5 h a0).bind fun v1 =>
  (aR h v1 a1).bind fun v2 =>
  if a1 = a3 then
    some 1
  else
    (ck 5 h v2 (f_X5_wasSent v2 h)).bind fun v3 =>
    if v3 = 0 then
      some 0
    else
      (gI 5 6 h v2).bind fun v4 =>
      if a2 < v4 then
        some 0
      else
        (gI 5 7 h v2).bind fun v5 =>
        if v5 < a2 then
          some 0
        else
          some 1
set_option maxRecDepth 20000 in
theorem m_X2_isSent  {a0 : Option Nat} {a1 : Int32} {a2 : Int32} {a3 : Int32} {h : AH} {w : Int32} (hf : f_X2_isSent a0 a1 a2 a3 h = some w) : CT yX2_isSent (wU yX2_isSent cX2_isSent 5 (some .boolean)) (rmD 2 0 0) 0 0 [tR a0, tI a1, tI a2, tI a3] h (some (tI w), h) := by
  refine CT.of (cc := cX2_isSent) (nL := 5) (ret := (some .boolean)) (by decide) (by simp [lg_sl, vOf_cat, wOf]) ?_
  intro K X
  refine g_locs (lv' := [(0, tR a0), (1, tI a1), (2, tI a2), (3, tI a3)]) (fun q hq => hq) ?_
  unfold f_X2_isSent at hf
  refine g_aload_n X dX2_isSent_0 0 rfl ?_
  refine g_getR X hf (T := TX2) rfl (by decide) (by decide) in_RX2 tb_221 rfl dX2_isSent_1 (fun v1 hf => ?_)
  refine g_iload_n X dX2_isSent_4 1 rfl ?_
  refine g_aaload X hf dX2_isSent_5 (fun v2 hf => ?_)
  refine g_astore (lv' := [(0, tR a0), (1, tI a1), (2, tI a2), (3, tI a3), (4, tR v2)]) X dX2_isSent_6 (by decide) (in_pick [1, 2, 3, 4, 0] rfl) ?_
  refine g_iload_n X dX2_isSent_8 1 rfl ?_
  refine g_iload_n X dX2_isSent_9 3 rfl ?_
  refine g_icmpeq (tgt := 39) X hf dX2_isSent_10 (by decide) (fun hf => ?_) (fun hf => ?_)
  · refine g_iconst (v := 1) X dX2_isSent_39 (by decide) ?_
    refine g_goto (tgt := 44) X dX2_isSent_40 (by decide) ?_
    exact g_zreturn X (zP hf) (by decide) (by decide) (by decide) dX2_isSent_44
  · refine g_aload X dX2_isSent_13 4 rfl ?_
    refine g_callV (n := 0) (av := []) (rest := []) (k := 5) X hf (fun v3 => (some (tI v3), h)) (fun _ q => m_X5_wasSent q) (gdV tb_541 tb_504 tb_505 tb_4 tb_506) rfl (by decide +kernel) rfl (by decide) rfl (by decide) (by decide) rfl (Nat.le_of_ble_eq_true rfl) dX2_isSent_15 (fun v3 hf => ?_)
    refine g_ifeq (tgt := 43) X hf dX2_isSent_18 (by decide) (fun hf => ?_) (fun hf => ?_)
    · refine g_iconst (v := 0) X dX2_isSent_43 (by decide) ?_
      exact g_zreturn X (zP hf) (by decide) (by decide) (by decide) dX2_isSent_44
    · refine g_aload X dX2_isSent_21 4 rfl ?_
      refine g_getI X hf (T := TX5) rfl (by decide) (by decide) in_RX5 tb_86 rfl dX2_isSent_23 (fun v4 hf => ?_)
      refine g_iload_n X dX2_isSent_26 2 rfl ?_
      refine g_icmpgt (tgt := 43) X hf dX2_isSent_27 (by decide) (fun hf => ?_) (fun hf => ?_)
      · refine g_iconst (v := 0) X dX2_isSent_43 (by decide) ?_
        exact g_zreturn X (zP hf) (by decide) (by decide) (by decide) dX2_isSent_44
      · refine g_iload_n X dX2_isSent_30 2 rfl ?_
        refine g_aload X dX2_isSent_31 4 rfl ?_
        refine g_getI X hf (T := TX5) rfl (by decide) (by decide) in_RX5 tb_89 rfl dX2_isSent_33 (fun v5 hf => ?_)
        refine g_icmpgt (tgt := 43) X hf dX2_isSent_36 (by decide) (fun hf => ?_) (fun hf => ?_)
        · refine g_iconst (v := 0) X dX2_isSent_43 (by decide) ?_
          exact g_zreturn X (zP hf) (by decide) (by decide) (by decide) dX2_isSent_44
        · refine g_iconst (v := 1) X dX2_isSent_39 (by decide) ?_
          refine g_goto (tgt := 44) X dX2_isSent_40 (by decide) ?_
          exact g_zreturn X (zP hf) (by decide) (by decide) (by decide) dX2_isSent_44
def f_X9_hasHarvest  (a0 : Option Nat) (a1 : Int32) (h : AH) : Option Int32 :=
  (gI 9 2 h a0).bind fun v1 =>
  if a1 < v1 then
    some 0
  else
    (gI 9 3 h a0).bind fun v2 =>
    if v2 < a1 then
      some 0
    else
      some 1
set_option maxRecDepth 20000 in
theorem m_X9_hasHarvest  {a0 : Option Nat} {a1 : Int32} {h : AH} {w : Int32} (hf : f_X9_hasHarvest a0 a1 h = some w) : CT yX9_hasHarvest (wU yX9_hasHarvest cX9_hasHarvest 2 (some .boolean)) (rmD 1 0 0) 0 0 [tR a0, tI a1] h (some (tI w), h) := by
  refine CT.of (cc := cX9_hasHarvest) (nL := 2) (ret := (some .boolean)) (by decide) (by simp [lg_sl, vOf_cat, wOf]) ?_
  intro K X
  refine g_locs (lv' := [(0, tR a0), (1, tI a1)]) (fun q hq => hq) ?_
  unfold f_X9_hasHarvest at hf
  refine g_aload_n X dX9_hasHarvest_0 0 rfl ?_
  refine g_getI X hf (T := TX9) rfl (by decide) (by decide) in_RX9 tb_56 rfl dX9_hasHarvest_1 (fun v1 hf => ?_)
  refine g_iload_n X dX9_hasHarvest_4 1 rfl ?_
  refine g_icmpgt (tgt := 20) X hf dX9_hasHarvest_5 (by decide) (fun hf => ?_) (fun hf => ?_)
  · refine g_iconst (v := 0) X dX9_hasHarvest_20 (by decide) ?_
    exact g_zreturn X (zP hf) (by decide) (by decide) (by decide) dX9_hasHarvest_21
  · refine g_iload_n X dX9_hasHarvest_8 1 rfl ?_
    refine g_aload_n X dX9_hasHarvest_9 0 rfl ?_
    refine g_getI X hf (T := TX9) rfl (by decide) (by decide) in_RX9 tb_58 rfl dX9_hasHarvest_10 (fun v2 hf => ?_)
    refine g_icmpgt (tgt := 20) X hf dX9_hasHarvest_13 (by decide) (fun hf => ?_) (fun hf => ?_)
    · refine g_iconst (v := 0) X dX9_hasHarvest_20 (by decide) ?_
      exact g_zreturn X (zP hf) (by decide) (by decide) (by decide) dX9_hasHarvest_21
    · refine g_iconst (v := 1) X dX9_hasHarvest_16 (by decide) ?_
      refine g_goto (tgt := 21) X dX9_hasHarvest_17 (by decide) ?_
      exact g_zreturn X (zP hf) (by decide) (by decide) (by decide) dX9_hasHarvest_21
def b_X2_isThere_60   (h : AH) (x0 : Option Nat) (s0 : Int32) : Option Int32 :=
  (gR 2 15 h x0).bind fun v1 =>
  (aI h v1 0).bind fun v2 =>
  if v2 < s0 then
    some 0
  else
    some 1
set_option maxRecDepth 20000 in
theorem w_X2_isThere_60 {K : KT} {w : Int32} {h : AH}   (X : CX K cX2_isThere RX2 TB (some .boolean) "isThere" (rmD 3 0 0) 6 0 0)  (x0 : Option Nat) (s0 : Int32) (hf : b_X2_isThere_60 h x0 s0 = some w) : GG K (some (tI w), h) 0 0 60 [(0, tR x0)] [tI s0] h := by
  unfold b_X2_isThere_60 at hf
  refine g_istore (lv' := [(0, tR x0), (5, tI s0)]) X dX2_isThere_60 (by decide) (in_pick [1, 0] rfl) ?_
  refine g_iload X dX2_isThere_62 1 rfl ?_
  refine g_aload_n X dX2_isThere_64 0 rfl ?_
  refine g_getR X hf (T := TX2) rfl (by decide) (by decide) in_RX2 tb_241 rfl dX2_isThere_65 (fun v1 hf => ?_)
  refine g_iconst (v := 0) X dX2_isThere_68 (by decide) ?_
  refine g_iaload X hf dX2_isThere_69 (fun v2 hf => ?_)
  refine g_icmpgt (tgt := 77) X hf dX2_isThere_70 (by decide) (fun hf => ?_) (fun hf => ?_)
  · refine g_iconst (v := 0) X dX2_isThere_77 (by decide) ?_
    exact g_zreturn X (zP hf) (by decide) (by decide) (by decide) dX2_isThere_78
  · refine g_iconst (v := 1) X dX2_isThere_73 (by decide) ?_
    refine g_goto (tgt := 78) X dX2_isThere_74 (by decide) ?_
    exact g_zreturn X (zP hf) (by decide) (by decide) (by decide) dX2_isThere_78
def f_X2_isThere  (a0 : Option Nat) (a1 : Int32) (a2 : Int32) (a3 : Int32) (h : AH) : Option Int32 :=
  (gR 2 3 h a0).bind fun v1 =>
  (gR 2 5 h a0).bind fun v2 =>
  (aR h v2 a1).bind fun v3 =>
  (gI 5 0 h v3).bind fun v4 =>
  (aR h v1 v4).bind fun v5 =>
  (ck 2 h a0 (f_X2_isSent a0 a1 a2 a3 h)).bind fun v6 =>
  if v6 = 0 then
    (ck 9 h v5 (f_X9_hasHarvest v5 a2 h)).bind fun v7 =>
    if v7 = 0 then
      (ck 2 h a0 (f_X2_isWet a0 a2 h)).bind fun v8 =>
      if v8 = 0 then
        (gI 9 1 h v5).bind fun v9 =>
        b_X2_isThere_60 h a0 v9
      else
        (gI 9 1 h v5).bind fun v10 =>
        b_X2_isThere_60 h a0 (2 * v10)
    else
      some 0
  else
    some 0
set_option maxRecDepth 20000 in
theorem m_X2_isThere  {a0 : Option Nat} {a1 : Int32} {a2 : Int32} {a3 : Int32} {h : AH} {w : Int32} (hf : f_X2_isThere a0 a1 a2 a3 h = some w) : CT yX2_isThere (wU yX2_isThere cX2_isThere 6 (some .boolean)) (rmD 3 0 0) 0 0 [tR a0, tI a1, tI a2, tI a3] h (some (tI w), h) := by
  refine CT.of (cc := cX2_isThere) (nL := 6) (ret := (some .boolean)) (by decide) (by simp [lg_sl, vOf_cat, wOf]) ?_
  intro K X
  refine g_locs (lv' := [(0, tR a0), (1, tI a1), (2, tI a2), (3, tI a3)]) (fun q hq => hq) ?_
  unfold f_X2_isThere at hf
  refine g_aload_n X dX2_isThere_0 0 rfl ?_
  refine g_getR X hf (T := TX2) rfl (by decide) (by decide) in_RX2 tb_217 rfl dX2_isThere_1 (fun v1 hf => ?_)
  refine g_aload_n X dX2_isThere_4 0 rfl ?_
  refine g_getR X hf (T := TX2) rfl (by decide) (by decide) in_RX2 tb_221 rfl dX2_isThere_5 (fun v2 hf => ?_)
  refine g_iload_n X dX2_isThere_8 1 rfl ?_
  refine g_aaload X hf dX2_isThere_9 (fun v3 hf => ?_)
  refine g_getI X hf (T := TX5) rfl (by decide) (by decide) in_RX5 tb_70 rfl dX2_isThere_10 (fun v4 hf => ?_)
  refine g_aaload X hf dX2_isThere_13 (fun v5 hf => ?_)
  refine g_astore (lv' := [(0, tR a0), (1, tI a1), (2, tI a2), (3, tI a3), (4, tR v5)]) X dX2_isThere_14 (by decide) (in_pick [1, 2, 3, 4, 0] rfl) ?_
  refine g_aload_n X dX2_isThere_16 0 rfl ?_
  refine g_iload_n X dX2_isThere_17 1 rfl ?_
  refine g_iload_n X dX2_isThere_18 2 rfl ?_
  refine g_iload_n X dX2_isThere_19 3 rfl ?_
  refine g_callV (n := 3) (av := [tI a1, tI a2, tI a3]) (rest := []) (k := 2) X hf (fun v6 => (some (tI v6), h)) (fun _ q => m_X2_isSent q) (gdV tb_537 tb_538 tb_539 tb_2 tb_540) rfl (by decide +kernel) rfl (by decide) rfl (by decide) (by decide) rfl (Nat.le_of_ble_eq_true rfl) dX2_isThere_20 (fun v6 hf => ?_)
  refine g_ifne (tgt := 35) X hf dX2_isThere_23 (by decide) (fun hf => ?_) (fun hf => ?_)
  · refine g_aload X dX2_isThere_26 4 rfl ?_
    refine g_iload_n X dX2_isThere_28 2 rfl ?_
    refine g_callV (n := 1) (av := [tI a2]) (rest := []) (k := 9) X hf (fun v7 => (some (tI v7), h)) (fun _ q => m_X9_hasHarvest q) (gdV tb_542 tb_543 tb_544 tb_3 tb_545) rfl (by decide +kernel) rfl (by decide) rfl (by decide) (by decide) rfl (Nat.le_of_ble_eq_true rfl) dX2_isThere_29 (fun v7 hf => ?_)
    refine g_ifeq (tgt := 37) X hf dX2_isThere_32 (by decide) (fun hf => ?_) (fun hf => ?_)
    · refine g_aload_n X dX2_isThere_37 0 rfl ?_
      refine g_iload_n X dX2_isThere_38 2 rfl ?_
      refine g_callV (n := 1) (av := [tI a2]) (rest := []) (k := 2) X hf (fun v8 => (some (tI v8), h)) (fun _ q => m_X2_isWet q) (gdV tb_546 tb_410 tb_411 tb_2 tb_412) rfl (by decide +kernel) rfl (by decide) rfl (by decide) (by decide) rfl (Nat.le_of_ble_eq_true rfl) dX2_isThere_39 (fun v8 hf => ?_)
      refine g_ifeq (tgt := 55) X hf dX2_isThere_42 (by decide) (fun hf => ?_) (fun hf => ?_)
      · refine g_aload X dX2_isThere_55 4 rfl ?_
        refine g_getI X hf (T := TX9) rfl (by decide) (by decide) in_RX9 tb_55 rfl dX2_isThere_57 (fun v9 hf => ?_)
        refine g_locs (lv' := [(0, tR a0)]) (in_pick [0] rfl) ?_
        exact w_X2_isThere_60 X a0 v9 hf
      · refine g_iconst (v := 2) X dX2_isThere_45 (by decide) ?_
        refine g_aload X dX2_isThere_46 4 rfl ?_
        refine g_getI X hf (T := TX9) rfl (by decide) (by decide) in_RX9 tb_55 rfl dX2_isThere_48 (fun v10 hf => ?_)
        refine g_imul X dX2_isThere_51 ?_
        refine g_goto (tgt := 60) X dX2_isThere_52 (by decide) ?_
        refine g_locs (lv' := [(0, tR a0)]) (in_pick [0] rfl) ?_
        exact w_X2_isThere_60 X a0 (2 * v10) hf
    · refine g_iconst (v := 0) X dX2_isThere_35 (by decide) ?_
      exact g_zreturn X (zP hf) (by decide) (by decide) (by decide) dX2_isThere_36
  · refine g_iconst (v := 0) X dX2_isThere_35 (by decide) ?_
    exact g_zreturn X (zP hf) (by decide) (by decide) (by decide) dX2_isThere_36
def b_X2_isLoyal_57  (k19 : Option Nat → Int32 → Int32 → Int32 → Int32 → Int32 → Int32 → Option Int32) (h : AH) (x0 : Option Nat) (x1 : Int32) (x2 : Int32) (x3 : Int32) (x4 : Int32) (x5 : Int32) (x6 : Int32) (s0 : Int32) : Option Int32 :=
  if s0 = 0 then
    k19 x0 x1 x2 x3 x4 x5 (x6 + 1)
  else
    (ck 2 h x0 (f_X2_dreadOf x0 x1 x6 x3 h)).bind fun v1 =>
    if v1 < x5 then
      k19 x0 x1 x2 x3 x4 x5 (x6 + 1)
    else
      some 0
set_option maxRecDepth 20000 in
theorem w_X2_isLoyal_57 {K : KT} {w : Int32} {h : AH} {k19 : Option Nat → Int32 → Int32 → Int32 → Int32 → Int32 → Int32 → Option Int32}  (X : CX K cX2_isLoyal RX2 TB (some .boolean) "isLoyal" (rmD 3 0 0) 8 0 0) (hk19 : ∀ (x0 : Option Nat) (x1 : Int32) (x2 : Int32) (x3 : Int32) (x4 : Int32) (x5 : Int32) (x6 : Int32), k19 x0 x1 x2 x3 x4 x5 x6 = some w → GG K (some (tI w), h) 0 0 19 [(0, tR x0), (1, tI x1), (2, tI x2), (3, tI x3), (4, tI x4), (5, tI x5), (6, tI x6)] [] h) (x0 : Option Nat) (x1 : Int32) (x2 : Int32) (x3 : Int32) (x4 : Int32) (x5 : Int32) (x6 : Int32) (s0 : Int32) (hf : b_X2_isLoyal_57 k19 h x0 x1 x2 x3 x4 x5 x6 s0 = some w) : GG K (some (tI w), h) 0 0 57 [(0, tR x0), (1, tI x1), (2, tI x2), (3, tI x3), (4, tI x4), (5, tI x5), (6, tI x6)] [tI s0] h := by
  unfold b_X2_isLoyal_57 at hf
  refine g_istore (lv' := [(0, tR x0), (1, tI x1), (2, tI x2), (3, tI x3), (4, tI x4), (5, tI x5), (6, tI x6), (7, tI s0)]) X dX2_isLoyal_57 (by decide) (in_pick [1, 2, 3, 4, 5, 6, 7, 0] rfl) ?_
  refine g_iload X dX2_isLoyal_59 7 rfl ?_
  refine g_ifeq (tgt := 79) X hf dX2_isLoyal_61 (by decide) (fun hf => ?_) (fun hf => ?_)
  · refine g_iinc (v := (x6 + 1)) (lv' := [(0, tR x0), (1, tI x1), (2, tI x2), (3, tI x3), (4, tI x4), (5, tI x5), (6, tI (x6 + 1)), (7, tI s0)]) X dX2_isLoyal_79 6 rfl (by rfl) (by decide) (in_pick [1, 2, 3, 4, 5, 6, 0, 7] rfl) ?_
    refine g_goto (tgt := 19) X dX2_isLoyal_82 (by decide) ?_
    refine g_locs (lv' := [(0, tR x0), (1, tI x1), (2, tI x2), (3, tI x3), (4, tI x4), (5, tI x5), (6, tI (x6 + 1))]) (in_pick [0, 1, 2, 3, 4, 5, 6] rfl) ?_
    exact hk19 x0 x1 x2 x3 x4 x5 (x6 + 1) hf
  · refine g_aload_n X dX2_isLoyal_64 0 rfl ?_
    refine g_iload_n X dX2_isLoyal_65 1 rfl ?_
    refine g_iload X dX2_isLoyal_66 6 rfl ?_
    refine g_iload_n X dX2_isLoyal_68 3 rfl ?_
    refine g_callV (n := 3) (av := [tI x1, tI x6, tI x3]) (rest := []) (k := 2) X hf (fun v1 => (some (tI v1), h)) (fun _ q => m_X2_dreadOf q) (gdV tb_559 tb_487 tb_488 tb_2 tb_489) rfl (by decide +kernel) rfl (by decide) rfl (by decide) (by decide) rfl (Nat.le_of_ble_eq_true rfl) dX2_isLoyal_69 (fun v1 hf => ?_)
    refine g_iload X dX2_isLoyal_72 5 rfl ?_
    refine g_icmplt (tgt := 79) X hf dX2_isLoyal_74 (by decide) (fun hf => ?_) (fun hf => ?_)
    · refine g_iinc (v := (x6 + 1)) (lv' := [(0, tR x0), (1, tI x1), (2, tI x2), (3, tI x3), (4, tI x4), (5, tI x5), (6, tI (x6 + 1)), (7, tI s0)]) X dX2_isLoyal_79 6 rfl (by rfl) (by decide) (in_pick [1, 2, 3, 4, 5, 6, 0, 7] rfl) ?_
      refine g_goto (tgt := 19) X dX2_isLoyal_82 (by decide) ?_
      refine g_locs (lv' := [(0, tR x0), (1, tI x1), (2, tI x2), (3, tI x3), (4, tI x4), (5, tI x5), (6, tI (x6 + 1))]) (in_pick [0, 1, 2, 3, 4, 5, 6] rfl) ?_
      exact hk19 x0 x1 x2 x3 x4 x5 (x6 + 1) hf
    · refine g_iconst (v := 0) X dX2_isLoyal_77 (by decide) ?_
      exact g_zreturn X (zP hf) (by decide) (by decide) (by decide) dX2_isLoyal_78
def b_X2_isLoyal_19   (h : AH) : Nat → Option Nat → Int32 → Int32 → Int32 → Int32 → Int32 → Int32 → Option Int32
  | 0 => fun _ _ _ _ _ _ _ => none
  | n + 1 => fun x0 x1 x2 x3 x4 x5 x6 =>
    (gI 2 6 h x0).bind fun v1 =>
    if x6 < v1 then
      if x6 = x1 then
        b_X2_isLoyal_57 (b_X2_isLoyal_19 h n) h x0 x1 x2 x3 x4 x5 x6 0
      else
        if x6 = x2 then
          b_X2_isLoyal_57 (b_X2_isLoyal_19 h n) h x0 x1 x2 x3 x4 x5 x6 0
        else
          (ck 2 h x0 (f_X2_isSent x0 x6 x3 x4 h)).bind fun v2 =>
          if v2 = 0 then
            b_X2_isLoyal_57 (b_X2_isLoyal_19 h n) h x0 x1 x2 x3 x4 x5 x6 1
          else
            b_X2_isLoyal_57 (b_X2_isLoyal_19 h n) h x0 x1 x2 x3 x4 x5 x6 0
    else
      some 1
set_option maxRecDepth 20000 in
theorem w_X2_isLoyal_19 {K : KT} {w : Int32} {h : AH}   (X : CX K cX2_isLoyal RX2 TB (some .boolean) "isLoyal" (rmD 3 0 0) 8 0 0)  : ∀ (n : Nat) (x0 : Option Nat) (x1 : Int32) (x2 : Int32) (x3 : Int32) (x4 : Int32) (x5 : Int32) (x6 : Int32), b_X2_isLoyal_19 h n x0 x1 x2 x3 x4 x5 x6 = some w → GG K (some (tI w), h) 0 0 19 [(0, tR x0), (1, tI x1), (2, tI x2), (3, tI x3), (4, tI x4), (5, tI x5), (6, tI x6)] [] h := by
  intro n
  induction n with
  | zero =>
    intro x0 x1 x2 x3 x4 x5 x6 hf
    cases (show none = some w from hf)
  | succ n ih =>
    intro x0 x1 x2 x3 x4 x5 x6 hf
    rw [b_X2_isLoyal_19] at hf
    refine g_iload X dX2_isLoyal_19 6 rfl ?_
    refine g_aload_n X dX2_isLoyal_21 0 rfl ?_
    refine g_getI X hf (T := TX2) rfl (by decide) (by decide) in_RX2 tb_223 rfl dX2_isLoyal_22 (fun v1 hf => ?_)
    refine g_icmpge (tgt := 85) X hf dX2_isLoyal_25 (by decide) (fun hf => ?_) (fun hf => ?_)
    · refine g_iload X dX2_isLoyal_28 6 rfl ?_
      refine g_iload_n X dX2_isLoyal_30 1 rfl ?_
      refine g_icmpeq (tgt := 56) X hf dX2_isLoyal_31 (by decide) (fun hf => ?_) (fun hf => ?_)
      · refine g_iconst (v := 0) X dX2_isLoyal_56 (by decide) ?_
        exact w_X2_isLoyal_57 X ih x0 x1 x2 x3 x4 x5 x6 0 hf
      · refine g_iload X dX2_isLoyal_34 6 rfl ?_
        refine g_iload_n X dX2_isLoyal_36 2 rfl ?_
        refine g_icmpeq (tgt := 56) X hf dX2_isLoyal_37 (by decide) (fun hf => ?_) (fun hf => ?_)
        · refine g_iconst (v := 0) X dX2_isLoyal_56 (by decide) ?_
          exact w_X2_isLoyal_57 X ih x0 x1 x2 x3 x4 x5 x6 0 hf
        · refine g_aload_n X dX2_isLoyal_40 0 rfl ?_
          refine g_iload X dX2_isLoyal_41 6 rfl ?_
          refine g_iload_n X dX2_isLoyal_43 3 rfl ?_
          refine g_iload X dX2_isLoyal_44 4 rfl ?_
          refine g_callV (n := 3) (av := [tI x6, tI x3, tI x4]) (rest := []) (k := 2) X hf (fun v2 => (some (tI v2), h)) (fun _ q => m_X2_isSent q) (gdV tb_537 tb_538 tb_539 tb_2 tb_540) rfl (by decide +kernel) rfl (by decide) rfl (by decide) (by decide) rfl (Nat.le_of_ble_eq_true rfl) dX2_isLoyal_46 (fun v2 hf => ?_)
          refine g_ifne (tgt := 56) X hf dX2_isLoyal_49 (by decide) (fun hf => ?_) (fun hf => ?_)
          · refine g_iconst (v := 1) X dX2_isLoyal_52 (by decide) ?_
            refine g_goto (tgt := 57) X dX2_isLoyal_53 (by decide) ?_
            exact w_X2_isLoyal_57 X ih x0 x1 x2 x3 x4 x5 x6 1 hf
          · refine g_iconst (v := 0) X dX2_isLoyal_56 (by decide) ?_
            exact w_X2_isLoyal_57 X ih x0 x1 x2 x3 x4 x5 x6 0 hf
    · refine g_iconst (v := 1) X dX2_isLoyal_85 (by decide) ?_
      exact g_zreturn X (zP hf) (by decide) (by decide) (by decide) dX2_isLoyal_86
def f_X2_isLoyal  (a0 : Option Nat) (a1 : Int32) (a2 : Int32) (a3 : Int32) (a4 : Int32) (h : AH) : Option Int32 :=
  (ck 2 h a0 (f_X2_dreadOf a0 a1 a2 a3 h)).bind fun v1 =>
  (gR 2 15 h a0).bind fun v2 =>
  (aI h v2 1).bind fun v3 =>
  b_X2_isLoyal_19 h FU a0 a1 a2 a3 a4 (v1 + v3) 0
set_option maxRecDepth 20000 in
theorem m_X2_isLoyal  {a0 : Option Nat} {a1 : Int32} {a2 : Int32} {a3 : Int32} {a4 : Int32} {h : AH} {w : Int32} (hf : f_X2_isLoyal a0 a1 a2 a3 a4 h = some w) : CT yX2_isLoyal (wU yX2_isLoyal cX2_isLoyal 8 (some .boolean)) (rmD 3 0 0) 0 0 [tR a0, tI a1, tI a2, tI a3, tI a4] h (some (tI w), h) := by
  refine CT.of (cc := cX2_isLoyal) (nL := 8) (ret := (some .boolean)) (by decide) (by simp [lg_sl, vOf_cat, wOf]) ?_
  intro K X
  refine g_locs (lv' := [(0, tR a0), (1, tI a1), (2, tI a2), (3, tI a3), (4, tI a4)]) (fun q hq => hq) ?_
  unfold f_X2_isLoyal at hf
  refine g_aload_n X dX2_isLoyal_0 0 rfl ?_
  refine g_iload_n X dX2_isLoyal_1 1 rfl ?_
  refine g_iload_n X dX2_isLoyal_2 2 rfl ?_
  refine g_iload_n X dX2_isLoyal_3 3 rfl ?_
  refine g_callV (n := 3) (av := [tI a1, tI a2, tI a3]) (rest := []) (k := 2) X hf (fun v1 => (some (tI v1), h)) (fun _ q => m_X2_dreadOf q) (gdV tb_559 tb_487 tb_488 tb_2 tb_489) rfl (by decide +kernel) rfl (by decide) rfl (by decide) (by decide) rfl (Nat.le_of_ble_eq_true rfl) dX2_isLoyal_4 (fun v1 hf => ?_)
  refine g_aload_n X dX2_isLoyal_7 0 rfl ?_
  refine g_getR X hf (T := TX2) rfl (by decide) (by decide) in_RX2 tb_241 rfl dX2_isLoyal_8 (fun v2 hf => ?_)
  refine g_iconst (v := 1) X dX2_isLoyal_11 (by decide) ?_
  refine g_iaload X hf dX2_isLoyal_12 (fun v3 hf => ?_)
  refine g_iadd X dX2_isLoyal_13 ?_
  refine g_istore (lv' := [(0, tR a0), (1, tI a1), (2, tI a2), (3, tI a3), (4, tI a4), (5, tI (v1 + v3))]) X dX2_isLoyal_14 (by decide) (in_pick [1, 2, 3, 4, 5, 0] rfl) ?_
  refine g_iconst (v := 0) X dX2_isLoyal_16 (by decide) ?_
  refine g_istore (lv' := [(0, tR a0), (1, tI a1), (2, tI a2), (3, tI a3), (4, tI a4), (5, tI (v1 + v3)), (6, tI 0)]) X dX2_isLoyal_17 (by decide) (in_pick [1, 2, 3, 4, 5, 6, 0] rfl) ?_
  exact w_X2_isLoyal_19 X FU a0 a1 a2 a3 a4 (v1 + v3) 0 hf
def b_X2_castOf_69   (h : AH) : Nat → Option Nat → Int32 → Int32 → Int32 → Int32 → Int32 → Int32 → Option Int32
  | 0 => fun _ _ _ _ _ _ _ => none
  | n + 1 => fun x0 x1 x2 x3 x5 x6 x7 =>
    (gI 2 6 h x0).bind fun v1 =>
    if x7 < v1 then
      if x7 = x1 then
        b_X2_castOf_69 h n x0 x1 x2 x3 x5 x6 (x7 + 1)
      else
        (ck 2 h x0 (f_X2_isSent x0 x7 x2 x3 h)).bind fun v2 =>
        if v2 = 0 then
          (ck 2 h x0 (f_X2_dreadOf x0 x1 x7 x2 h)).bind fun v3 =>
          if x6 < v3 then
            b_X2_castOf_69 h n x0 x1 x2 x3 x7 v3 (x7 + 1)
          else
            b_X2_castOf_69 h n x0 x1 x2 x3 x5 x6 (x7 + 1)
        else
          b_X2_castOf_69 h n x0 x1 x2 x3 x5 x6 (x7 + 1)
    else
      some x5
set_option maxRecDepth 20000 in
theorem w_X2_castOf_69 {K : KT} {w : Int32} {h : AH}   (X : CX K cX2_castOf RX2 TB (some .int) "castOf" (rmD 4 0 0) 9 0 0)  : ∀ (n : Nat) (x0 : Option Nat) (x1 : Int32) (x2 : Int32) (x3 : Int32) (x5 : Int32) (x6 : Int32) (x7 : Int32), b_X2_castOf_69 h n x0 x1 x2 x3 x5 x6 x7 = some w → GG K (some (tI w), h) 0 0 69 [(0, tR x0), (1, tI x1), (2, tI x2), (3, tI x3), (5, tI x5), (6, tI x6), (7, tI x7)] [] h := by
  intro n
  induction n with
  | zero =>
    intro x0 x1 x2 x3 x5 x6 x7 hf
    cases (show none = some w from hf)
  | succ n ih =>
    intro x0 x1 x2 x3 x5 x6 x7 hf
    rw [b_X2_castOf_69] at hf
    refine g_iload X dX2_castOf_69 6 rfl ?_
    refine g_aload_n X dX2_castOf_71 0 rfl ?_
    refine g_getI X hf (T := TX2) rfl (by decide) (by decide) in_RX2 tb_223 rfl dX2_castOf_72 (fun v1 hf => ?_)
    refine g_icmpge (tgt := 126) X hf dX2_castOf_75 (by decide) (fun hf => ?_) (fun hf => ?_)
    · refine g_iload X dX2_castOf_78 6 rfl ?_
      refine g_iload_n X dX2_castOf_80 1 rfl ?_
      refine g_icmpeq (tgt := 120) X hf dX2_castOf_81 (by decide) (fun hf => ?_) (fun hf => ?_)
      · refine g_iinc (v := (x7 + 1)) (lv' := [(0, tR x0), (1, tI x1), (2, tI x2), (3, tI x3), (5, tI x5), (6, tI x6), (7, tI (x7 + 1))]) X dX2_castOf_120 6 rfl (by rfl) (by decide) (in_pick [1, 2, 3, 4, 5, 6, 0] rfl) ?_
        refine g_goto (tgt := 69) X dX2_castOf_123 (by decide) ?_
        exact ih x0 x1 x2 x3 x5 x6 (x7 + 1) hf
      · refine g_aload_n X dX2_castOf_84 0 rfl ?_
        refine g_iload X dX2_castOf_85 6 rfl ?_
        refine g_iload_n X dX2_castOf_87 2 rfl ?_
        refine g_iload_n X dX2_castOf_88 3 rfl ?_
        refine g_callV (n := 3) (av := [tI x7, tI x2, tI x3]) (rest := []) (k := 2) X hf (fun v2 => (some (tI v2), h)) (fun _ q => m_X2_isSent q) (gdV tb_537 tb_538 tb_539 tb_2 tb_540) rfl (by decide +kernel) rfl (by decide) rfl (by decide) (by decide) rfl (Nat.le_of_ble_eq_true rfl) dX2_castOf_89 (fun v2 hf => ?_)
        refine g_ifne (tgt := 120) X hf dX2_castOf_92 (by decide) (fun hf => ?_) (fun hf => ?_)
        · refine g_aload_n X dX2_castOf_95 0 rfl ?_
          refine g_iload_n X dX2_castOf_96 1 rfl ?_
          refine g_iload X dX2_castOf_97 6 rfl ?_
          refine g_iload_n X dX2_castOf_99 2 rfl ?_
          refine g_callV (n := 3) (av := [tI x1, tI x7, tI x2]) (rest := []) (k := 2) X hf (fun v3 => (some (tI v3), h)) (fun _ q => m_X2_dreadOf q) (gdV tb_559 tb_487 tb_488 tb_2 tb_489) rfl (by decide +kernel) rfl (by decide) rfl (by decide) (by decide) rfl (Nat.le_of_ble_eq_true rfl) dX2_castOf_100 (fun v3 hf => ?_)
          refine g_istore (lv' := [(0, tR x0), (1, tI x1), (2, tI x2), (3, tI x3), (5, tI x5), (6, tI x6), (7, tI x7), (8, tI v3)]) X dX2_castOf_103 (by decide) (in_pick [1, 2, 3, 4, 5, 6, 7, 0] rfl) ?_
          refine g_iload X dX2_castOf_105 7 rfl ?_
          refine g_iload X dX2_castOf_107 5 rfl ?_
          refine g_icmple (tgt := 120) X hf dX2_castOf_109 (by decide) (fun hf => ?_) (fun hf => ?_)
          · refine g_iload X dX2_castOf_112 7 rfl ?_
            refine g_istore (lv' := [(0, tR x0), (1, tI x1), (2, tI x2), (3, tI x3), (5, tI x5), (6, tI v3), (7, tI x7), (8, tI v3)]) X dX2_castOf_114 (by decide) (in_pick [1, 2, 3, 4, 5, 0, 6, 7] rfl) ?_
            refine g_iload X dX2_castOf_116 6 rfl ?_
            refine g_istore (lv' := [(0, tR x0), (1, tI x1), (2, tI x2), (3, tI x3), (5, tI x7), (6, tI v3), (7, tI x7), (8, tI v3)]) X dX2_castOf_118 (by decide) (in_pick [1, 2, 3, 4, 0, 5, 6, 7] rfl) ?_
            refine g_iinc (v := (x7 + 1)) (lv' := [(0, tR x0), (1, tI x1), (2, tI x2), (3, tI x3), (5, tI x7), (6, tI v3), (7, tI (x7 + 1)), (8, tI v3)]) X dX2_castOf_120 6 rfl (by rfl) (by decide) (in_pick [1, 2, 3, 4, 5, 6, 0, 7] rfl) ?_
            refine g_goto (tgt := 69) X dX2_castOf_123 (by decide) ?_
            refine g_locs (lv' := [(0, tR x0), (1, tI x1), (2, tI x2), (3, tI x3), (5, tI x7), (6, tI v3), (7, tI (x7 + 1))]) (in_pick [0, 1, 2, 3, 4, 5, 6] rfl) ?_
            exact ih x0 x1 x2 x3 x7 v3 (x7 + 1) hf
          · refine g_iinc (v := (x7 + 1)) (lv' := [(0, tR x0), (1, tI x1), (2, tI x2), (3, tI x3), (5, tI x5), (6, tI x6), (7, tI (x7 + 1)), (8, tI v3)]) X dX2_castOf_120 6 rfl (by rfl) (by decide) (in_pick [1, 2, 3, 4, 5, 6, 0, 7] rfl) ?_
            refine g_goto (tgt := 69) X dX2_castOf_123 (by decide) ?_
            refine g_locs (lv' := [(0, tR x0), (1, tI x1), (2, tI x2), (3, tI x3), (5, tI x5), (6, tI x6), (7, tI (x7 + 1))]) (in_pick [0, 1, 2, 3, 4, 5, 6] rfl) ?_
            exact ih x0 x1 x2 x3 x5 x6 (x7 + 1) hf
        · refine g_iinc (v := (x7 + 1)) (lv' := [(0, tR x0), (1, tI x1), (2, tI x2), (3, tI x3), (5, tI x5), (6, tI x6), (7, tI (x7 + 1))]) X dX2_castOf_120 6 rfl (by rfl) (by decide) (in_pick [1, 2, 3, 4, 5, 6, 0] rfl) ?_
          refine g_goto (tgt := 69) X dX2_castOf_123 (by decide) ?_
          exact ih x0 x1 x2 x3 x5 x6 (x7 + 1) hf
    · refine g_iload X dX2_castOf_126 4 rfl ?_
      exact g_ireturn X (zP hf) (by decide) (by decide) dX2_castOf_128
def b_X2_castOf_53   (h : AH) (x0 : Option Nat) (x1 : Int32) (x2 : Int32) (x3 : Int32) : Option Int32 :=
  (gR 2 15 h x0).bind fun v1 =>
  (aI h v1 2).bind fun v2 =>
  b_X2_castOf_69 h FU x0 x1 x2 x3 (-1) (v2 - 1) 0
set_option maxRecDepth 20000 in
theorem w_X2_castOf_53 {K : KT} {w : Int32} {h : AH}   (X : CX K cX2_castOf RX2 TB (some .int) "castOf" (rmD 4 0 0) 9 0 0)  (x0 : Option Nat) (x1 : Int32) (x2 : Int32) (x3 : Int32) (hf : b_X2_castOf_53 h x0 x1 x2 x3 = some w) : GG K (some (tI w), h) 0 0 53 [(0, tR x0), (1, tI x1), (2, tI x2), (3, tI x3)] [] h := by
  unfold b_X2_castOf_53 at hf
  refine g_iconst (v := (-1)) X dX2_castOf_53 (by decide) ?_
  refine g_istore (lv' := [(0, tR x0), (1, tI x1), (2, tI x2), (3, tI x3), (5, tI (-1))]) X dX2_castOf_54 (by decide) (in_pick [1, 2, 3, 4, 0] rfl) ?_
  refine g_aload_n X dX2_castOf_56 0 rfl ?_
  refine g_getR X hf (T := TX2) rfl (by decide) (by decide) in_RX2 tb_241 rfl dX2_castOf_57 (fun v1 hf => ?_)
  refine g_iconst (v := 2) X dX2_castOf_60 (by decide) ?_
  refine g_iaload X hf dX2_castOf_61 (fun v2 hf => ?_)
  refine g_iconst (v := 1) X dX2_castOf_62 (by decide) ?_
  refine g_isub X dX2_castOf_63 ?_
  refine g_istore (lv' := [(0, tR x0), (1, tI x1), (2, tI x2), (3, tI x3), (5, tI (-1)), (6, tI (v2 - 1))]) X dX2_castOf_64 (by decide) (in_pick [1, 2, 3, 4, 5, 0] rfl) ?_
  refine g_iconst (v := 0) X dX2_castOf_66 (by decide) ?_
  refine g_istore (lv' := [(0, tR x0), (1, tI x1), (2, tI x2), (3, tI x3), (5, tI (-1)), (6, tI (v2 - 1)), (7, tI 0)]) X dX2_castOf_67 (by decide) (in_pick [1, 2, 3, 4, 5, 6, 0] rfl) ?_
  exact w_X2_castOf_69 X FU x0 x1 x2 x3 (-1) (v2 - 1) 0 hf
def f_X2_castOf  (a0 : Option Nat) (a1 : Int32) (a2 : Int32) (a3 : Int32) (h : AH) : Option Int32 :=
  (gR 2 5 h a0).bind fun v1 =>
  (aR h v1 a1).bind fun v2 =>
  (gI 5 1 h v2).bind fun v3 =>
  (ck 2 h a0 (f_X2_boundTo a0 v3 a2 h)).bind fun v4 =>
  if v4 < 0 then
    b_X2_castOf_53 h a0 a1 a2 a3
  else
    if v4 = a1 then
      b_X2_castOf_53 h a0 a1 a2 a3
    else
      (ck 2 h a0 (f_X2_isSent a0 v4 a2 a3 h)).bind fun v5 =>
      if v5 = 0 then
        (ck 2 h a0 (f_X2_isLoyal a0 a1 v4 a2 a3 h)).bind fun v6 =>
        if v6 = 0 then
          b_X2_castOf_53 h a0 a1 a2 a3
        else
          some v4
      else
        b_X2_castOf_53 h a0 a1 a2 a3
set_option maxRecDepth 20000 in
theorem m_X2_castOf  {a0 : Option Nat} {a1 : Int32} {a2 : Int32} {a3 : Int32} {h : AH} {w : Int32} (hf : f_X2_castOf a0 a1 a2 a3 h = some w) : CT yX2_castOf (wU yX2_castOf cX2_castOf 9 (some .int)) (rmD 4 0 0) 0 0 [tR a0, tI a1, tI a2, tI a3] h (some (tI w), h) := by
  refine CT.of (cc := cX2_castOf) (nL := 9) (ret := (some .int)) (by decide) (by simp [lg_sl, vOf_cat, wOf]) ?_
  intro K X
  refine g_locs (lv' := [(0, tR a0), (1, tI a1), (2, tI a2), (3, tI a3)]) (fun q hq => hq) ?_
  unfold f_X2_castOf at hf
  refine g_aload_n X dX2_castOf_0 0 rfl ?_
  refine g_aload_n X dX2_castOf_1 0 rfl ?_
  refine g_getR X hf (T := TX2) rfl (by decide) (by decide) in_RX2 tb_221 rfl dX2_castOf_2 (fun v1 hf => ?_)
  refine g_iload_n X dX2_castOf_5 1 rfl ?_
  refine g_aaload X hf dX2_castOf_6 (fun v2 hf => ?_)
  refine g_getI X hf (T := TX5) rfl (by decide) (by decide) in_RX5 tb_74 rfl dX2_castOf_7 (fun v3 hf => ?_)
  refine g_iload_n X dX2_castOf_10 2 rfl ?_
  refine g_callV (n := 2) (av := [tI v3, tI a2]) (rest := []) (k := 2) X hf (fun v4 => (some (tI v4), h)) (fun _ q => m_X2_boundTo q) (gdV tb_555 tb_526 tb_527 tb_2 tb_528) rfl (by decide +kernel) rfl (by decide) rfl (by decide) (by decide) rfl (Nat.le_of_ble_eq_true rfl) dX2_castOf_11 (fun v4 hf => ?_)
  refine g_istore (lv' := [(0, tR a0), (1, tI a1), (2, tI a2), (3, tI a3), (4, tI v4)]) X dX2_castOf_14 (by decide) (in_pick [1, 2, 3, 4, 0] rfl) ?_
  refine g_iload X dX2_castOf_16 4 rfl ?_
  refine g_iflt (tgt := 53) X hf dX2_castOf_18 (by decide) (fun hf => ?_) (fun hf => ?_)
  · refine g_locs (lv' := [(0, tR a0), (1, tI a1), (2, tI a2), (3, tI a3)]) (in_pick [0, 1, 2, 3] rfl) ?_
    exact w_X2_castOf_53 X a0 a1 a2 a3 hf
  · refine g_iload X dX2_castOf_21 4 rfl ?_
    refine g_iload_n X dX2_castOf_23 1 rfl ?_
    refine g_icmpeq (tgt := 53) X hf dX2_castOf_24 (by decide) (fun hf => ?_) (fun hf => ?_)
    · refine g_locs (lv' := [(0, tR a0), (1, tI a1), (2, tI a2), (3, tI a3)]) (in_pick [0, 1, 2, 3] rfl) ?_
      exact w_X2_castOf_53 X a0 a1 a2 a3 hf
    · refine g_aload_n X dX2_castOf_27 0 rfl ?_
      refine g_iload X dX2_castOf_28 4 rfl ?_
      refine g_iload_n X dX2_castOf_30 2 rfl ?_
      refine g_iload_n X dX2_castOf_31 3 rfl ?_
      refine g_callV (n := 3) (av := [tI v4, tI a2, tI a3]) (rest := []) (k := 2) X hf (fun v5 => (some (tI v5), h)) (fun _ q => m_X2_isSent q) (gdV tb_537 tb_538 tb_539 tb_2 tb_540) rfl (by decide +kernel) rfl (by decide) rfl (by decide) (by decide) rfl (Nat.le_of_ble_eq_true rfl) dX2_castOf_32 (fun v5 hf => ?_)
      refine g_ifne (tgt := 53) X hf dX2_castOf_35 (by decide) (fun hf => ?_) (fun hf => ?_)
      · refine g_aload_n X dX2_castOf_38 0 rfl ?_
        refine g_iload_n X dX2_castOf_39 1 rfl ?_
        refine g_iload X dX2_castOf_40 4 rfl ?_
        refine g_iload_n X dX2_castOf_42 2 rfl ?_
        refine g_iload_n X dX2_castOf_43 3 rfl ?_
        refine g_callV (n := 4) (av := [tI a1, tI v4, tI a2, tI a3]) (rest := []) (k := 2) X hf (fun v6 => (some (tI v6), h)) (fun _ q => m_X2_isLoyal q) (gdV tb_556 tb_557 tb_1649 tb_2 tb_558) rfl (by decide +kernel) rfl (by decide) rfl (by decide) (by decide) rfl (Nat.le_of_ble_eq_true rfl) dX2_castOf_44 (fun v6 hf => ?_)
        refine g_ifeq (tgt := 53) X hf dX2_castOf_47 (by decide) (fun hf => ?_) (fun hf => ?_)
        · refine g_locs (lv' := [(0, tR a0), (1, tI a1), (2, tI a2), (3, tI a3)]) (in_pick [0, 1, 2, 3] rfl) ?_
          exact w_X2_castOf_53 X a0 a1 a2 a3 hf
        · refine g_iload X dX2_castOf_50 4 rfl ?_
          exact g_ireturn X (zP hf) (by decide) (by decide) dX2_castOf_52
      · refine g_locs (lv' := [(0, tR a0), (1, tI a1), (2, tI a2), (3, tI a3)]) (in_pick [0, 1, 2, 3] rfl) ?_
        exact w_X2_castOf_53 X a0 a1 a2 a3 hf
def b_X2_howManySent_4   (h : AH) : Nat → Option Nat → Int32 → Int32 → Option Int32
  | 0 => fun _ _ _ => none
  | n + 1 => fun x0 x1 x2 =>
    (gI 2 6 h x0).bind fun v1 =>
    if x2 < v1 then
      (gI 2 0 h x0).bind fun v2 =>
      (ck 2 h x0 (f_X2_isSent x0 x2 v2 (-1) h)).bind fun v3 =>
      if v3 = 0 then
        b_X2_howManySent_4 h n x0 x1 (x2 + 1)
      else
        b_X2_howManySent_4 h n x0 (x1 + 1) (x2 + 1)
    else
      some x1
set_option maxRecDepth 20000 in
theorem w_X2_howManySent_4 {K : KT} {w : Int32} {h : AH}   (X : CX K cX2_howManySent RX2 TB (some .int) "howManySent" (rmD 3 0 0) 3 0 0)  : ∀ (n : Nat) (x0 : Option Nat) (x1 : Int32) (x2 : Int32), b_X2_howManySent_4 h n x0 x1 x2 = some w → GG K (some (tI w), h) 0 0 4 [(0, tR x0), (1, tI x1), (2, tI x2)] [] h := by
  intro n
  induction n with
  | zero =>
    intro x0 x1 x2 hf
    cases (show none = some w from hf)
  | succ n ih =>
    intro x0 x1 x2 hf
    rw [b_X2_howManySent_4] at hf
    refine g_iload_n X dX2_howManySent_4 2 rfl ?_
    refine g_aload_n X dX2_howManySent_5 0 rfl ?_
    refine g_getI X hf (T := TX2) rfl (by decide) (by decide) in_RX2 tb_223 rfl dX2_howManySent_6 (fun v1 hf => ?_)
    refine g_icmpge (tgt := 34) X hf dX2_howManySent_9 (by decide) (fun hf => ?_) (fun hf => ?_)
    · refine g_aload_n X dX2_howManySent_12 0 rfl ?_
      refine g_iload_n X dX2_howManySent_13 2 rfl ?_
      refine g_aload_n X dX2_howManySent_14 0 rfl ?_
      refine g_getI X hf (T := TX2) rfl (by decide) (by decide) in_RX2 tb_211 rfl dX2_howManySent_15 (fun v2 hf => ?_)
      refine g_iconst (v := (-1)) X dX2_howManySent_18 (by decide) ?_
      refine g_callV (n := 3) (av := [tI x2, tI v2, tI (-1)]) (rest := []) (k := 2) X hf (fun v3 => (some (tI v3), h)) (fun _ q => m_X2_isSent q) (gdV tb_537 tb_538 tb_539 tb_2 tb_540) rfl (by decide +kernel) rfl (by decide) rfl (by decide) (by decide) rfl (Nat.le_of_ble_eq_true rfl) dX2_howManySent_19 (fun v3 hf => ?_)
      refine g_ifeq (tgt := 28) X hf dX2_howManySent_22 (by decide) (fun hf => ?_) (fun hf => ?_)
      · refine g_iinc (v := (x2 + 1)) (lv' := [(0, tR x0), (1, tI x1), (2, tI (x2 + 1))]) X dX2_howManySent_28 2 rfl (by rfl) (by decide) (in_pick [1, 2, 0] rfl) ?_
        refine g_goto (tgt := 4) X dX2_howManySent_31 (by decide) ?_
        exact ih x0 x1 (x2 + 1) hf
      · refine g_iinc (v := (x1 + 1)) (lv' := [(0, tR x0), (1, tI (x1 + 1)), (2, tI x2)]) X dX2_howManySent_25 1 rfl (by rfl) (by decide) (in_pick [1, 0, 2] rfl) ?_
        refine g_iinc (v := (x2 + 1)) (lv' := [(0, tR x0), (1, tI (x1 + 1)), (2, tI (x2 + 1))]) X dX2_howManySent_28 2 rfl (by rfl) (by decide) (in_pick [1, 2, 0] rfl) ?_
        refine g_goto (tgt := 4) X dX2_howManySent_31 (by decide) ?_
        exact ih x0 (x1 + 1) (x2 + 1) hf
    · refine g_iload_n X dX2_howManySent_34 1 rfl ?_
      exact g_ireturn X (zP hf) (by decide) (by decide) dX2_howManySent_35
def f_X2_howManySent  (a0 : Option Nat) (h : AH) : Option Int32 :=
  b_X2_howManySent_4 h FU a0 0 0
set_option maxRecDepth 20000 in
theorem m_X2_howManySent  {a0 : Option Nat} {h : AH} {w : Int32} (hf : f_X2_howManySent a0 h = some w) : CT yX2_howManySent (wU yX2_howManySent cX2_howManySent 3 (some .int)) (rmD 3 0 0) 0 0 [tR a0] h (some (tI w), h) := by
  refine CT.of (cc := cX2_howManySent) (nL := 3) (ret := (some .int)) (by decide) (by simp [lg_sl, vOf_cat, wOf]) ?_
  intro K X
  refine g_locs (lv' := [(0, tR a0)]) (fun q hq => hq) ?_
  unfold f_X2_howManySent at hf
  refine g_iconst (v := 0) X dX2_howManySent_0 (by decide) ?_
  refine g_istore_n (lv' := [(0, tR a0), (1, tI 0)]) X dX2_howManySent_1 (by decide) (in_pick [1, 0] rfl) ?_
  refine g_iconst (v := 0) X dX2_howManySent_2 (by decide) ?_
  refine g_istore_n (lv' := [(0, tR a0), (1, tI 0), (2, tI 0)]) X dX2_howManySent_3 (by decide) (in_pick [1, 2, 0] rfl) ?_
  exact w_X2_howManySent_4 X FU a0 0 0 hf
def b_X2_howManyCome_4   (h : AH) : Nat → Option Nat → Int32 → Int32 → Option Int32
  | 0 => fun _ _ _ => none
  | n + 1 => fun x0 x1 x2 =>
    (gI 2 6 h x0).bind fun v1 =>
    if x2 < v1 then
      (gI 2 0 h x0).bind fun v2 =>
      (ck 2 h x0 (f_X2_isThere x0 x2 v2 (-1) h)).bind fun v3 =>
      if v3 = 0 then
        b_X2_howManyCome_4 h n x0 x1 (x2 + 1)
      else
        b_X2_howManyCome_4 h n x0 (x1 + 1) (x2 + 1)
    else
      some x1
set_option maxRecDepth 20000 in
theorem w_X2_howManyCome_4 {K : KT} {w : Int32} {h : AH}   (X : CX K cX2_howManyCome RX2 TB (some .int) "howManyCome" (rmD 4 0 0) 3 0 0)  : ∀ (n : Nat) (x0 : Option Nat) (x1 : Int32) (x2 : Int32), b_X2_howManyCome_4 h n x0 x1 x2 = some w → GG K (some (tI w), h) 0 0 4 [(0, tR x0), (1, tI x1), (2, tI x2)] [] h := by
  intro n
  induction n with
  | zero =>
    intro x0 x1 x2 hf
    cases (show none = some w from hf)
  | succ n ih =>
    intro x0 x1 x2 hf
    rw [b_X2_howManyCome_4] at hf
    refine g_iload_n X dX2_howManyCome_4 2 rfl ?_
    refine g_aload_n X dX2_howManyCome_5 0 rfl ?_
    refine g_getI X hf (T := TX2) rfl (by decide) (by decide) in_RX2 tb_223 rfl dX2_howManyCome_6 (fun v1 hf => ?_)
    refine g_icmpge (tgt := 34) X hf dX2_howManyCome_9 (by decide) (fun hf => ?_) (fun hf => ?_)
    · refine g_aload_n X dX2_howManyCome_12 0 rfl ?_
      refine g_iload_n X dX2_howManyCome_13 2 rfl ?_
      refine g_aload_n X dX2_howManyCome_14 0 rfl ?_
      refine g_getI X hf (T := TX2) rfl (by decide) (by decide) in_RX2 tb_211 rfl dX2_howManyCome_15 (fun v2 hf => ?_)
      refine g_iconst (v := (-1)) X dX2_howManyCome_18 (by decide) ?_
      refine g_callV (n := 3) (av := [tI x2, tI v2, tI (-1)]) (rest := []) (k := 2) X hf (fun v3 => (some (tI v3), h)) (fun _ q => m_X2_isThere q) (gdV tb_1089 tb_534 tb_535 tb_2 tb_536) rfl (by decide +kernel) rfl (by decide) rfl (by decide) (by decide) rfl (Nat.le_of_ble_eq_true rfl) dX2_howManyCome_19 (fun v3 hf => ?_)
      refine g_ifeq (tgt := 28) X hf dX2_howManyCome_22 (by decide) (fun hf => ?_) (fun hf => ?_)
      · refine g_iinc (v := (x2 + 1)) (lv' := [(0, tR x0), (1, tI x1), (2, tI (x2 + 1))]) X dX2_howManyCome_28 2 rfl (by rfl) (by decide) (in_pick [1, 2, 0] rfl) ?_
        refine g_goto (tgt := 4) X dX2_howManyCome_31 (by decide) ?_
        exact ih x0 x1 (x2 + 1) hf
      · refine g_iinc (v := (x1 + 1)) (lv' := [(0, tR x0), (1, tI (x1 + 1)), (2, tI x2)]) X dX2_howManyCome_25 1 rfl (by rfl) (by decide) (in_pick [1, 0, 2] rfl) ?_
        refine g_iinc (v := (x2 + 1)) (lv' := [(0, tR x0), (1, tI (x1 + 1)), (2, tI (x2 + 1))]) X dX2_howManyCome_28 2 rfl (by rfl) (by decide) (in_pick [1, 2, 0] rfl) ?_
        refine g_goto (tgt := 4) X dX2_howManyCome_31 (by decide) ?_
        exact ih x0 (x1 + 1) (x2 + 1) hf
    · refine g_iload_n X dX2_howManyCome_34 1 rfl ?_
      exact g_ireturn X (zP hf) (by decide) (by decide) dX2_howManyCome_35
def f_X2_howManyCome  (a0 : Option Nat) (h : AH) : Option Int32 :=
  b_X2_howManyCome_4 h FU a0 0 0
set_option maxRecDepth 20000 in
theorem m_X2_howManyCome  {a0 : Option Nat} {h : AH} {w : Int32} (hf : f_X2_howManyCome a0 h = some w) : CT yX2_howManyCome (wU yX2_howManyCome cX2_howManyCome 3 (some .int)) (rmD 4 0 0) 0 0 [tR a0] h (some (tI w), h) := by
  refine CT.of (cc := cX2_howManyCome) (nL := 3) (ret := (some .int)) (by decide) (by simp [lg_sl, vOf_cat, wOf]) ?_
  intro K X
  refine g_locs (lv' := [(0, tR a0)]) (fun q hq => hq) ?_
  unfold f_X2_howManyCome at hf
  refine g_iconst (v := 0) X dX2_howManyCome_0 (by decide) ?_
  refine g_istore_n (lv' := [(0, tR a0), (1, tI 0)]) X dX2_howManyCome_1 (by decide) (in_pick [1, 0] rfl) ?_
  refine g_iconst (v := 0) X dX2_howManyCome_2 (by decide) ?_
  refine g_istore_n (lv' := [(0, tR a0), (1, tI 0), (2, tI 0)]) X dX2_howManyCome_3 (by decide) (in_pick [1, 2, 0] rfl) ?_
  exact w_X2_howManyCome_4 X FU a0 0 0 hf
def b_X6_begin_49    : Nat → Option Nat → Int32 → AH → Option AH
  | 0 => fun _ _ _ => none
  | n + 1 => fun x0 x2 h =>
    if x2 < 5 then
      (gR 6 5 h x0).bind fun v1 =>
      (sI h v1 x2 0).bind fun h2 =>
      b_X6_begin_49 n x0 (x2 + 1) h2
    else
      some h
set_option maxRecDepth 20000 in
theorem w_X6_begin_49 {K : KT} {w : AH}   (X : CX K cX6_begin RX6 TB none "begin" (rmD 1 0 0) 3 0 0)  : ∀ (n : Nat) (x0 : Option Nat) (x2 : Int32) (h : AH), b_X6_begin_49 n x0 x2 h = some w → GG K (none, w) 0 0 49 [(0, tR x0), (2, tI x2)] [] h := by
  intro n
  induction n with
  | zero =>
    intro x0 x2 h hf
    cases (show none = some w from hf)
  | succ n ih =>
    intro x0 x2 h hf
    rw [b_X6_begin_49] at hf
    refine g_iload_n X dX6_begin_49 1 rfl ?_
    refine g_iconst (v := 5) X dX6_begin_50 (by decide) ?_
    refine g_icmpge (tgt := 67) X hf dX6_begin_51 (by decide) (fun hf => ?_) (fun hf => ?_)
    · refine g_aload_n X dX6_begin_54 0 rfl ?_
      refine g_getR X hf (T := TX6) rfl (by decide) (by decide) in_RX6 tb_319 rfl dX6_begin_55 (fun v1 hf => ?_)
      refine g_iload_n X dX6_begin_58 1 rfl ?_
      refine g_iconst (v := 0) X dX6_begin_59 (by decide) ?_
      refine g_iastore X hf dX6_begin_60 (fun h2 hf => ?_)
      refine g_iinc (v := (x2 + 1)) (lv' := [(0, tR x0), (2, tI (x2 + 1))]) X dX6_begin_61 1 rfl (by rfl) (by decide) (in_pick [1, 0] rfl) ?_
      refine g_goto (tgt := 49) X dX6_begin_64 (by decide) ?_
      exact ih x0 (x2 + 1) h2 hf
    · exact g_vreturn X (zV hf) (by decide) (by decide) dX6_begin_67
def b_X6_begin_12    : Nat → Option Nat → Int32 → AH → Option AH
  | 0 => fun _ _ _ => none
  | n + 1 => fun x0 x2 h =>
    (gI 6 0 h x0).bind fun v1 =>
    if x2 < v1 then
      (gR 6 2 h x0).bind fun v2 =>
      (sI h v2 x2 0).bind fun h3 =>
      (gR 6 3 h3 x0).bind fun v4 =>
      (sI h3 v4 x2 0).bind fun h5 =>
      (gR 6 4 h5 x0).bind fun v6 =>
      (sI h5 v6 x2 0).bind fun h7 =>
      b_X6_begin_12 n x0 (x2 + 1) h7
    else
      b_X6_begin_49 FU x0 0 h
set_option maxRecDepth 20000 in
theorem w_X6_begin_12 {K : KT} {w : AH}   (X : CX K cX6_begin RX6 TB none "begin" (rmD 1 0 0) 3 0 0)  : ∀ (n : Nat) (x0 : Option Nat) (x2 : Int32) (h : AH), b_X6_begin_12 n x0 x2 h = some w → GG K (none, w) 0 0 12 [(0, tR x0), (2, tI x2)] [] h := by
  intro n
  induction n with
  | zero =>
    intro x0 x2 h hf
    cases (show none = some w from hf)
  | succ n ih =>
    intro x0 x2 h hf
    rw [b_X6_begin_12] at hf
    refine g_iload_n X dX6_begin_12 1 rfl ?_
    refine g_aload_n X dX6_begin_13 0 rfl ?_
    refine g_getI X hf (T := TX6) rfl (by decide) (by decide) in_RX6 tb_311 rfl dX6_begin_14 (fun v1 hf => ?_)
    refine g_icmpge (tgt := 47) X hf dX6_begin_17 (by decide) (fun hf => ?_) (fun hf => ?_)
    · refine g_aload_n X dX6_begin_20 0 rfl ?_
      refine g_getR X hf (T := TX6) rfl (by decide) (by decide) in_RX6 tb_314 rfl dX6_begin_21 (fun v2 hf => ?_)
      refine g_iload_n X dX6_begin_24 1 rfl ?_
      refine g_iconst (v := 0) X dX6_begin_25 (by decide) ?_
      refine g_iastore X hf dX6_begin_26 (fun h3 hf => ?_)
      refine g_aload_n X dX6_begin_27 0 rfl ?_
      refine g_getR X hf (T := TX6) rfl (by decide) (by decide) in_RX6 tb_316 rfl dX6_begin_28 (fun v4 hf => ?_)
      refine g_iload_n X dX6_begin_31 1 rfl ?_
      refine g_iconst (v := 0) X dX6_begin_32 (by decide) ?_
      refine g_iastore X hf dX6_begin_33 (fun h5 hf => ?_)
      refine g_aload_n X dX6_begin_34 0 rfl ?_
      refine g_getR X hf (T := TX6) rfl (by decide) (by decide) in_RX6 tb_318 rfl dX6_begin_35 (fun v6 hf => ?_)
      refine g_iload_n X dX6_begin_38 1 rfl ?_
      refine g_iconst (v := 0) X dX6_begin_39 (by decide) ?_
      refine g_iastore X hf dX6_begin_40 (fun h7 hf => ?_)
      refine g_iinc (v := (x2 + 1)) (lv' := [(0, tR x0), (2, tI (x2 + 1))]) X dX6_begin_41 1 rfl (by rfl) (by decide) (in_pick [1, 0] rfl) ?_
      refine g_goto (tgt := 12) X dX6_begin_44 (by decide) ?_
      exact ih x0 (x2 + 1) h7 hf
    · refine g_iconst (v := 0) X dX6_begin_47 (by decide) ?_
      refine g_istore_n (lv' := [(0, tR x0), (2, tI 0)]) X dX6_begin_48 (by decide) (in_pick [1, 0] rfl) ?_
      exact w_X6_begin_49 X FU x0 0 h hf
def f_X6_begin  (a0 : Option Nat) (a1 : Int32) (h : AH) : Option AH :=
  (pI 6 0 h a0 a1).bind fun h1 =>
  (pI 6 1 h1 a0 0).bind fun h2 =>
  b_X6_begin_12 FU a0 0 h2
set_option maxRecDepth 20000 in
theorem m_X6_begin  {a0 : Option Nat} {a1 : Int32} {h : AH} {w : AH} (hf : f_X6_begin a0 a1 h = some w) : CT yX6_begin (wU yX6_begin cX6_begin 3 none) (rmD 1 0 0) 0 0 [tR a0, tI a1] h (none, w) := by
  refine CT.of (cc := cX6_begin) (nL := 3) (ret := none) (by decide) (by simp [lg_sl, vOf_cat, wOf]) ?_
  intro K X
  refine g_locs (lv' := [(0, tR a0), (1, tI a1)]) (fun q hq => hq) ?_
  unfold f_X6_begin at hf
  refine g_aload_n X dX6_begin_0 0 rfl ?_
  refine g_iload_n X dX6_begin_1 1 rfl ?_
  refine g_putI X hf (T := TX6) rfl (by decide) (by decide) in_RX6 tyX6 tyX6_ok nmX6 tb_311 rfl rfl rfl dX6_begin_2 (fun h1 hf => ?_)
  refine g_aload_n X dX6_begin_5 0 rfl ?_
  refine g_iconst (v := 0) X dX6_begin_6 (by decide) ?_
  refine g_putI X hf (T := TX6) rfl (by decide) (by decide) in_RX6 tyX6 tyX6_ok nmX6 tb_312 rfl rfl rfl dX6_begin_7 (fun h2 hf => ?_)
  refine g_iconst (v := 0) X dX6_begin_10 (by decide) ?_
  refine g_istore_n (lv' := [(0, tR a0), (1, tI a1), (2, tI 0)]) X dX6_begin_11 (by decide) (in_pick [1, 2, 0] rfl) ?_
  refine g_locs (lv' := [(0, tR a0), (2, tI 0)]) (in_pick [0, 2] rfl) ?_
  exact w_X6_begin_12 X FU a0 0 h2 hf
def f_X8_isKnown  (a0 : Option Nat) (a1 : Int32) (h : AH) : Option Int32 :=
  (gI 8 7 h a0).bind fun v1 =>
  if a1 < v1 then
    some 0
  else
    (gI 8 8 h a0).bind fun v2 =>
    if v2 < 0 then
      some 1
    else
      (gI 8 8 h a0).bind fun v3 =>
      if a1 < v3 then
        some 1
      else
        some 0
set_option maxRecDepth 20000 in
theorem m_X8_isKnown  {a0 : Option Nat} {a1 : Int32} {h : AH} {w : Int32} (hf : f_X8_isKnown a0 a1 h = some w) : CT yX8_isKnown (wU yX8_isKnown cX8_isKnown 2 (some .boolean)) (rmD 1 0 0) 0 0 [tR a0, tI a1] h (some (tI w), h) := by
  refine CT.of (cc := cX8_isKnown) (nL := 2) (ret := (some .boolean)) (by decide) (by simp [lg_sl, vOf_cat, wOf]) ?_
  intro K X
  refine g_locs (lv' := [(0, tR a0), (1, tI a1)]) (fun q hq => hq) ?_
  unfold f_X8_isKnown at hf
  refine g_aload_n X dX8_isKnown_0 0 rfl ?_
  refine g_getI X hf (T := TX8) rfl (by decide) (by decide) in_RX8 tb_165 rfl dX8_isKnown_1 (fun v1 hf => ?_)
  refine g_iload_n X dX8_isKnown_4 1 rfl ?_
  refine g_icmpgt (tgt := 27) X hf dX8_isKnown_5 (by decide) (fun hf => ?_) (fun hf => ?_)
  · refine g_iconst (v := 0) X dX8_isKnown_27 (by decide) ?_
    exact g_zreturn X (zP hf) (by decide) (by decide) (by decide) dX8_isKnown_28
  · refine g_aload_n X dX8_isKnown_8 0 rfl ?_
    refine g_getI X hf (T := TX8) rfl (by decide) (by decide) in_RX8 tb_168 rfl dX8_isKnown_9 (fun v2 hf => ?_)
    refine g_iflt (tgt := 23) X hf dX8_isKnown_12 (by decide) (fun hf => ?_) (fun hf => ?_)
    · refine g_iconst (v := 1) X dX8_isKnown_23 (by decide) ?_
      refine g_goto (tgt := 28) X dX8_isKnown_24 (by decide) ?_
      exact g_zreturn X (zP hf) (by decide) (by decide) (by decide) dX8_isKnown_28
    · refine g_aload_n X dX8_isKnown_15 0 rfl ?_
      refine g_getI X hf (T := TX8) rfl (by decide) (by decide) in_RX8 tb_168 rfl dX8_isKnown_16 (fun v3 hf => ?_)
      refine g_iload_n X dX8_isKnown_19 1 rfl ?_
      refine g_icmple (tgt := 27) X hf dX8_isKnown_20 (by decide) (fun hf => ?_) (fun hf => ?_)
      · refine g_iconst (v := 1) X dX8_isKnown_23 (by decide) ?_
        refine g_goto (tgt := 28) X dX8_isKnown_24 (by decide) ?_
        exact g_zreturn X (zP hf) (by decide) (by decide) (by decide) dX8_isKnown_28
      · refine g_iconst (v := 0) X dX8_isKnown_27 (by decide) ?_
        exact g_zreturn X (zP hf) (by decide) (by decide) (by decide) dX8_isKnown_28
def f_X8_meant  (a0 : Option Nat) (h : AH) : Option Int32 :=
  (gI 8 9 h a0).bind fun v1 =>
  if v1 = 0 then
    (gI 8 10 h a0).bind fun v2 =>
    some v2
  else
    (gI 8 9 h a0).bind fun v3 =>
    some v3
set_option maxRecDepth 20000 in
theorem m_X8_meant  {a0 : Option Nat} {h : AH} {w : Int32} (hf : f_X8_meant a0 h = some w) : CT yX8_meant (wU yX8_meant cX8_meant 1 (some .int)) (rmD 1 0 0) 0 0 [tR a0] h (some (tI w), h) := by
  refine CT.of (cc := cX8_meant) (nL := 1) (ret := (some .int)) (by decide) (by simp [lg_sl, vOf_cat, wOf]) ?_
  intro K X
  refine g_locs (lv' := [(0, tR a0)]) (fun q hq => hq) ?_
  unfold f_X8_meant at hf
  refine g_aload_n X dX8_meant_0 0 rfl ?_
  refine g_getI X hf (T := TX8) rfl (by decide) (by decide) in_RX8 tb_170 rfl dX8_meant_1 (fun v1 hf => ?_)
  refine g_ifeq (tgt := 14) X hf dX8_meant_4 (by decide) (fun hf => ?_) (fun hf => ?_)
  · refine g_aload_n X dX8_meant_14 0 rfl ?_
    refine g_getI X hf (T := TX8) rfl (by decide) (by decide) in_RX8 tb_172 rfl dX8_meant_15 (fun v2 hf => ?_)
    exact g_ireturn X (zP hf) (by decide) (by decide) dX8_meant_18
  · refine g_aload_n X dX8_meant_7 0 rfl ?_
    refine g_getI X hf (T := TX8) rfl (by decide) (by decide) in_RX8 tb_170 rfl dX8_meant_8 (fun v3 hf => ?_)
    refine g_goto (tgt := 18) X dX8_meant_11 (by decide) ?_
    exact g_ireturn X (zP hf) (by decide) (by decide) dX8_meant_18
def f_X3_tells  (a0 : Option Nat) (a1 : Int32) (h : AH) : Option Int32 :=
  (gR 3 4 h a0).bind fun v1 =>
  (aI h v1 a1).bind fun v2 =>
  if v2 < 0 then
    some 0
  else
    some 1
set_option maxRecDepth 20000 in
theorem m_X3_tells  {a0 : Option Nat} {a1 : Int32} {h : AH} {w : Int32} (hf : f_X3_tells a0 a1 h = some w) : CT yX3_tells (wU yX3_tells cX3_tells 2 (some .boolean)) (rmD 1 0 0) 0 0 [tR a0, tI a1] h (some (tI w), h) := by
  refine CT.of (cc := cX3_tells) (nL := 2) (ret := (some .boolean)) (by decide) (by simp [lg_sl, vOf_cat, wOf]) ?_
  intro K X
  refine g_locs (lv' := [(0, tR a0), (1, tI a1)]) (fun q hq => hq) ?_
  unfold f_X3_tells at hf
  refine g_aload_n X dX3_tells_0 0 rfl ?_
  refine g_getR X hf (T := TX3) rfl (by decide) (by decide) in_RX3 tb_197 rfl dX3_tells_1 (fun v1 hf => ?_)
  refine g_iload_n X dX3_tells_4 1 rfl ?_
  refine g_iaload X hf dX3_tells_5 (fun v2 hf => ?_)
  refine g_iflt (tgt := 13) X hf dX3_tells_6 (by decide) (fun hf => ?_) (fun hf => ?_)
  · refine g_iconst (v := 0) X dX3_tells_13 (by decide) ?_
    exact g_zreturn X (zP hf) (by decide) (by decide) (by decide) dX3_tells_14
  · refine g_iconst (v := 1) X dX3_tells_9 (by decide) ?_
    refine g_goto (tgt := 14) X dX3_tells_10 (by decide) ?_
    exact g_zreturn X (zP hf) (by decide) (by decide) (by decide) dX3_tells_14
def f_X11_asAnswer  (a0 : Int32) (h : AH) : Option Int32 :=
  if a0 = 0 then
    some 0
  else
    some 1
set_option maxRecDepth 20000 in
theorem m_X11_asAnswer  {a0 : Int32} {h : AH} {w : Int32} (hf : f_X11_asAnswer a0 h = some w) : CT yX11_asAnswer (wU yX11_asAnswer cX11_asAnswer 1 (some .int)) (rmD 1 0 0) 0 0 [tI a0] h (some (tI w), h) := by
  refine CT.of (cc := cX11_asAnswer) (nL := 1) (ret := (some .int)) (by decide) (by simp [lg_sl, vOf_cat, wOf]) ?_
  intro K X
  refine g_locs (lv' := [(0, tI a0)]) (fun q hq => hq) ?_
  unfold f_X11_asAnswer at hf
  refine g_iload_n X dX11_asAnswer_0 0 rfl ?_
  refine g_ifeq (tgt := 8) X hf dX11_asAnswer_1 (by decide) (fun hf => ?_) (fun hf => ?_)
  · refine g_iconst (v := 0) X dX11_asAnswer_8 (by decide) ?_
    exact g_ireturn X (zP hf) (by decide) (by decide) dX11_asAnswer_9
  · refine g_iconst (v := 1) X dX11_asAnswer_4 (by decide) ?_
    refine g_goto (tgt := 9) X dX11_asAnswer_5 (by decide) ?_
    exact g_ireturn X (zP hf) (by decide) (by decide) dX11_asAnswer_9
def f_J6_bitCount_0f7a4  (a0 : Int32) (h : AH) : Option Int32 :=
  some ((((((((a0 - ((((a0).toUInt32 >>> ((1 : Int32).toUInt32 &&& Int32.toUInt32 31)).toInt32) &&& 1431655765)) &&& 858993459) + (((((a0 - ((((a0).toUInt32 >>> ((1 : Int32).toUInt32 &&& Int32.toUInt32 31)).toInt32) &&& 1431655765))).toUInt32 >>> ((2 : Int32).toUInt32 &&& Int32.toUInt32 31)).toInt32) &&& 858993459)) + ((((((a0 - ((((a0).toUInt32 >>> ((1 : Int32).toUInt32 &&& Int32.toUInt32 31)).toInt32) &&& 1431655765)) &&& 858993459) + (((((a0 - ((((a0).toUInt32 >>> ((1 : Int32).toUInt32 &&& Int32.toUInt32 31)).toInt32) &&& 1431655765))).toUInt32 >>> ((2 : Int32).toUInt32 &&& Int32.toUInt32 31)).toInt32) &&& 858993459))).toUInt32 >>> ((4 : Int32).toUInt32 &&& Int32.toUInt32 31)).toInt32)) &&& 252645135) + ((((((((a0 - ((((a0).toUInt32 >>> ((1 : Int32).toUInt32 &&& Int32.toUInt32 31)).toInt32) &&& 1431655765)) &&& 858993459) + (((((a0 - ((((a0).toUInt32 >>> ((1 : Int32).toUInt32 &&& Int32.toUInt32 31)).toInt32) &&& 1431655765))).toUInt32 >>> ((2 : Int32).toUInt32 &&& Int32.toUInt32 31)).toInt32) &&& 858993459)) + ((((((a0 - ((((a0).toUInt32 >>> ((1 : Int32).toUInt32 &&& Int32.toUInt32 31)).toInt32) &&& 1431655765)) &&& 858993459) + (((((a0 - ((((a0).toUInt32 >>> ((1 : Int32).toUInt32 &&& Int32.toUInt32 31)).toInt32) &&& 1431655765))).toUInt32 >>> ((2 : Int32).toUInt32 &&& Int32.toUInt32 31)).toInt32) &&& 858993459))).toUInt32 >>> ((4 : Int32).toUInt32 &&& Int32.toUInt32 31)).toInt32)) &&& 252645135)).toUInt32 >>> ((8 : Int32).toUInt32 &&& Int32.toUInt32 31)).toInt32)) + (((((((((a0 - ((((a0).toUInt32 >>> ((1 : Int32).toUInt32 &&& Int32.toUInt32 31)).toInt32) &&& 1431655765)) &&& 858993459) + (((((a0 - ((((a0).toUInt32 >>> ((1 : Int32).toUInt32 &&& Int32.toUInt32 31)).toInt32) &&& 1431655765))).toUInt32 >>> ((2 : Int32).toUInt32 &&& Int32.toUInt32 31)).toInt32) &&& 858993459)) + ((((((a0 - ((((a0).toUInt32 >>> ((1 : Int32).toUInt32 &&& Int32.toUInt32 31)).toInt32) &&& 1431655765)) &&& 858993459) + (((((a0 - ((((a0).toUInt32 >>> ((1 : Int32).toUInt32 &&& Int32.toUInt32 31)).toInt32) &&& 1431655765))).toUInt32 >>> ((2 : Int32).toUInt32 &&& Int32.toUInt32 31)).toInt32) &&& 858993459))).toUInt32 >>> ((4 : Int32).toUInt32 &&& Int32.toUInt32 31)).toInt32)) &&& 252645135) + ((((((((a0 - ((((a0).toUInt32 >>> ((1 : Int32).toUInt32 &&& Int32.toUInt32 31)).toInt32) &&& 1431655765)) &&& 858993459) + (((((a0 - ((((a0).toUInt32 >>> ((1 : Int32).toUInt32 &&& Int32.toUInt32 31)).toInt32) &&& 1431655765))).toUInt32 >>> ((2 : Int32).toUInt32 &&& Int32.toUInt32 31)).toInt32) &&& 858993459)) + ((((((a0 - ((((a0).toUInt32 >>> ((1 : Int32).toUInt32 &&& Int32.toUInt32 31)).toInt32) &&& 1431655765)) &&& 858993459) + (((((a0 - ((((a0).toUInt32 >>> ((1 : Int32).toUInt32 &&& Int32.toUInt32 31)).toInt32) &&& 1431655765))).toUInt32 >>> ((2 : Int32).toUInt32 &&& Int32.toUInt32 31)).toInt32) &&& 858993459))).toUInt32 >>> ((4 : Int32).toUInt32 &&& Int32.toUInt32 31)).toInt32)) &&& 252645135)).toUInt32 >>> ((8 : Int32).toUInt32 &&& Int32.toUInt32 31)).toInt32))).toUInt32 >>> ((16 : Int32).toUInt32 &&& Int32.toUInt32 31)).toInt32)) &&& 63)
set_option maxRecDepth 20000 in
theorem m_J6_bitCount_0f7a4  {a0 : Int32} {h : AH} {w : Int32} (hf : f_J6_bitCount_0f7a4 a0 h = some w) : CT yJ6_bitCount_0f7a4 (wU yJ6_bitCount_0f7a4 cJ6_bitCount_0f7a4 1 (some .int)) (rmD 1 0 0) 0 0 [tI a0] h (some (tI w), h) := by
  refine CT.of (cc := cJ6_bitCount_0f7a4) (nL := 1) (ret := (some .int)) (by decide) (by simp [lg_sl, vOf_cat, wOf]) ?_
  intro K X
  refine g_locs (lv' := [(0, tI a0)]) (fun q hq => hq) ?_
  unfold f_J6_bitCount_0f7a4 at hf
  refine g_iload_n X dJ6_bitCount_0f7a4_0 0 rfl ?_
  refine g_iload_n X dJ6_bitCount_0f7a4_1 0 rfl ?_
  refine g_iconst (v := 1) X dJ6_bitCount_0f7a4_2 (by decide) ?_
  refine g_iushr X dJ6_bitCount_0f7a4_3 ?_
  refine g_ldcw (v := 1431655765) X dJ6_bitCount_0f7a4_4 tb_614 ?_
  refine g_iand X dJ6_bitCount_0f7a4_7 ?_
  refine g_isub X dJ6_bitCount_0f7a4_8 ?_
  refine g_istore_n (lv' := [(0, tI (a0 - ((((a0).toUInt32 >>> ((1 : Int32).toUInt32 &&& Int32.toUInt32 31)).toInt32) &&& 1431655765)))]) X dJ6_bitCount_0f7a4_9 (by decide) (in_pick [0] rfl) ?_
  refine g_iload_n X dJ6_bitCount_0f7a4_10 0 rfl ?_
  refine g_ldcw (v := 858993459) X dJ6_bitCount_0f7a4_11 tb_615 ?_
  refine g_iand X dJ6_bitCount_0f7a4_14 ?_
  refine g_iload_n X dJ6_bitCount_0f7a4_15 0 rfl ?_
  refine g_iconst (v := 2) X dJ6_bitCount_0f7a4_16 (by decide) ?_
  refine g_iushr X dJ6_bitCount_0f7a4_17 ?_
  refine g_ldcw (v := 858993459) X dJ6_bitCount_0f7a4_18 tb_615 ?_
  refine g_iand X dJ6_bitCount_0f7a4_21 ?_
  refine g_iadd X dJ6_bitCount_0f7a4_22 ?_
  refine g_istore_n (lv' := [(0, tI (((a0 - ((((a0).toUInt32 >>> ((1 : Int32).toUInt32 &&& Int32.toUInt32 31)).toInt32) &&& 1431655765)) &&& 858993459) + (((((a0 - ((((a0).toUInt32 >>> ((1 : Int32).toUInt32 &&& Int32.toUInt32 31)).toInt32) &&& 1431655765))).toUInt32 >>> ((2 : Int32).toUInt32 &&& Int32.toUInt32 31)).toInt32) &&& 858993459)))]) X dJ6_bitCount_0f7a4_23 (by decide) (in_pick [0] rfl) ?_
  refine g_iload_n X dJ6_bitCount_0f7a4_24 0 rfl ?_
  refine g_iload_n X dJ6_bitCount_0f7a4_25 0 rfl ?_
  refine g_iconst (v := 4) X dJ6_bitCount_0f7a4_26 (by decide) ?_
  refine g_iushr X dJ6_bitCount_0f7a4_27 ?_
  refine g_iadd X dJ6_bitCount_0f7a4_28 ?_
  refine g_ldcw (v := 252645135) X dJ6_bitCount_0f7a4_29 tb_616 ?_
  refine g_iand X dJ6_bitCount_0f7a4_32 ?_
  refine g_istore_n (lv' := [(0, tI (((((a0 - ((((a0).toUInt32 >>> ((1 : Int32).toUInt32 &&& Int32.toUInt32 31)).toInt32) &&& 1431655765)) &&& 858993459) + (((((a0 - ((((a0).toUInt32 >>> ((1 : Int32).toUInt32 &&& Int32.toUInt32 31)).toInt32) &&& 1431655765))).toUInt32 >>> ((2 : Int32).toUInt32 &&& Int32.toUInt32 31)).toInt32) &&& 858993459)) + ((((((a0 - ((((a0).toUInt32 >>> ((1 : Int32).toUInt32 &&& Int32.toUInt32 31)).toInt32) &&& 1431655765)) &&& 858993459) + (((((a0 - ((((a0).toUInt32 >>> ((1 : Int32).toUInt32 &&& Int32.toUInt32 31)).toInt32) &&& 1431655765))).toUInt32 >>> ((2 : Int32).toUInt32 &&& Int32.toUInt32 31)).toInt32) &&& 858993459))).toUInt32 >>> ((4 : Int32).toUInt32 &&& Int32.toUInt32 31)).toInt32)) &&& 252645135))]) X dJ6_bitCount_0f7a4_33 (by decide) (in_pick [0] rfl) ?_
  refine g_iload_n X dJ6_bitCount_0f7a4_34 0 rfl ?_
  refine g_iload_n X dJ6_bitCount_0f7a4_35 0 rfl ?_
  refine g_bipush (v := 8) X dJ6_bitCount_0f7a4_36 (by decide) ?_
  refine g_iushr X dJ6_bitCount_0f7a4_38 ?_
  refine g_iadd X dJ6_bitCount_0f7a4_39 ?_
  refine g_istore_n (lv' := [(0, tI ((((((a0 - ((((a0).toUInt32 >>> ((1 : Int32).toUInt32 &&& Int32.toUInt32 31)).toInt32) &&& 1431655765)) &&& 858993459) + (((((a0 - ((((a0).toUInt32 >>> ((1 : Int32).toUInt32 &&& Int32.toUInt32 31)).toInt32) &&& 1431655765))).toUInt32 >>> ((2 : Int32).toUInt32 &&& Int32.toUInt32 31)).toInt32) &&& 858993459)) + ((((((a0 - ((((a0).toUInt32 >>> ((1 : Int32).toUInt32 &&& Int32.toUInt32 31)).toInt32) &&& 1431655765)) &&& 858993459) + (((((a0 - ((((a0).toUInt32 >>> ((1 : Int32).toUInt32 &&& Int32.toUInt32 31)).toInt32) &&& 1431655765))).toUInt32 >>> ((2 : Int32).toUInt32 &&& Int32.toUInt32 31)).toInt32) &&& 858993459))).toUInt32 >>> ((4 : Int32).toUInt32 &&& Int32.toUInt32 31)).toInt32)) &&& 252645135) + ((((((((a0 - ((((a0).toUInt32 >>> ((1 : Int32).toUInt32 &&& Int32.toUInt32 31)).toInt32) &&& 1431655765)) &&& 858993459) + (((((a0 - ((((a0).toUInt32 >>> ((1 : Int32).toUInt32 &&& Int32.toUInt32 31)).toInt32) &&& 1431655765))).toUInt32 >>> ((2 : Int32).toUInt32 &&& Int32.toUInt32 31)).toInt32) &&& 858993459)) + ((((((a0 - ((((a0).toUInt32 >>> ((1 : Int32).toUInt32 &&& Int32.toUInt32 31)).toInt32) &&& 1431655765)) &&& 858993459) + (((((a0 - ((((a0).toUInt32 >>> ((1 : Int32).toUInt32 &&& Int32.toUInt32 31)).toInt32) &&& 1431655765))).toUInt32 >>> ((2 : Int32).toUInt32 &&& Int32.toUInt32 31)).toInt32) &&& 858993459))).toUInt32 >>> ((4 : Int32).toUInt32 &&& Int32.toUInt32 31)).toInt32)) &&& 252645135)).toUInt32 >>> ((8 : Int32).toUInt32 &&& Int32.toUInt32 31)).toInt32)))]) X dJ6_bitCount_0f7a4_40 (by decide) (in_pick [0] rfl) ?_
  refine g_iload_n X dJ6_bitCount_0f7a4_41 0 rfl ?_
  refine g_iload_n X dJ6_bitCount_0f7a4_42 0 rfl ?_
  refine g_bipush (v := 16) X dJ6_bitCount_0f7a4_43 (by decide) ?_
  refine g_iushr X dJ6_bitCount_0f7a4_45 ?_
  refine g_iadd X dJ6_bitCount_0f7a4_46 ?_
  refine g_istore_n (lv' := [(0, tI (((((((a0 - ((((a0).toUInt32 >>> ((1 : Int32).toUInt32 &&& Int32.toUInt32 31)).toInt32) &&& 1431655765)) &&& 858993459) + (((((a0 - ((((a0).toUInt32 >>> ((1 : Int32).toUInt32 &&& Int32.toUInt32 31)).toInt32) &&& 1431655765))).toUInt32 >>> ((2 : Int32).toUInt32 &&& Int32.toUInt32 31)).toInt32) &&& 858993459)) + ((((((a0 - ((((a0).toUInt32 >>> ((1 : Int32).toUInt32 &&& Int32.toUInt32 31)).toInt32) &&& 1431655765)) &&& 858993459) + (((((a0 - ((((a0).toUInt32 >>> ((1 : Int32).toUInt32 &&& Int32.toUInt32 31)).toInt32) &&& 1431655765))).toUInt32 >>> ((2 : Int32).toUInt32 &&& Int32.toUInt32 31)).toInt32) &&& 858993459))).toUInt32 >>> ((4 : Int32).toUInt32 &&& Int32.toUInt32 31)).toInt32)) &&& 252645135) + ((((((((a0 - ((((a0).toUInt32 >>> ((1 : Int32).toUInt32 &&& Int32.toUInt32 31)).toInt32) &&& 1431655765)) &&& 858993459) + (((((a0 - ((((a0).toUInt32 >>> ((1 : Int32).toUInt32 &&& Int32.toUInt32 31)).toInt32) &&& 1431655765))).toUInt32 >>> ((2 : Int32).toUInt32 &&& Int32.toUInt32 31)).toInt32) &&& 858993459)) + ((((((a0 - ((((a0).toUInt32 >>> ((1 : Int32).toUInt32 &&& Int32.toUInt32 31)).toInt32) &&& 1431655765)) &&& 858993459) + (((((a0 - ((((a0).toUInt32 >>> ((1 : Int32).toUInt32 &&& Int32.toUInt32 31)).toInt32) &&& 1431655765))).toUInt32 >>> ((2 : Int32).toUInt32 &&& Int32.toUInt32 31)).toInt32) &&& 858993459))).toUInt32 >>> ((4 : Int32).toUInt32 &&& Int32.toUInt32 31)).toInt32)) &&& 252645135)).toUInt32 >>> ((8 : Int32).toUInt32 &&& Int32.toUInt32 31)).toInt32)) + (((((((((a0 - ((((a0).toUInt32 >>> ((1 : Int32).toUInt32 &&& Int32.toUInt32 31)).toInt32) &&& 1431655765)) &&& 858993459) + (((((a0 - ((((a0).toUInt32 >>> ((1 : Int32).toUInt32 &&& Int32.toUInt32 31)).toInt32) &&& 1431655765))).toUInt32 >>> ((2 : Int32).toUInt32 &&& Int32.toUInt32 31)).toInt32) &&& 858993459)) + ((((((a0 - ((((a0).toUInt32 >>> ((1 : Int32).toUInt32 &&& Int32.toUInt32 31)).toInt32) &&& 1431655765)) &&& 858993459) + (((((a0 - ((((a0).toUInt32 >>> ((1 : Int32).toUInt32 &&& Int32.toUInt32 31)).toInt32) &&& 1431655765))).toUInt32 >>> ((2 : Int32).toUInt32 &&& Int32.toUInt32 31)).toInt32) &&& 858993459))).toUInt32 >>> ((4 : Int32).toUInt32 &&& Int32.toUInt32 31)).toInt32)) &&& 252645135) + ((((((((a0 - ((((a0).toUInt32 >>> ((1 : Int32).toUInt32 &&& Int32.toUInt32 31)).toInt32) &&& 1431655765)) &&& 858993459) + (((((a0 - ((((a0).toUInt32 >>> ((1 : Int32).toUInt32 &&& Int32.toUInt32 31)).toInt32) &&& 1431655765))).toUInt32 >>> ((2 : Int32).toUInt32 &&& Int32.toUInt32 31)).toInt32) &&& 858993459)) + ((((((a0 - ((((a0).toUInt32 >>> ((1 : Int32).toUInt32 &&& Int32.toUInt32 31)).toInt32) &&& 1431655765)) &&& 858993459) + (((((a0 - ((((a0).toUInt32 >>> ((1 : Int32).toUInt32 &&& Int32.toUInt32 31)).toInt32) &&& 1431655765))).toUInt32 >>> ((2 : Int32).toUInt32 &&& Int32.toUInt32 31)).toInt32) &&& 858993459))).toUInt32 >>> ((4 : Int32).toUInt32 &&& Int32.toUInt32 31)).toInt32)) &&& 252645135)).toUInt32 >>> ((8 : Int32).toUInt32 &&& Int32.toUInt32 31)).toInt32))).toUInt32 >>> ((16 : Int32).toUInt32 &&& Int32.toUInt32 31)).toInt32)))]) X dJ6_bitCount_0f7a4_47 (by decide) (in_pick [0] rfl) ?_
  refine g_iload_n X dJ6_bitCount_0f7a4_48 0 rfl ?_
  refine g_bipush (v := 63) X dJ6_bitCount_0f7a4_49 (by decide) ?_
  refine g_iand X dJ6_bitCount_0f7a4_51 ?_
  exact g_ireturn X (zP hf) (by decide) (by decide) dJ6_bitCount_0f7a4_52
def f_X8_isSure  (a0 : Option Nat) (h : AH) : Option Int32 :=
  (gI 8 9 h a0).bind fun v1 =>
  (f_J6_bitCount_0f7a4 v1 h).bind fun v2 =>
  if v2 = 1 then
    some 1
  else
    some 0
set_option maxRecDepth 20000 in
theorem m_X8_isSure  {a0 : Option Nat} {h : AH} {w : Int32} (hf : f_X8_isSure a0 h = some w) : CT yX8_isSure (wU yX8_isSure cX8_isSure 1 (some .boolean)) (rmD 2 0 0) 0 0 [tR a0] h (some (tI w), h) := by
  refine CT.of (cc := cX8_isSure) (nL := 1) (ret := (some .boolean)) (by decide) (by simp [lg_sl, vOf_cat, wOf]) ?_
  intro K X
  refine g_locs (lv' := [(0, tR a0)]) (fun q hq => hq) ?_
  unfold f_X8_isSure at hf
  refine g_aload_n X dX8_isSure_0 0 rfl ?_
  refine g_getI X hf (T := TX8) rfl (by decide) (by decide) in_RX8 tb_170 rfl dX8_isSure_1 (fun v1 hf => ?_)
  refine g_callS (n := 1) (av := [tI v1]) (rest := []) X hf (fun v2 => (some (tI v2), h)) (fun _ q => m_J6_bitCount_0f7a4 q) (gdS tb_611 tb_612 tb_14 tb_613) rfl (by decide +kernel) rfl (by decide) (by decide) rfl (Nat.le_of_ble_eq_true rfl) dX8_isSure_4 (fun v2 hf => ?_)
  refine g_iconst (v := 1) X dX8_isSure_7 (by decide) ?_
  refine g_icmpne (tgt := 15) X hf dX8_isSure_8 (by decide) (fun hf => ?_) (fun hf => ?_)
  · refine g_iconst (v := 1) X dX8_isSure_11 (by decide) ?_
    refine g_goto (tgt := 16) X dX8_isSure_12 (by decide) ?_
    exact g_zreturn X (zP hf) (by decide) (by decide) (by decide) dX8_isSure_16
  · refine g_iconst (v := 0) X dX8_isSure_15 (by decide) ?_
    exact g_zreturn X (zP hf) (by decide) (by decide) (by decide) dX8_isSure_16
def b_X3_step_332   (x0 : Option Nat) (x3 : Int32) (x5 : Int32) (h : AH) : Option (Int32 × AH) :=
  (gR 3 7 h x0).bind fun v1 =>
  (sI h v1 (x3 - 2) x5).bind fun h2 =>
  some ((x3 - 1), h2)
set_option maxRecDepth 20000 in
theorem w_X3_step_332 {K : KT} {w : (Int32 × AH)}   (X : CX K cX3_step RX3 TB (some .int) "step" (rmD 1 0 0) 7 0 0)  (x0 : Option Nat) (x3 : Int32) (x5 : Int32) (h : AH) (hf : b_X3_step_332 x0 x3 x5 h = some w) : GG K (some (tI w.1), w.2) 0 0 332 [(0, tR x0), (3, tI x3), (5, tI x5)] [] h := by
  unfold b_X3_step_332 at hf
  refine g_aload_n X dX3_step_332 0 rfl ?_
  refine g_getR X hf (T := TX3) rfl (by decide) (by decide) in_RX3 tb_202 rfl dX3_step_333 (fun v1 hf => ?_)
  refine g_iload_n X dX3_step_336 1 rfl ?_
  refine g_iconst (v := 2) X dX3_step_337 (by decide) ?_
  refine g_isub X dX3_step_338 ?_
  refine g_iload X dX3_step_339 2 rfl ?_
  refine g_iastore X hf dX3_step_341 (fun h2 hf => ?_)
  refine g_iload_n X dX3_step_342 1 rfl ?_
  refine g_iconst (v := 1) X dX3_step_343 (by decide) ?_
  refine g_isub X dX3_step_344 ?_
  exact g_ireturn X (zW hf) (by decide) (by decide) dX3_step_345
def b_X3_step_150   (x3 : Int32) (s0 : Option Nat) (s1 : Int32) (s2 : Int32) (h : AH) : Option (Int32 × AH) :=
  (sI h s0 s1 s2).bind fun h1 =>
  some (x3, h1)
set_option maxRecDepth 20000 in
theorem w_X3_step_150 {K : KT} {w : (Int32 × AH)}   (X : CX K cX3_step RX3 TB (some .int) "step" (rmD 1 0 0) 7 0 0)  (x3 : Int32) (s0 : Option Nat) (s1 : Int32) (s2 : Int32) (h : AH) (hf : b_X3_step_150 x3 s0 s1 s2 h = some w) : GG K (some (tI w.1), w.2) 0 0 150 [(3, tI x3)] [tI s2, tI s1, tR s0] h := by
  unfold b_X3_step_150 at hf
  refine g_iastore X hf dX3_step_150 (fun h1 hf => ?_)
  refine g_iload_n X dX3_step_151 0 rfl ?_
  exact g_ireturn X (zW hf) (by decide) (by decide) dX3_step_152
def b_X3_step_142   (x3 : Int32) (s0 : Option Nat) (s1 : Int32) (s2 : Int32) (s3 : Int32) (h : AH) : Option (Int32 × AH) :=
  if s2 = s3 then
    b_X3_step_150 x3 s0 s1 1 h
  else
    b_X3_step_150 x3 s0 s1 0 h
set_option maxRecDepth 20000 in
theorem w_X3_step_142 {K : KT} {w : (Int32 × AH)}   (X : CX K cX3_step RX3 TB (some .int) "step" (rmD 1 0 0) 7 0 0)  (x3 : Int32) (s0 : Option Nat) (s1 : Int32) (s2 : Int32) (s3 : Int32) (h : AH) (hf : b_X3_step_142 x3 s0 s1 s2 s3 h = some w) : GG K (some (tI w.1), w.2) 0 0 142 [(3, tI x3)] [tI s3, tI s2, tI s1, tR s0] h := by
  unfold b_X3_step_142 at hf
  refine g_icmpne (tgt := 149) X hf dX3_step_142 (by decide) (fun hf => ?_) (fun hf => ?_)
  · refine g_iconst (v := 1) X dX3_step_145 (by decide) ?_
    refine g_goto (tgt := 150) X dX3_step_146 (by decide) ?_
    exact w_X3_step_150 X x3 s0 s1 1 h hf
  · refine g_iconst (v := 0) X dX3_step_149 (by decide) ?_
    exact w_X3_step_150 X x3 s0 s1 0 h hf
def b_X3_step_120   (x0 : Option Nat) (x1 : Int32) (x3 : Int32) (s0 : Int32) (h : AH) : Option (Int32 × AH) :=
  (gR 3 7 h x0).bind fun v1 =>
  if x1 = 26 then
    b_X3_step_142 x3 v1 (x3 - 1) s0 1 h
  else
    b_X3_step_142 x3 v1 (x3 - 1) s0 0 h
set_option maxRecDepth 20000 in
theorem w_X3_step_120 {K : KT} {w : (Int32 × AH)}   (X : CX K cX3_step RX3 TB (some .int) "step" (rmD 1 0 0) 7 0 0)  (x0 : Option Nat) (x1 : Int32) (x3 : Int32) (s0 : Int32) (h : AH) (hf : b_X3_step_120 x0 x1 x3 s0 h = some w) : GG K (some (tI w.1), w.2) 0 0 120 [(0, tR x0), (1, tI x1), (3, tI x3)] [tI s0] h := by
  unfold b_X3_step_120 at hf
  refine g_istore (lv' := [(0, tR x0), (1, tI x1), (3, tI x3), (5, tI s0)]) X dX3_step_120 (by decide) (in_pick [1, 2, 3, 0] rfl) ?_
  refine g_aload_n X dX3_step_122 0 rfl ?_
  refine g_getR X hf (T := TX3) rfl (by decide) (by decide) in_RX3 tb_202 rfl dX3_step_123 (fun v1 hf => ?_)
  refine g_iload_n X dX3_step_126 2 rfl ?_
  refine g_iconst (v := 1) X dX3_step_127 (by decide) ?_
  refine g_isub X dX3_step_128 ?_
  refine g_iload X dX3_step_129 3 rfl ?_
  refine g_iload_n X dX3_step_131 1 rfl ?_
  refine g_bipush (v := 26) X dX3_step_132 (by decide) ?_
  refine g_icmpne (tgt := 141) X hf dX3_step_134 (by decide) (fun hf => ?_) (fun hf => ?_)
  · refine g_iconst (v := 1) X dX3_step_137 (by decide) ?_
    refine g_goto (tgt := 142) X dX3_step_138 (by decide) ?_
    refine g_locs (lv' := [(3, tI x3)]) (in_pick [2] rfl) ?_
    exact w_X3_step_142 X x3 v1 (x3 - 1) s0 1 h hf
  · refine g_iconst (v := 0) X dX3_step_141 (by decide) ?_
    refine g_locs (lv' := [(3, tI x3)]) (in_pick [2] rfl) ?_
    exact w_X3_step_142 X x3 v1 (x3 - 1) s0 0 h hf
def b_X3_step_94   (x0 : Option Nat) (x1 : Int32) (x3 : Int32) (x4 : Int32) (s0 : Int32) (s1 : Int32) (h : AH) : Option (Int32 × AH) :=
  if s0 < s1 then
    some (x3, h)
  else
    if x4 = 0 then
      (gR 3 7 h x0).bind fun v1 =>
      (aI h v1 (x3 - 2)).bind fun v2 =>
      (gR 3 7 h x0).bind fun v3 =>
      (aI h v3 (x3 - 1)).bind fun v4 =>
      if x1 < 8 ∨ 21 < x1 then
        b_X3_step_332 x0 x3 (v2 ||| v4) h
      else if x1 = 8 then
        b_X3_step_332 x0 x3 (v2 &&& v4) h
      else if x1 = 9 then
        b_X3_step_332 x0 x3 (v2 ||| v4) h
      else if x1 = 10 then
        b_X3_step_332 x0 x3 (v2 ||| v4) h
      else if x1 = 11 then
        b_X3_step_332 x0 x3 (v2 ||| v4) h
      else if x1 = 12 then
        b_X3_step_332 x0 x3 (v2 ||| v4) h
      else if x1 = 13 then
        b_X3_step_332 x0 x3 (v2 ||| v4) h
      else if x1 = 14 then
        b_X3_step_332 x0 x3 (v2 ||| v4) h
      else if x1 = 15 then
        b_X3_step_332 x0 x3 (v2 ||| v4) h
      else if x1 = 16 then
        if v2 < v4 then
          b_X3_step_332 x0 x3 1 h
        else
          b_X3_step_332 x0 x3 0 h
      else if x1 = 17 then
        if v2 = v4 then
          b_X3_step_332 x0 x3 1 h
        else
          b_X3_step_332 x0 x3 0 h
      else if x1 = 18 then
        if v4 < v2 then
          b_X3_step_332 x0 x3 1 h
        else
          b_X3_step_332 x0 x3 0 h
      else if x1 = 19 then
        b_X3_step_332 x0 x3 (v2 ||| v4) h
      else if x1 = 20 then
        b_X3_step_332 x0 x3 (v2 + v4) h
      else if x1 = 21 then
        b_X3_step_332 x0 x3 (v2 - v4) h
      else none
    else
      (gR 3 7 h x0).bind fun v5 =>
      (aI h v5 (x3 - 1)).bind fun v6 =>
      if v6 = 0 then
        b_X3_step_120 x0 x1 x3 0 h
      else
        b_X3_step_120 x0 x1 x3 1 h
set_option maxRecDepth 20000 in
theorem w_X3_step_94 {K : KT} {w : (Int32 × AH)}   (X : CX K cX3_step RX3 TB (some .int) "step" (rmD 1 0 0) 7 0 0)  (x0 : Option Nat) (x1 : Int32) (x3 : Int32) (x4 : Int32) (s0 : Int32) (s1 : Int32) (h : AH) (hf : b_X3_step_94 x0 x1 x3 x4 s0 s1 h = some w) : GG K (some (tI w.1), w.2) 0 0 94 [(0, tR x0), (1, tI x1), (3, tI x3), (4, tI x4)] [tI s1, tI s0] h := by
  unfold b_X3_step_94 at hf
  refine g_icmpge (tgt := 99) X hf dX3_step_94 (by decide) (fun hf => ?_) (fun hf => ?_)
  · refine g_iload_n X dX3_step_97 2 rfl ?_
    exact g_ireturn X (zW hf) (by decide) (by decide) dX3_step_98
  · refine g_iload X dX3_step_99 3 rfl ?_
    refine g_ifeq (tgt := 153) X hf dX3_step_101 (by decide) (fun hf => ?_) (fun hf => ?_)
    · refine g_aload_n X dX3_step_153 0 rfl ?_
      refine g_getR X hf (T := TX3) rfl (by decide) (by decide) in_RX3 tb_202 rfl dX3_step_154 (fun v1 hf => ?_)
      refine g_iload_n X dX3_step_157 2 rfl ?_
      refine g_iconst (v := 2) X dX3_step_158 (by decide) ?_
      refine g_isub X dX3_step_159 ?_
      refine g_iaload X hf dX3_step_160 (fun v2 hf => ?_)
      refine g_istore (lv' := [(0, tR x0), (1, tI x1), (3, tI x3), (4, tI x4), (5, tI v2)]) X dX3_step_161 (by decide) (in_pick [1, 2, 3, 4, 0] rfl) ?_
      refine g_aload_n X dX3_step_163 0 rfl ?_
      refine g_getR X hf (T := TX3) rfl (by decide) (by decide) in_RX3 tb_202 rfl dX3_step_164 (fun v3 hf => ?_)
      refine g_iload_n X dX3_step_167 2 rfl ?_
      refine g_iconst (v := 1) X dX3_step_168 (by decide) ?_
      refine g_isub X dX3_step_169 ?_
      refine g_iaload X hf dX3_step_170 (fun v4 hf => ?_)
      refine g_istore (lv' := [(0, tR x0), (1, tI x1), (3, tI x3), (4, tI x4), (5, tI v2), (6, tI v4)]) X dX3_step_171 (by decide) (in_pick [1, 2, 3, 4, 5, 0] rfl) ?_
      refine g_iload_n X dX3_step_173 1 rfl ?_
      by_cases hsw : x1 < 8 ∨ 21 < x1
      · rw [if_pos hsw] at hf
        refine g_tabOut (tgt := 325) X dX3_step_174 (tab_out hsw) (by decide) ?_
        refine g_iload X dX3_step_325 4 rfl ?_
        refine g_iload X dX3_step_327 5 rfl ?_
        refine g_ior X dX3_step_329 ?_
        refine g_istore (lv' := [(0, tR x0), (1, tI x1), (3, tI x3), (4, tI x4), (5, tI (v2 ||| v4)), (6, tI v4)]) X dX3_step_330 (by decide) (in_pick [1, 2, 3, 4, 0, 5] rfl) ?_
        refine g_locs (lv' := [(0, tR x0), (3, tI x3), (5, tI (v2 ||| v4))]) (in_pick [0, 2, 4] rfl) ?_
        exact w_X3_step_332 X x0 x3 (v2 ||| v4) h hf
      rw [if_neg hsw] at hf
      by_cases hs0 : x1 = 8
      · rw [if_pos hs0] at hf
        refine g_tabIn (off := 141) (tgt := 315) X 8 hs0 dX3_step_174 (by decide) (by decide) (by decide +kernel) (by decide) ?_
        refine g_iload X dX3_step_315 4 rfl ?_
        refine g_iload X dX3_step_317 5 rfl ?_
        refine g_iand X dX3_step_319 ?_
        refine g_istore (lv' := [(0, tR x0), (1, tI x1), (3, tI x3), (4, tI x4), (5, tI (v2 &&& v4)), (6, tI v4)]) X dX3_step_320 (by decide) (in_pick [1, 2, 3, 4, 0, 5] rfl) ?_
        refine g_goto (tgt := 332) X dX3_step_322 (by decide) ?_
        refine g_locs (lv' := [(0, tR x0), (3, tI x3), (5, tI (v2 &&& v4))]) (in_pick [0, 2, 4] rfl) ?_
        exact w_X3_step_332 X x0 x3 (v2 &&& v4) h hf
      rw [if_neg hs0] at hf
      by_cases hs1 : x1 = 9
      · rw [if_pos hs1] at hf
        refine g_tabIn (off := 151) (tgt := 325) X 9 hs1 dX3_step_174 (by decide) (by decide) (by decide +kernel) (by decide) ?_
        refine g_iload X dX3_step_325 4 rfl ?_
        refine g_iload X dX3_step_327 5 rfl ?_
        refine g_ior X dX3_step_329 ?_
        refine g_istore (lv' := [(0, tR x0), (1, tI x1), (3, tI x3), (4, tI x4), (5, tI (v2 ||| v4)), (6, tI v4)]) X dX3_step_330 (by decide) (in_pick [1, 2, 3, 4, 0, 5] rfl) ?_
        refine g_locs (lv' := [(0, tR x0), (3, tI x3), (5, tI (v2 ||| v4))]) (in_pick [0, 2, 4] rfl) ?_
        exact w_X3_step_332 X x0 x3 (v2 ||| v4) h hf
      rw [if_neg hs1] at hf
      by_cases hs2 : x1 = 10
      · rw [if_pos hs2] at hf
        refine g_tabIn (off := 151) (tgt := 325) X 10 hs2 dX3_step_174 (by decide) (by decide) (by decide +kernel) (by decide) ?_
        refine g_iload X dX3_step_325 4 rfl ?_
        refine g_iload X dX3_step_327 5 rfl ?_
        refine g_ior X dX3_step_329 ?_
        refine g_istore (lv' := [(0, tR x0), (1, tI x1), (3, tI x3), (4, tI x4), (5, tI (v2 ||| v4)), (6, tI v4)]) X dX3_step_330 (by decide) (in_pick [1, 2, 3, 4, 0, 5] rfl) ?_
        refine g_locs (lv' := [(0, tR x0), (3, tI x3), (5, tI (v2 ||| v4))]) (in_pick [0, 2, 4] rfl) ?_
        exact w_X3_step_332 X x0 x3 (v2 ||| v4) h hf
      rw [if_neg hs2] at hf
      by_cases hs3 : x1 = 11
      · rw [if_pos hs3] at hf
        refine g_tabIn (off := 151) (tgt := 325) X 11 hs3 dX3_step_174 (by decide) (by decide) (by decide +kernel) (by decide) ?_
        refine g_iload X dX3_step_325 4 rfl ?_
        refine g_iload X dX3_step_327 5 rfl ?_
        refine g_ior X dX3_step_329 ?_
        refine g_istore (lv' := [(0, tR x0), (1, tI x1), (3, tI x3), (4, tI x4), (5, tI (v2 ||| v4)), (6, tI v4)]) X dX3_step_330 (by decide) (in_pick [1, 2, 3, 4, 0, 5] rfl) ?_
        refine g_locs (lv' := [(0, tR x0), (3, tI x3), (5, tI (v2 ||| v4))]) (in_pick [0, 2, 4] rfl) ?_
        exact w_X3_step_332 X x0 x3 (v2 ||| v4) h hf
      rw [if_neg hs3] at hf
      by_cases hs4 : x1 = 12
      · rw [if_pos hs4] at hf
        refine g_tabIn (off := 151) (tgt := 325) X 12 hs4 dX3_step_174 (by decide) (by decide) (by decide +kernel) (by decide) ?_
        refine g_iload X dX3_step_325 4 rfl ?_
        refine g_iload X dX3_step_327 5 rfl ?_
        refine g_ior X dX3_step_329 ?_
        refine g_istore (lv' := [(0, tR x0), (1, tI x1), (3, tI x3), (4, tI x4), (5, tI (v2 ||| v4)), (6, tI v4)]) X dX3_step_330 (by decide) (in_pick [1, 2, 3, 4, 0, 5] rfl) ?_
        refine g_locs (lv' := [(0, tR x0), (3, tI x3), (5, tI (v2 ||| v4))]) (in_pick [0, 2, 4] rfl) ?_
        exact w_X3_step_332 X x0 x3 (v2 ||| v4) h hf
      rw [if_neg hs4] at hf
      by_cases hs5 : x1 = 13
      · rw [if_pos hs5] at hf
        refine g_tabIn (off := 151) (tgt := 325) X 13 hs5 dX3_step_174 (by decide) (by decide) (by decide +kernel) (by decide) ?_
        refine g_iload X dX3_step_325 4 rfl ?_
        refine g_iload X dX3_step_327 5 rfl ?_
        refine g_ior X dX3_step_329 ?_
        refine g_istore (lv' := [(0, tR x0), (1, tI x1), (3, tI x3), (4, tI x4), (5, tI (v2 ||| v4)), (6, tI v4)]) X dX3_step_330 (by decide) (in_pick [1, 2, 3, 4, 0, 5] rfl) ?_
        refine g_locs (lv' := [(0, tR x0), (3, tI x3), (5, tI (v2 ||| v4))]) (in_pick [0, 2, 4] rfl) ?_
        exact w_X3_step_332 X x0 x3 (v2 ||| v4) h hf
      rw [if_neg hs5] at hf
      by_cases hs6 : x1 = 14
      · rw [if_pos hs6] at hf
        refine g_tabIn (off := 151) (tgt := 325) X 14 hs6 dX3_step_174 (by decide) (by decide) (by decide +kernel) (by decide) ?_
        refine g_iload X dX3_step_325 4 rfl ?_
        refine g_iload X dX3_step_327 5 rfl ?_
        refine g_ior X dX3_step_329 ?_
        refine g_istore (lv' := [(0, tR x0), (1, tI x1), (3, tI x3), (4, tI x4), (5, tI (v2 ||| v4)), (6, tI v4)]) X dX3_step_330 (by decide) (in_pick [1, 2, 3, 4, 0, 5] rfl) ?_
        refine g_locs (lv' := [(0, tR x0), (3, tI x3), (5, tI (v2 ||| v4))]) (in_pick [0, 2, 4] rfl) ?_
        exact w_X3_step_332 X x0 x3 (v2 ||| v4) h hf
      rw [if_neg hs6] at hf
      by_cases hs7 : x1 = 15
      · rw [if_pos hs7] at hf
        refine g_tabIn (off := 151) (tgt := 325) X 15 hs7 dX3_step_174 (by decide) (by decide) (by decide +kernel) (by decide) ?_
        refine g_iload X dX3_step_325 4 rfl ?_
        refine g_iload X dX3_step_327 5 rfl ?_
        refine g_ior X dX3_step_329 ?_
        refine g_istore (lv' := [(0, tR x0), (1, tI x1), (3, tI x3), (4, tI x4), (5, tI (v2 ||| v4)), (6, tI v4)]) X dX3_step_330 (by decide) (in_pick [1, 2, 3, 4, 0, 5] rfl) ?_
        refine g_locs (lv' := [(0, tR x0), (3, tI x3), (5, tI (v2 ||| v4))]) (in_pick [0, 2, 4] rfl) ?_
        exact w_X3_step_332 X x0 x3 (v2 ||| v4) h hf
      rw [if_neg hs7] at hf
      by_cases hs8 : x1 = 16
      · rw [if_pos hs8] at hf
        refine g_tabIn (off := 90) (tgt := 264) X 16 hs8 dX3_step_174 (by decide) (by decide) (by decide +kernel) (by decide) ?_
        refine g_iload X dX3_step_264 4 rfl ?_
        refine g_iload X dX3_step_266 5 rfl ?_
        refine g_icmpge (tgt := 275) X hf dX3_step_268 (by decide) (fun hf => ?_) (fun hf => ?_)
        · refine g_iconst (v := 1) X dX3_step_271 (by decide) ?_
          refine g_goto (tgt := 276) X dX3_step_272 (by decide) ?_
          refine g_istore (lv' := [(0, tR x0), (1, tI x1), (3, tI x3), (4, tI x4), (5, tI 1), (6, tI v4)]) X dX3_step_276 (by decide) (in_pick [1, 2, 3, 4, 0, 5] rfl) ?_
          refine g_goto (tgt := 332) X dX3_step_278 (by decide) ?_
          refine g_locs (lv' := [(0, tR x0), (3, tI x3), (5, tI 1)]) (in_pick [0, 2, 4] rfl) ?_
          exact w_X3_step_332 X x0 x3 1 h hf
        · refine g_iconst (v := 0) X dX3_step_275 (by decide) ?_
          refine g_istore (lv' := [(0, tR x0), (1, tI x1), (3, tI x3), (4, tI x4), (5, tI 0), (6, tI v4)]) X dX3_step_276 (by decide) (in_pick [1, 2, 3, 4, 0, 5] rfl) ?_
          refine g_goto (tgt := 332) X dX3_step_278 (by decide) ?_
          refine g_locs (lv' := [(0, tR x0), (3, tI x3), (5, tI 0)]) (in_pick [0, 2, 4] rfl) ?_
          exact w_X3_step_332 X x0 x3 0 h hf
      rw [if_neg hs8] at hf
      by_cases hs9 : x1 = 17
      · rw [if_pos hs9] at hf
        refine g_tabIn (off := 107) (tgt := 281) X 17 hs9 dX3_step_174 (by decide) (by decide) (by decide +kernel) (by decide) ?_
        refine g_iload X dX3_step_281 4 rfl ?_
        refine g_iload X dX3_step_283 5 rfl ?_
        refine g_icmpne (tgt := 292) X hf dX3_step_285 (by decide) (fun hf => ?_) (fun hf => ?_)
        · refine g_iconst (v := 1) X dX3_step_288 (by decide) ?_
          refine g_goto (tgt := 293) X dX3_step_289 (by decide) ?_
          refine g_istore (lv' := [(0, tR x0), (1, tI x1), (3, tI x3), (4, tI x4), (5, tI 1), (6, tI v4)]) X dX3_step_293 (by decide) (in_pick [1, 2, 3, 4, 0, 5] rfl) ?_
          refine g_goto (tgt := 332) X dX3_step_295 (by decide) ?_
          refine g_locs (lv' := [(0, tR x0), (3, tI x3), (5, tI 1)]) (in_pick [0, 2, 4] rfl) ?_
          exact w_X3_step_332 X x0 x3 1 h hf
        · refine g_iconst (v := 0) X dX3_step_292 (by decide) ?_
          refine g_istore (lv' := [(0, tR x0), (1, tI x1), (3, tI x3), (4, tI x4), (5, tI 0), (6, tI v4)]) X dX3_step_293 (by decide) (in_pick [1, 2, 3, 4, 0, 5] rfl) ?_
          refine g_goto (tgt := 332) X dX3_step_295 (by decide) ?_
          refine g_locs (lv' := [(0, tR x0), (3, tI x3), (5, tI 0)]) (in_pick [0, 2, 4] rfl) ?_
          exact w_X3_step_332 X x0 x3 0 h hf
      rw [if_neg hs9] at hf
      by_cases hs10 : x1 = 18
      · rw [if_pos hs10] at hf
        refine g_tabIn (off := 124) (tgt := 298) X 18 hs10 dX3_step_174 (by decide) (by decide) (by decide +kernel) (by decide) ?_
        refine g_iload X dX3_step_298 4 rfl ?_
        refine g_iload X dX3_step_300 5 rfl ?_
        refine g_icmple (tgt := 309) X hf dX3_step_302 (by decide) (fun hf => ?_) (fun hf => ?_)
        · refine g_iconst (v := 1) X dX3_step_305 (by decide) ?_
          refine g_goto (tgt := 310) X dX3_step_306 (by decide) ?_
          refine g_istore (lv' := [(0, tR x0), (1, tI x1), (3, tI x3), (4, tI x4), (5, tI 1), (6, tI v4)]) X dX3_step_310 (by decide) (in_pick [1, 2, 3, 4, 0, 5] rfl) ?_
          refine g_goto (tgt := 332) X dX3_step_312 (by decide) ?_
          refine g_locs (lv' := [(0, tR x0), (3, tI x3), (5, tI 1)]) (in_pick [0, 2, 4] rfl) ?_
          exact w_X3_step_332 X x0 x3 1 h hf
        · refine g_iconst (v := 0) X dX3_step_309 (by decide) ?_
          refine g_istore (lv' := [(0, tR x0), (1, tI x1), (3, tI x3), (4, tI x4), (5, tI 0), (6, tI v4)]) X dX3_step_310 (by decide) (in_pick [1, 2, 3, 4, 0, 5] rfl) ?_
          refine g_goto (tgt := 332) X dX3_step_312 (by decide) ?_
          refine g_locs (lv' := [(0, tR x0), (3, tI x3), (5, tI 0)]) (in_pick [0, 2, 4] rfl) ?_
          exact w_X3_step_332 X x0 x3 0 h hf
      rw [if_neg hs10] at hf
      by_cases hs11 : x1 = 19
      · rw [if_pos hs11] at hf
        refine g_tabIn (off := 151) (tgt := 325) X 19 hs11 dX3_step_174 (by decide) (by decide) (by decide +kernel) (by decide) ?_
        refine g_iload X dX3_step_325 4 rfl ?_
        refine g_iload X dX3_step_327 5 rfl ?_
        refine g_ior X dX3_step_329 ?_
        refine g_istore (lv' := [(0, tR x0), (1, tI x1), (3, tI x3), (4, tI x4), (5, tI (v2 ||| v4)), (6, tI v4)]) X dX3_step_330 (by decide) (in_pick [1, 2, 3, 4, 0, 5] rfl) ?_
        refine g_locs (lv' := [(0, tR x0), (3, tI x3), (5, tI (v2 ||| v4))]) (in_pick [0, 2, 4] rfl) ?_
        exact w_X3_step_332 X x0 x3 (v2 ||| v4) h hf
      rw [if_neg hs11] at hf
      by_cases hs12 : x1 = 20
      · rw [if_pos hs12] at hf
        refine g_tabIn (off := 70) (tgt := 244) X 20 hs12 dX3_step_174 (by decide) (by decide) (by decide +kernel) (by decide) ?_
        refine g_iload X dX3_step_244 4 rfl ?_
        refine g_iload X dX3_step_246 5 rfl ?_
        refine g_iadd X dX3_step_248 ?_
        refine g_istore (lv' := [(0, tR x0), (1, tI x1), (3, tI x3), (4, tI x4), (5, tI (v2 + v4)), (6, tI v4)]) X dX3_step_249 (by decide) (in_pick [1, 2, 3, 4, 0, 5] rfl) ?_
        refine g_goto (tgt := 332) X dX3_step_251 (by decide) ?_
        refine g_locs (lv' := [(0, tR x0), (3, tI x3), (5, tI (v2 + v4))]) (in_pick [0, 2, 4] rfl) ?_
        exact w_X3_step_332 X x0 x3 (v2 + v4) h hf
      rw [if_neg hs12] at hf
      by_cases hs13 : x1 = 21
      · rw [if_pos hs13] at hf
        refine g_tabIn (off := 80) (tgt := 254) X 21 hs13 dX3_step_174 (by decide) (by decide) (by decide +kernel) (by decide) ?_
        refine g_iload X dX3_step_254 4 rfl ?_
        refine g_iload X dX3_step_256 5 rfl ?_
        refine g_isub X dX3_step_258 ?_
        refine g_istore (lv' := [(0, tR x0), (1, tI x1), (3, tI x3), (4, tI x4), (5, tI (v2 - v4)), (6, tI v4)]) X dX3_step_259 (by decide) (in_pick [1, 2, 3, 4, 0, 5] rfl) ?_
        refine g_goto (tgt := 332) X dX3_step_261 (by decide) ?_
        refine g_locs (lv' := [(0, tR x0), (3, tI x3), (5, tI (v2 - v4))]) (in_pick [0, 2, 4] rfl) ?_
        exact w_X3_step_332 X x0 x3 (v2 - v4) h hf
      rw [if_neg hs13] at hf
      cases hf
    · refine g_aload_n X dX3_step_104 0 rfl ?_
      refine g_getR X hf (T := TX3) rfl (by decide) (by decide) in_RX3 tb_202 rfl dX3_step_105 (fun v5 hf => ?_)
      refine g_iload_n X dX3_step_108 2 rfl ?_
      refine g_iconst (v := 1) X dX3_step_109 (by decide) ?_
      refine g_isub X dX3_step_110 ?_
      refine g_iaload X hf dX3_step_111 (fun v6 hf => ?_)
      refine g_ifeq (tgt := 119) X hf dX3_step_112 (by decide) (fun hf => ?_) (fun hf => ?_)
      · refine g_iconst (v := 0) X dX3_step_119 (by decide) ?_
        refine g_locs (lv' := [(0, tR x0), (1, tI x1), (3, tI x3)]) (in_pick [0, 1, 2] rfl) ?_
        exact w_X3_step_120 X x0 x1 x3 0 h hf
      · refine g_iconst (v := 1) X dX3_step_115 (by decide) ?_
        refine g_goto (tgt := 120) X dX3_step_116 (by decide) ?_
        refine g_locs (lv' := [(0, tR x0), (1, tI x1), (3, tI x3)]) (in_pick [0, 1, 2] rfl) ?_
        exact w_X3_step_120 X x0 x1 x3 1 h hf
def b_X3_step_81   (x0 : Option Nat) (x1 : Int32) (x3 : Int32) (s0 : Int32) (h : AH) : Option (Int32 × AH) :=
  if s0 = 0 then
    b_X3_step_94 x0 x1 x3 s0 x3 2 h
  else
    b_X3_step_94 x0 x1 x3 s0 x3 1 h
set_option maxRecDepth 20000 in
theorem w_X3_step_81 {K : KT} {w : (Int32 × AH)}   (X : CX K cX3_step RX3 TB (some .int) "step" (rmD 1 0 0) 7 0 0)  (x0 : Option Nat) (x1 : Int32) (x3 : Int32) (s0 : Int32) (h : AH) (hf : b_X3_step_81 x0 x1 x3 s0 h = some w) : GG K (some (tI w.1), w.2) 0 0 81 [(0, tR x0), (1, tI x1), (3, tI x3)] [tI s0] h := by
  unfold b_X3_step_81 at hf
  refine g_istore (lv' := [(0, tR x0), (1, tI x1), (3, tI x3), (4, tI s0)]) X dX3_step_81 (by decide) (in_pick [1, 2, 3, 0] rfl) ?_
  refine g_iload_n X dX3_step_83 2 rfl ?_
  refine g_iload X dX3_step_84 3 rfl ?_
  refine g_ifeq (tgt := 93) X hf dX3_step_86 (by decide) (fun hf => ?_) (fun hf => ?_)
  · refine g_iconst (v := 2) X dX3_step_93 (by decide) ?_
    exact w_X3_step_94 X x0 x1 x3 s0 x3 2 h hf
  · refine g_iconst (v := 1) X dX3_step_89 (by decide) ?_
    refine g_goto (tgt := 94) X dX3_step_90 (by decide) ?_
    exact w_X3_step_94 X x0 x1 x3 s0 x3 1 h hf
def b_X3_step_59   (x3 : Int32) (s0 : Option Nat) (s1 : Int32) (s2 : Int32) (h : AH) : Option (Int32 × AH) :=
  (sI h s0 s1 s2).bind fun h1 =>
  some ((x3 + 1), h1)
set_option maxRecDepth 20000 in
theorem w_X3_step_59 {K : KT} {w : (Int32 × AH)}   (X : CX K cX3_step RX3 TB (some .int) "step" (rmD 1 0 0) 7 0 0)  (x3 : Int32) (s0 : Option Nat) (s1 : Int32) (s2 : Int32) (h : AH) (hf : b_X3_step_59 x3 s0 s1 s2 h = some w) : GG K (some (tI w.1), w.2) 0 0 59 [(3, tI x3)] [tI s2, tI s1, tR s0] h := by
  unfold b_X3_step_59 at hf
  refine g_iastore X hf dX3_step_59 (fun h1 hf => ?_)
  refine g_iload_n X dX3_step_60 0 rfl ?_
  refine g_iconst (v := 1) X dX3_step_61 (by decide) ?_
  refine g_iadd X dX3_step_62 ?_
  exact g_ireturn X (zW hf) (by decide) (by decide) dX3_step_63
def b_X3_step_38   (x0 : Option Nat) (x1 : Int32) (x2 : Int32) (x3 : Int32) (h : AH) : Option (Int32 × AH) :=
  (gR 3 7 h x0).bind fun v1 =>
  if x1 = 25 then
    (gR 3 6 h x0).bind fun v2 =>
    (aI h v2 x2).bind fun v3 =>
    b_X3_step_59 x3 v1 x3 v3 h
  else
    b_X3_step_59 x3 v1 x3 x2 h
set_option maxRecDepth 20000 in
theorem w_X3_step_38 {K : KT} {w : (Int32 × AH)}   (X : CX K cX3_step RX3 TB (some .int) "step" (rmD 1 0 0) 7 0 0)  (x0 : Option Nat) (x1 : Int32) (x2 : Int32) (x3 : Int32) (h : AH) (hf : b_X3_step_38 x0 x1 x2 x3 h = some w) : GG K (some (tI w.1), w.2) 0 0 38 [(0, tR x0), (1, tI x1), (2, tI x2), (3, tI x3)] [] h := by
  unfold b_X3_step_38 at hf
  refine g_aload_n X dX3_step_38 0 rfl ?_
  refine g_getR X hf (T := TX3) rfl (by decide) (by decide) in_RX3 tb_202 rfl dX3_step_39 (fun v1 hf => ?_)
  refine g_iload_n X dX3_step_42 3 rfl ?_
  refine g_iload_n X dX3_step_43 1 rfl ?_
  refine g_bipush (v := 25) X dX3_step_44 (by decide) ?_
  refine g_icmpne (tgt := 58) X hf dX3_step_46 (by decide) (fun hf => ?_) (fun hf => ?_)
  · refine g_aload_n X dX3_step_49 0 rfl ?_
    refine g_getR X hf (T := TX3) rfl (by decide) (by decide) in_RX3 tb_201 rfl dX3_step_50 (fun v2 hf => ?_)
    refine g_iload_n X dX3_step_53 2 rfl ?_
    refine g_iaload X hf dX3_step_54 (fun v3 hf => ?_)
    refine g_goto (tgt := 59) X dX3_step_55 (by decide) ?_
    refine g_locs (lv' := [(3, tI x3)]) (in_pick [3] rfl) ?_
    exact w_X3_step_59 X x3 v1 x3 v3 h hf
  · refine g_iload_n X dX3_step_58 2 rfl ?_
    refine g_locs (lv' := [(3, tI x3)]) (in_pick [3] rfl) ?_
    exact w_X3_step_59 X x3 v1 x3 x2 h hf
def b_X3_step_12   (x0 : Option Nat) (x1 : Int32) (x2 : Int32) (x3 : Int32) (h : AH) : Option (Int32 × AH) :=
  (gR 3 7 h x0).bind fun v1 =>
  (aL h v1).bind fun v2 =>
  if x3 < v2 then
    if x1 = 25 then
      (gR 3 6 h x0).bind fun v3 =>
      (aL h v3).bind fun v4 =>
      if x2 < v4 then
        b_X3_step_38 x0 x1 x2 x3 h
      else
        some (x3, h)
    else
      b_X3_step_38 x0 x1 x2 x3 h
  else
    some (x3, h)
set_option maxRecDepth 20000 in
theorem w_X3_step_12 {K : KT} {w : (Int32 × AH)}   (X : CX K cX3_step RX3 TB (some .int) "step" (rmD 1 0 0) 7 0 0)  (x0 : Option Nat) (x1 : Int32) (x2 : Int32) (x3 : Int32) (h : AH) (hf : b_X3_step_12 x0 x1 x2 x3 h = some w) : GG K (some (tI w.1), w.2) 0 0 12 [(0, tR x0), (1, tI x1), (2, tI x2), (3, tI x3)] [] h := by
  unfold b_X3_step_12 at hf
  refine g_iload_n X dX3_step_12 3 rfl ?_
  refine g_aload_n X dX3_step_13 0 rfl ?_
  refine g_getR X hf (T := TX3) rfl (by decide) (by decide) in_RX3 tb_202 rfl dX3_step_14 (fun v1 hf => ?_)
  refine g_alen X hf dX3_step_17 (fun v2 hf => ?_)
  refine g_icmpge (tgt := 36) X hf dX3_step_18 (by decide) (fun hf => ?_) (fun hf => ?_)
  · refine g_iload_n X dX3_step_21 1 rfl ?_
    refine g_bipush (v := 25) X dX3_step_22 (by decide) ?_
    refine g_icmpne (tgt := 38) X hf dX3_step_24 (by decide) (fun hf => ?_) (fun hf => ?_)
    · refine g_iload_n X dX3_step_27 2 rfl ?_
      refine g_aload_n X dX3_step_28 0 rfl ?_
      refine g_getR X hf (T := TX3) rfl (by decide) (by decide) in_RX3 tb_201 rfl dX3_step_29 (fun v3 hf => ?_)
      refine g_alen X hf dX3_step_32 (fun v4 hf => ?_)
      refine g_icmplt (tgt := 38) X hf dX3_step_33 (by decide) (fun hf => ?_) (fun hf => ?_)
      · exact w_X3_step_38 X x0 x1 x2 x3 h hf
      · refine g_iload_n X dX3_step_36 3 rfl ?_
        exact g_ireturn X (zW hf) (by decide) (by decide) dX3_step_37
    · exact w_X3_step_38 X x0 x1 x2 x3 h hf
  · refine g_iload_n X dX3_step_36 3 rfl ?_
    exact g_ireturn X (zW hf) (by decide) (by decide) dX3_step_37
def f_X3_step  (a0 : Option Nat) (a1 : Int32) (a2 : Int32) (a3 : Int32) (h : AH) : Option (Int32 × AH) :=
  if a1 = 24 then
    b_X3_step_12 a0 a1 a2 a3 h
  else
    if a1 = 25 then
      b_X3_step_12 a0 a1 a2 a3 h
    else
      if a1 = 12 then
        b_X3_step_81 a0 a1 a3 1 h
      else
        if a1 = 26 then
          b_X3_step_81 a0 a1 a3 1 h
        else
          b_X3_step_81 a0 a1 a3 0 h
set_option maxRecDepth 20000 in
theorem m_X3_step  {a0 : Option Nat} {a1 : Int32} {a2 : Int32} {a3 : Int32} {h : AH} {w : (Int32 × AH)} (hf : f_X3_step a0 a1 a2 a3 h = some w) : CT yX3_step (wU yX3_step cX3_step 7 (some .int)) (rmD 1 0 0) 0 0 [tR a0, tI a1, tI a2, tI a3] h (some (tI w.1), w.2) := by
  refine CT.of (cc := cX3_step) (nL := 7) (ret := (some .int)) (by decide) (by simp [lg_sl, vOf_cat, wOf]) ?_
  intro K X
  refine g_locs (lv' := [(0, tR a0), (1, tI a1), (2, tI a2), (3, tI a3)]) (fun q hq => hq) ?_
  unfold f_X3_step at hf
  refine g_iload_n X dX3_step_0 1 rfl ?_
  refine g_bipush (v := 24) X dX3_step_1 (by decide) ?_
  refine g_icmpeq (tgt := 12) X hf dX3_step_3 (by decide) (fun hf => ?_) (fun hf => ?_)
  · exact w_X3_step_12 X a0 a1 a2 a3 h hf
  · refine g_iload_n X dX3_step_6 1 rfl ?_
    refine g_bipush (v := 25) X dX3_step_7 (by decide) ?_
    refine g_icmpne (tgt := 64) X hf dX3_step_9 (by decide) (fun hf => ?_) (fun hf => ?_)
    · exact w_X3_step_12 X a0 a1 a2 a3 h hf
    · refine g_iload_n X dX3_step_64 1 rfl ?_
      refine g_bipush (v := 12) X dX3_step_65 (by decide) ?_
      refine g_icmpeq (tgt := 76) X hf dX3_step_67 (by decide) (fun hf => ?_) (fun hf => ?_)
      · refine g_iconst (v := 1) X dX3_step_76 (by decide) ?_
        refine g_goto (tgt := 81) X dX3_step_77 (by decide) ?_
        refine g_locs (lv' := [(0, tR a0), (1, tI a1), (3, tI a3)]) (in_pick [0, 1, 3] rfl) ?_
        exact w_X3_step_81 X a0 a1 a3 1 h hf
      · refine g_iload_n X dX3_step_70 1 rfl ?_
        refine g_bipush (v := 26) X dX3_step_71 (by decide) ?_
        refine g_icmpne (tgt := 80) X hf dX3_step_73 (by decide) (fun hf => ?_) (fun hf => ?_)
        · refine g_iconst (v := 1) X dX3_step_76 (by decide) ?_
          refine g_goto (tgt := 81) X dX3_step_77 (by decide) ?_
          refine g_locs (lv' := [(0, tR a0), (1, tI a1), (3, tI a3)]) (in_pick [0, 1, 3] rfl) ?_
          exact w_X3_step_81 X a0 a1 a3 1 h hf
        · refine g_iconst (v := 0) X dX3_step_80 (by decide) ?_
          refine g_locs (lv' := [(0, tR a0), (1, tI a1), (3, tI a3)]) (in_pick [0, 1, 3] rfl) ?_
          exact w_X3_step_81 X a0 a1 a3 0 h hf
def b_X3_holds_9    : Nat → Option Nat → Int32 → Int32 → Int32 → AH → Option (Int32 × AH)
  | 0 => fun _ _ _ _ _ => none
  | n + 1 => fun x0 x1 x2 x3 h =>
    (gR 3 5 h x0).bind fun v1 =>
    (aI h v1 x1).bind fun v2 =>
    if x3 < v2 then
      (gR 3 2 h x0).bind fun v3 =>
      (aI h v3 x3).bind fun v4 =>
      (gR 3 2 h x0).bind fun v5 =>
      (aI h v5 x3).bind fun v6 =>
      (ck 3 h x0 (f_X3_step x0 (v4 >>> (16 &&& 31)) (v6 &&& 65535) x2 h)).bind fun p7 =>
      b_X3_holds_9 n x0 x1 p7.1 (x3 + 1) p7.2
    else
      if 0 < x2 then
        (gR 3 7 h x0).bind fun v8 =>
        (aI h v8 (x2 - 1)).bind fun v9 =>
        if v9 = 0 then
          some (0, h)
        else
          some (1, h)
      else
        some (0, h)
set_option maxRecDepth 20000 in
theorem w_X3_holds_9 {K : KT} {w : (Int32 × AH)}   (X : CX K cX3_holds RX3 TB (some .boolean) "holds" (rmD 2 0 0) 4 0 0)  : ∀ (n : Nat) (x0 : Option Nat) (x1 : Int32) (x2 : Int32) (x3 : Int32) (h : AH), b_X3_holds_9 n x0 x1 x2 x3 h = some w → GG K (some (tI w.1), w.2) 0 0 9 [(0, tR x0), (1, tI x1), (2, tI x2), (3, tI x3)] [] h := by
  intro n
  induction n with
  | zero =>
    intro x0 x1 x2 x3 h hf
    cases (show none = some w from hf)
  | succ n ih =>
    intro x0 x1 x2 x3 h hf
    rw [b_X3_holds_9] at hf
    refine g_iload_n X dX3_holds_9 3 rfl ?_
    refine g_aload_n X dX3_holds_10 0 rfl ?_
    refine g_getR X hf (T := TX3) rfl (by decide) (by decide) in_RX3 tb_199 rfl dX3_holds_11 (fun v1 hf => ?_)
    refine g_iload_n X dX3_holds_14 1 rfl ?_
    refine g_iaload X hf dX3_holds_15 (fun v2 hf => ?_)
    refine g_icmpge (tgt := 49) X hf dX3_holds_16 (by decide) (fun hf => ?_) (fun hf => ?_)
    · refine g_aload_n X dX3_holds_19 0 rfl ?_
      refine g_aload_n X dX3_holds_20 0 rfl ?_
      refine g_getR X hf (T := TX3) rfl (by decide) (by decide) in_RX3 tb_194 rfl dX3_holds_21 (fun v3 hf => ?_)
      refine g_iload_n X dX3_holds_24 3 rfl ?_
      refine g_iaload X hf dX3_holds_25 (fun v4 hf => ?_)
      refine g_bipush (v := 16) X dX3_holds_26 (by decide) ?_
      refine g_ishr X dX3_holds_28 ?_
      refine g_aload_n X dX3_holds_29 0 rfl ?_
      refine g_getR X hf (T := TX3) rfl (by decide) (by decide) in_RX3 tb_194 rfl dX3_holds_30 (fun v5 hf => ?_)
      refine g_iload_n X dX3_holds_33 3 rfl ?_
      refine g_iaload X hf dX3_holds_34 (fun v6 hf => ?_)
      refine g_ldc (v := 65535) X dX3_holds_35 tb_639 ?_
      refine g_iand X dX3_holds_37 ?_
      refine g_iload_n X dX3_holds_38 2 rfl ?_
      refine g_callV (n := 3) (av := [tI (v4 >>> (16 &&& 31)), tI (v6 &&& 65535), tI x2]) (rest := []) (k := 3) X hf (fun p7 => (some (tI p7.1), p7.2)) (fun _ q => m_X3_step q) (gdV tb_640 tb_641 tb_1653 tb_8 tb_642) rfl (by decide +kernel) rfl (by decide) rfl (by decide) (by decide) rfl (Nat.le_of_ble_eq_true rfl) dX3_holds_39 (fun p7 hf => ?_)
      refine g_istore_n (lv' := [(0, tR x0), (1, tI x1), (2, tI p7.1), (3, tI x3)]) X dX3_holds_42 (by decide) (in_pick [1, 2, 0, 3] rfl) ?_
      refine g_iinc (v := (x3 + 1)) (lv' := [(0, tR x0), (1, tI x1), (2, tI p7.1), (3, tI (x3 + 1))]) X dX3_holds_43 3 rfl (by rfl) (by decide) (in_pick [1, 2, 3, 0] rfl) ?_
      refine g_goto (tgt := 9) X dX3_holds_46 (by decide) ?_
      exact ih x0 x1 p7.1 (x3 + 1) p7.2 hf
    · refine g_iload_n X dX3_holds_49 2 rfl ?_
      refine g_ifle (tgt := 68) X hf dX3_holds_50 (by decide) (fun hf => ?_) (fun hf => ?_)
      · refine g_aload_n X dX3_holds_53 0 rfl ?_
        refine g_getR X hf (T := TX3) rfl (by decide) (by decide) in_RX3 tb_202 rfl dX3_holds_54 (fun v8 hf => ?_)
        refine g_iload_n X dX3_holds_57 2 rfl ?_
        refine g_iconst (v := 1) X dX3_holds_58 (by decide) ?_
        refine g_isub X dX3_holds_59 ?_
        refine g_iaload X hf dX3_holds_60 (fun v9 hf => ?_)
        refine g_ifeq (tgt := 68) X hf dX3_holds_61 (by decide) (fun hf => ?_) (fun hf => ?_)
        · refine g_iconst (v := 0) X dX3_holds_68 (by decide) ?_
          exact g_zreturn X (zW hf) (by decide) (by decide) (by decide) dX3_holds_69
        · refine g_iconst (v := 1) X dX3_holds_64 (by decide) ?_
          refine g_goto (tgt := 69) X dX3_holds_65 (by decide) ?_
          exact g_zreturn X (zW hf) (by decide) (by decide) (by decide) dX3_holds_69
      · refine g_iconst (v := 0) X dX3_holds_68 (by decide) ?_
        exact g_zreturn X (zW hf) (by decide) (by decide) (by decide) dX3_holds_69
def f_X3_holds  (a0 : Option Nat) (a1 : Int32) (h : AH) : Option (Int32 × AH) :=
  (gR 3 4 h a0).bind fun v1 =>
  (aI h v1 a1).bind fun v2 =>
  b_X3_holds_9 FU a0 a1 0 v2 h
set_option maxRecDepth 20000 in
theorem m_X3_holds  {a0 : Option Nat} {a1 : Int32} {h : AH} {w : (Int32 × AH)} (hf : f_X3_holds a0 a1 h = some w) : CT yX3_holds (wU yX3_holds cX3_holds 4 (some .boolean)) (rmD 2 0 0) 0 0 [tR a0, tI a1] h (some (tI w.1), w.2) := by
  refine CT.of (cc := cX3_holds) (nL := 4) (ret := (some .boolean)) (by decide) (by simp [lg_sl, vOf_cat, wOf]) ?_
  intro K X
  refine g_locs (lv' := [(0, tR a0), (1, tI a1)]) (fun q hq => hq) ?_
  unfold f_X3_holds at hf
  refine g_iconst (v := 0) X dX3_holds_0 (by decide) ?_
  refine g_istore_n (lv' := [(0, tR a0), (1, tI a1), (2, tI 0)]) X dX3_holds_1 (by decide) (in_pick [1, 2, 0] rfl) ?_
  refine g_aload_n X dX3_holds_2 0 rfl ?_
  refine g_getR X hf (T := TX3) rfl (by decide) (by decide) in_RX3 tb_197 rfl dX3_holds_3 (fun v1 hf => ?_)
  refine g_iload_n X dX3_holds_6 1 rfl ?_
  refine g_iaload X hf dX3_holds_7 (fun v2 hf => ?_)
  refine g_istore_n (lv' := [(0, tR a0), (1, tI a1), (2, tI 0), (3, tI v2)]) X dX3_holds_8 (by decide) (in_pick [1, 2, 3, 0] rfl) ?_
  exact w_X3_holds_9 X FU a0 a1 0 v2 h hf
def b_X3_isGood_126   (x0 : Option Nat) (x1 : Option Nat) (s0 : Option Nat) (s1 : Int32) (s2 : Int32) (h : AH) : Option (Int32 × AH) :=
  (f_X11_asAnswer s2 h).bind fun v1 =>
  (sI h s0 s1 v1).bind fun h2 =>
  (gR 3 6 h2 x0).bind fun v3 =>
  (gI 8 5 h2 x1).bind fun v4 =>
  (f_X11_asAnswer v4 h2).bind fun v5 =>
  (sI h2 v3 6 v5).bind fun h6 =>
  (ck 3 h6 x0 (f_X3_holds x0 0 h6)).bind fun p7 =>
  (rZ p7.1).bind fun vz => some (vz, p7.2)
set_option maxRecDepth 20000 in
theorem w_X3_isGood_126 {K : KT} {w : (Int32 × AH)}   (X : CX K cX3_isGood RX3 TB (some .boolean) "isGood" (rmD 3 0 0) 3 0 0)  (x0 : Option Nat) (x1 : Option Nat) (s0 : Option Nat) (s1 : Int32) (s2 : Int32) (h : AH) (hf : b_X3_isGood_126 x0 x1 s0 s1 s2 h = some w) : GG K (some (tI w.1), w.2) 0 0 126 [(0, tR x0), (1, tR x1)] [tI s2, tI s1, tR s0] h := by
  unfold b_X3_isGood_126 at hf
  refine g_callSN (n := 1) (av := [tI s2]) (rest := [tI s1, tR s0]) X hf (fun v1 => (some (tI v1), h)) (fun _ q => m_X11_asAnswer q) (gd0 tb_509) rfl (by decide +kernel) tb_1 tb_508 (by decide +kernel) rfl (by decide) (by decide) rfl (Nat.le_of_ble_eq_true rfl) dX3_isGood_126 (fun v1 hf => ?_)
  refine g_iastore X hf dX3_isGood_129 (fun h2 hf => ?_)
  refine g_aload_n X dX3_isGood_130 0 rfl ?_
  refine g_getR X hf (T := TX3) rfl (by decide) (by decide) in_RX3 tb_201 rfl dX3_isGood_131 (fun v3 hf => ?_)
  refine g_bipush (v := 6) X dX3_isGood_134 (by decide) ?_
  refine g_aload_n X dX3_isGood_136 1 rfl ?_
  refine g_getI X hf (T := TX8) rfl (by decide) (by decide) in_RX8 tb_160 rfl dX3_isGood_137 (fun v4 hf => ?_)
  refine g_callSN (n := 1) (av := [tI v4]) (rest := [tI 6, tR v3]) X hf (fun v5 => (some (tI v5), h2)) (fun _ q => m_X11_asAnswer q) (gd0 tb_509) rfl (by decide +kernel) tb_1 tb_508 (by decide +kernel) rfl (by decide) (by decide) rfl (Nat.le_of_ble_eq_true rfl) dX3_isGood_140 (fun v5 hf => ?_)
  refine g_iastore X hf dX3_isGood_143 (fun h6 hf => ?_)
  refine g_aload_n X dX3_isGood_144 0 rfl ?_
  refine g_iconst (v := 0) X dX3_isGood_145 (by decide) ?_
  refine g_callV (n := 1) (av := [tI 0]) (rest := []) (k := 3) X hf (fun p7 => (some (tI p7.1), p7.2)) (fun _ q => m_X3_holds q) (gdV tb_636 tb_637 tb_1652 tb_8 tb_638) rfl (by decide +kernel) rfl (by decide) rfl (by decide) (by decide) rfl (Nat.le_of_ble_eq_true rfl) dX3_isGood_146 (fun p7 hf => ?_)
  obtain ⟨vz, hz1, hz2⟩ := Option.bind_eq_some_iff.mp hf
  cases hz2
  exact g_zreturn2 X hz1 (by decide) (by decide) dX3_isGood_149
def b_X3_isGood_105   (x0 : Option Nat) (x1 : Option Nat) (s0 : Option Nat) (s1 : Int32) (s2 : Int32) (h : AH) : Option (Int32 × AH) :=
  (f_X11_asAnswer s2 h).bind fun v1 =>
  (sI h s0 s1 v1).bind fun h2 =>
  (gR 3 6 h2 x0).bind fun v3 =>
  (gI 8 4 h2 x1).bind fun v4 =>
  if v4 = 0 then
    b_X3_isGood_126 x0 x1 v3 5 0 h2
  else
    b_X3_isGood_126 x0 x1 v3 5 1 h2
set_option maxRecDepth 20000 in
theorem w_X3_isGood_105 {K : KT} {w : (Int32 × AH)}   (X : CX K cX3_isGood RX3 TB (some .boolean) "isGood" (rmD 3 0 0) 3 0 0)  (x0 : Option Nat) (x1 : Option Nat) (s0 : Option Nat) (s1 : Int32) (s2 : Int32) (h : AH) (hf : b_X3_isGood_105 x0 x1 s0 s1 s2 h = some w) : GG K (some (tI w.1), w.2) 0 0 105 [(0, tR x0), (1, tR x1)] [tI s2, tI s1, tR s0] h := by
  unfold b_X3_isGood_105 at hf
  refine g_callSN (n := 1) (av := [tI s2]) (rest := [tI s1, tR s0]) X hf (fun v1 => (some (tI v1), h)) (fun _ q => m_X11_asAnswer q) (gd0 tb_509) rfl (by decide +kernel) tb_1 tb_508 (by decide +kernel) rfl (by decide) (by decide) rfl (Nat.le_of_ble_eq_true rfl) dX3_isGood_105 (fun v1 hf => ?_)
  refine g_iastore X hf dX3_isGood_108 (fun h2 hf => ?_)
  refine g_aload_n X dX3_isGood_109 0 rfl ?_
  refine g_getR X hf (T := TX3) rfl (by decide) (by decide) in_RX3 tb_201 rfl dX3_isGood_110 (fun v3 hf => ?_)
  refine g_iconst (v := 5) X dX3_isGood_113 (by decide) ?_
  refine g_aload_n X dX3_isGood_114 1 rfl ?_
  refine g_getI X hf (T := TX8) rfl (by decide) (by decide) in_RX8 tb_157 rfl dX3_isGood_115 (fun v4 hf => ?_)
  refine g_ifeq (tgt := 125) X hf dX3_isGood_118 (by decide) (fun hf => ?_) (fun hf => ?_)
  · refine g_iconst (v := 0) X dX3_isGood_125 (by decide) ?_
    exact w_X3_isGood_126 X x0 x1 v3 5 0 h2 hf
  · refine g_iconst (v := 1) X dX3_isGood_121 (by decide) ?_
    refine g_goto (tgt := 126) X dX3_isGood_122 (by decide) ?_
    exact w_X3_isGood_126 X x0 x1 v3 5 1 h2 hf
def b_X3_isGood_84   (x0 : Option Nat) (x1 : Option Nat) (s0 : Option Nat) (s1 : Int32) (s2 : Int32) (h : AH) : Option (Int32 × AH) :=
  (f_X11_asAnswer s2 h).bind fun v1 =>
  (sI h s0 s1 v1).bind fun h2 =>
  (gR 3 6 h2 x0).bind fun v3 =>
  (gI 8 3 h2 x1).bind fun v4 =>
  if v4 < 0 then
    b_X3_isGood_105 x0 x1 v3 4 0 h2
  else
    b_X3_isGood_105 x0 x1 v3 4 1 h2
set_option maxRecDepth 20000 in
theorem w_X3_isGood_84 {K : KT} {w : (Int32 × AH)}   (X : CX K cX3_isGood RX3 TB (some .boolean) "isGood" (rmD 3 0 0) 3 0 0)  (x0 : Option Nat) (x1 : Option Nat) (s0 : Option Nat) (s1 : Int32) (s2 : Int32) (h : AH) (hf : b_X3_isGood_84 x0 x1 s0 s1 s2 h = some w) : GG K (some (tI w.1), w.2) 0 0 84 [(0, tR x0), (1, tR x1)] [tI s2, tI s1, tR s0] h := by
  unfold b_X3_isGood_84 at hf
  refine g_callSN (n := 1) (av := [tI s2]) (rest := [tI s1, tR s0]) X hf (fun v1 => (some (tI v1), h)) (fun _ q => m_X11_asAnswer q) (gd0 tb_509) rfl (by decide +kernel) tb_1 tb_508 (by decide +kernel) rfl (by decide) (by decide) rfl (Nat.le_of_ble_eq_true rfl) dX3_isGood_84 (fun v1 hf => ?_)
  refine g_iastore X hf dX3_isGood_87 (fun h2 hf => ?_)
  refine g_aload_n X dX3_isGood_88 0 rfl ?_
  refine g_getR X hf (T := TX3) rfl (by decide) (by decide) in_RX3 tb_201 rfl dX3_isGood_89 (fun v3 hf => ?_)
  refine g_iconst (v := 4) X dX3_isGood_92 (by decide) ?_
  refine g_aload_n X dX3_isGood_93 1 rfl ?_
  refine g_getI X hf (T := TX8) rfl (by decide) (by decide) in_RX8 tb_154 rfl dX3_isGood_94 (fun v4 hf => ?_)
  refine g_iflt (tgt := 104) X hf dX3_isGood_97 (by decide) (fun hf => ?_) (fun hf => ?_)
  · refine g_iconst (v := 0) X dX3_isGood_104 (by decide) ?_
    exact w_X3_isGood_105 X x0 x1 v3 4 0 h2 hf
  · refine g_iconst (v := 1) X dX3_isGood_100 (by decide) ?_
    refine g_goto (tgt := 105) X dX3_isGood_101 (by decide) ?_
    exact w_X3_isGood_105 X x0 x1 v3 4 1 h2 hf
def b_X3_isGood_63   (x0 : Option Nat) (x1 : Option Nat) (s0 : Option Nat) (s1 : Int32) (s2 : Int32) (h : AH) : Option (Int32 × AH) :=
  (f_X11_asAnswer s2 h).bind fun v1 =>
  (sI h s0 s1 v1).bind fun h2 =>
  (gR 3 6 h2 x0).bind fun v3 =>
  (gI 8 2 h2 x1).bind fun v4 =>
  if v4 < 0 then
    b_X3_isGood_84 x0 x1 v3 3 0 h2
  else
    b_X3_isGood_84 x0 x1 v3 3 1 h2
set_option maxRecDepth 20000 in
theorem w_X3_isGood_63 {K : KT} {w : (Int32 × AH)}   (X : CX K cX3_isGood RX3 TB (some .boolean) "isGood" (rmD 3 0 0) 3 0 0)  (x0 : Option Nat) (x1 : Option Nat) (s0 : Option Nat) (s1 : Int32) (s2 : Int32) (h : AH) (hf : b_X3_isGood_63 x0 x1 s0 s1 s2 h = some w) : GG K (some (tI w.1), w.2) 0 0 63 [(0, tR x0), (1, tR x1)] [tI s2, tI s1, tR s0] h := by
  unfold b_X3_isGood_63 at hf
  refine g_callSN (n := 1) (av := [tI s2]) (rest := [tI s1, tR s0]) X hf (fun v1 => (some (tI v1), h)) (fun _ q => m_X11_asAnswer q) (gd0 tb_509) rfl (by decide +kernel) tb_1 tb_508 (by decide +kernel) rfl (by decide) (by decide) rfl (Nat.le_of_ble_eq_true rfl) dX3_isGood_63 (fun v1 hf => ?_)
  refine g_iastore X hf dX3_isGood_66 (fun h2 hf => ?_)
  refine g_aload_n X dX3_isGood_67 0 rfl ?_
  refine g_getR X hf (T := TX3) rfl (by decide) (by decide) in_RX3 tb_201 rfl dX3_isGood_68 (fun v3 hf => ?_)
  refine g_iconst (v := 3) X dX3_isGood_71 (by decide) ?_
  refine g_aload_n X dX3_isGood_72 1 rfl ?_
  refine g_getI X hf (T := TX8) rfl (by decide) (by decide) in_RX8 tb_149 rfl dX3_isGood_73 (fun v4 hf => ?_)
  refine g_iflt (tgt := 83) X hf dX3_isGood_76 (by decide) (fun hf => ?_) (fun hf => ?_)
  · refine g_iconst (v := 0) X dX3_isGood_83 (by decide) ?_
    exact w_X3_isGood_84 X x0 x1 v3 3 0 h2 hf
  · refine g_iconst (v := 1) X dX3_isGood_79 (by decide) ?_
    refine g_goto (tgt := 84) X dX3_isGood_80 (by decide) ?_
    exact w_X3_isGood_84 X x0 x1 v3 3 1 h2 hf
def b_X3_isGood_12   (x0 : Option Nat) (x1 : Option Nat) (s0 : Int32) (h : AH) : Option (Int32 × AH) :=
  (ck 3 h x0 (f_X3_tells x0 0 h)).bind fun v1 =>
  if v1 = 0 then
    (rZ s0).bind fun vz => some (vz, h)
  else
    (gR 3 6 h x0).bind fun v2 =>
    (f_X11_asAnswer s0 h).bind fun v3 =>
    (sI h v2 0 v3).bind fun h4 =>
    (gR 3 6 h4 x0).bind fun v5 =>
    (ck 8 h4 x1 (f_X8_isSure x1 h4)).bind fun v6 =>
    (f_X11_asAnswer v6 h4).bind fun v7 =>
    (sI h4 v5 1 v7).bind fun h8 =>
    (gR 3 6 h8 x0).bind fun v9 =>
    (gI 8 1 h8 x1).bind fun v10 =>
    if v10 = 0 then
      b_X3_isGood_63 x0 x1 v9 2 0 h8
    else
      b_X3_isGood_63 x0 x1 v9 2 1 h8
set_option maxRecDepth 20000 in
theorem w_X3_isGood_12 {K : KT} {w : (Int32 × AH)}   (X : CX K cX3_isGood RX3 TB (some .boolean) "isGood" (rmD 3 0 0) 3 0 0)  (x0 : Option Nat) (x1 : Option Nat) (s0 : Int32) (h : AH) (hf : b_X3_isGood_12 x0 x1 s0 h = some w) : GG K (some (tI w.1), w.2) 0 0 12 [(0, tR x0), (1, tR x1)] [tI s0] h := by
  unfold b_X3_isGood_12 at hf
  refine g_istore_n (lv' := [(0, tR x0), (1, tR x1), (2, tI s0)]) X dX3_isGood_12 (by decide) (in_pick [1, 2, 0] rfl) ?_
  refine g_aload_n X dX3_isGood_13 0 rfl ?_
  refine g_iconst (v := 0) X dX3_isGood_14 (by decide) ?_
  refine g_callV (n := 1) (av := [tI 0]) (rest := []) (k := 3) X hf (fun v1 => (some (tI v1), h)) (fun _ q => m_X3_tells q) (gdV tb_631 tb_632 tb_633 tb_8 tb_634) rfl (by decide +kernel) rfl (by decide) rfl (by decide) (by decide) rfl (Nat.le_of_ble_eq_true rfl) dX3_isGood_15 (fun v1 hf => ?_)
  refine g_ifne (tgt := 23) X hf dX3_isGood_18 (by decide) (fun hf => ?_) (fun hf => ?_)
  · refine g_iload_n X dX3_isGood_21 2 rfl ?_
    obtain ⟨vz, hz1, hz2⟩ := Option.bind_eq_some_iff.mp hf
    cases hz2
    exact g_zreturn2 X hz1 (by decide) (by decide) dX3_isGood_22
  · refine g_aload_n X dX3_isGood_23 0 rfl ?_
    refine g_getR X hf (T := TX3) rfl (by decide) (by decide) in_RX3 tb_201 rfl dX3_isGood_24 (fun v2 hf => ?_)
    refine g_iconst (v := 0) X dX3_isGood_27 (by decide) ?_
    refine g_iload_n X dX3_isGood_28 2 rfl ?_
    refine g_callSN (n := 1) (av := [tI s0]) (rest := [tI 0, tR v2]) X hf (fun v3 => (some (tI v3), h)) (fun _ q => m_X11_asAnswer q) (gd0 tb_509) rfl (by decide +kernel) tb_1 tb_508 (by decide +kernel) rfl (by decide) (by decide) rfl (Nat.le_of_ble_eq_true rfl) dX3_isGood_29 (fun v3 hf => ?_)
    refine g_iastore X hf dX3_isGood_32 (fun h4 hf => ?_)
    refine g_aload_n X dX3_isGood_33 0 rfl ?_
    refine g_getR X hf (T := TX3) rfl (by decide) (by decide) in_RX3 tb_201 rfl dX3_isGood_34 (fun v5 hf => ?_)
    refine g_iconst (v := 1) X dX3_isGood_37 (by decide) ?_
    refine g_aload_n X dX3_isGood_38 1 rfl ?_
    refine g_callV (n := 0) (av := []) (rest := [tI 1, tR v5]) (k := 8) X hf (fun v6 => (some (tI v6), h4)) (fun _ q => m_X8_isSure q) (gdV tb_635 tb_618 tb_619 tb_7 tb_620) rfl (by decide +kernel) rfl (by decide) rfl (by decide) (by decide) rfl (Nat.le_of_ble_eq_true rfl) dX3_isGood_39 (fun v6 hf => ?_)
    refine g_callSN (n := 1) (av := [tI v6]) (rest := [tI 1, tR v5]) X hf (fun v7 => (some (tI v7), h4)) (fun _ q => m_X11_asAnswer q) (gd0 tb_509) rfl (by decide +kernel) tb_1 tb_508 (by decide +kernel) rfl (by decide) (by decide) rfl (Nat.le_of_ble_eq_true rfl) dX3_isGood_42 (fun v7 hf => ?_)
    refine g_iastore X hf dX3_isGood_45 (fun h8 hf => ?_)
    refine g_aload_n X dX3_isGood_46 0 rfl ?_
    refine g_getR X hf (T := TX3) rfl (by decide) (by decide) in_RX3 tb_201 rfl dX3_isGood_47 (fun v9 hf => ?_)
    refine g_iconst (v := 2) X dX3_isGood_50 (by decide) ?_
    refine g_aload_n X dX3_isGood_51 1 rfl ?_
    refine g_getI X hf (T := TX8) rfl (by decide) (by decide) in_RX8 tb_145 rfl dX3_isGood_52 (fun v10 hf => ?_)
    refine g_ifeq (tgt := 62) X hf dX3_isGood_55 (by decide) (fun hf => ?_) (fun hf => ?_)
    · refine g_iconst (v := 0) X dX3_isGood_62 (by decide) ?_
      refine g_locs (lv' := [(0, tR x0), (1, tR x1)]) (in_pick [0, 1] rfl) ?_
      exact w_X3_isGood_63 X x0 x1 v9 2 0 h8 hf
    · refine g_iconst (v := 1) X dX3_isGood_58 (by decide) ?_
      refine g_goto (tgt := 63) X dX3_isGood_59 (by decide) ?_
      refine g_locs (lv' := [(0, tR x0), (1, tR x1)]) (in_pick [0, 1] rfl) ?_
      exact w_X3_isGood_63 X x0 x1 v9 2 1 h8 hf
def f_X3_isGood  (a0 : Option Nat) (a1 : Option Nat) (h : AH) : Option (Int32 × AH) :=
  (ck 8 h a1 (f_X8_meant a1 h)).bind fun v1 =>
  if v1 = 0 then
    b_X3_isGood_12 a0 a1 0 h
  else
    b_X3_isGood_12 a0 a1 1 h
set_option maxRecDepth 20000 in
theorem m_X3_isGood  {a0 : Option Nat} {a1 : Option Nat} {h : AH} {w : (Int32 × AH)} (hf : f_X3_isGood a0 a1 h = some w) : CT yX3_isGood (wU yX3_isGood cX3_isGood 3 (some .boolean)) (rmD 3 0 0) 0 0 [tR a0, tR a1] h (some (tI w.1), w.2) := by
  refine CT.of (cc := cX3_isGood) (nL := 3) (ret := (some .boolean)) (by decide) (by simp [lg_sl, vOf_cat, wOf]) ?_
  intro K X
  refine g_locs (lv' := [(0, tR a0), (1, tR a1)]) (fun q hq => hq) ?_
  unfold f_X3_isGood at hf
  refine g_aload_n X dX3_isGood_0 1 rfl ?_
  refine g_callV (n := 0) (av := []) (rest := []) (k := 8) X hf (fun v1 => (some (tI v1), h)) (fun _ q => m_X8_meant q) (gdV tb_630 tb_608 tb_609 tb_7 tb_610) rfl (by decide +kernel) rfl (by decide) rfl (by decide) (by decide) rfl (Nat.le_of_ble_eq_true rfl) dX3_isGood_1 (fun v1 hf => ?_)
  refine g_ifeq (tgt := 11) X hf dX3_isGood_4 (by decide) (fun hf => ?_) (fun hf => ?_)
  · refine g_iconst (v := 0) X dX3_isGood_11 (by decide) ?_
    exact w_X3_isGood_12 X a0 a1 0 h hf
  · refine g_iconst (v := 1) X dX3_isGood_7 (by decide) ?_
    refine g_goto (tgt := 12) X dX3_isGood_8 (by decide) ?_
    exact w_X3_isGood_12 X a0 a1 1 h hf
def f_X8_gateBit  (a0 : Option Nat) (h : AH) : Option Int32 :=
  (gI 8 3 h a0).bind fun v1 =>
  if v1 < 0 then
    some 0
  else
    (gI 8 3 h a0).bind fun v2 =>
    some (1 <<< (v2 &&& 31))
set_option maxRecDepth 20000 in
theorem m_X8_gateBit  {a0 : Option Nat} {h : AH} {w : Int32} (hf : f_X8_gateBit a0 h = some w) : CT yX8_gateBit (wU yX8_gateBit cX8_gateBit 1 (some .int)) (rmD 1 0 0) 0 0 [tR a0] h (some (tI w), h) := by
  refine CT.of (cc := cX8_gateBit) (nL := 1) (ret := (some .int)) (by decide) (by simp [lg_sl, vOf_cat, wOf]) ?_
  intro K X
  refine g_locs (lv' := [(0, tR a0)]) (fun q hq => hq) ?_
  unfold f_X8_gateBit at hf
  refine g_aload_n X dX8_gateBit_0 0 rfl ?_
  refine g_getI X hf (T := TX8) rfl (by decide) (by decide) in_RX8 tb_152 rfl dX8_gateBit_1 (fun v1 hf => ?_)
  refine g_ifge (tgt := 11) X hf dX8_gateBit_4 (by decide) (fun hf => ?_) (fun hf => ?_)
  · refine g_iconst (v := 0) X dX8_gateBit_7 (by decide) ?_
    refine g_goto (tgt := 17) X dX8_gateBit_8 (by decide) ?_
    exact g_ireturn X (zP hf) (by decide) (by decide) dX8_gateBit_17
  · refine g_iconst (v := 1) X dX8_gateBit_11 (by decide) ?_
    refine g_aload_n X dX8_gateBit_12 0 rfl ?_
    refine g_getI X hf (T := TX8) rfl (by decide) (by decide) in_RX8 tb_152 rfl dX8_gateBit_13 (fun v2 hf => ?_)
    refine g_ishl X dX8_gateBit_16 ?_
    exact g_ireturn X (zP hf) (by decide) (by decide) dX8_gateBit_17
def b_X6_addSherd_43    : Nat → Option Nat → Option Nat → Int32 → Int32 → Int32 → AH → Option AH
  | 0 => fun _ _ _ _ _ _ => none
  | n + 1 => fun x0 x1 x2 x3 x4 h =>
    (gI 6 0 h x0).bind fun v1 =>
    if x4 < v1 then
      if ((x2 >>> (x4 &&& 31)) &&& 1) = 0 then
        b_X6_addSherd_43 n x0 x1 x2 x3 (x4 + 1) h
      else
        (gR 6 3 h x0).bind fun v2 =>
        (aI h v2 x4).bind fun v3 =>
        (sI h v2 x4 (v3 + 1)).bind fun h4 =>
        if x3 = 0 then
          b_X6_addSherd_43 n x0 x1 x2 x3 (x4 + 1) h4
        else
          (gR 6 2 h4 x0).bind fun v5 =>
          (aI h4 v5 x4).bind fun v6 =>
          (sI h4 v5 x4 (v6 + 1)).bind fun h7 =>
          (gR 6 4 h7 x0).bind fun v8 =>
          (aI h7 v8 x4).bind fun v9 =>
          (ck 8 h7 x1 (f_X8_gateBit x1 h7)).bind fun v10 =>
          (sI h7 v8 x4 (v9 ||| v10)).bind fun h11 =>
          b_X6_addSherd_43 n x0 x1 x2 x3 (x4 + 1) h11
    else
      some h
set_option maxRecDepth 20000 in
theorem w_X6_addSherd_43 {K : KT} {w : AH}   (X : CX K cX6_addSherd RX6 TB none "addSherd" (rmD 3 0 0) 5 0 0)  : ∀ (n : Nat) (x0 : Option Nat) (x1 : Option Nat) (x2 : Int32) (x3 : Int32) (x4 : Int32) (h : AH), b_X6_addSherd_43 n x0 x1 x2 x3 x4 h = some w → GG K (none, w) 0 0 43 [(0, tR x0), (1, tR x1), (2, tI x2), (3, tI x3), (4, tI x4)] [] h := by
  intro n
  induction n with
  | zero =>
    intro x0 x1 x2 x3 x4 h hf
    cases (show none = some w from hf)
  | succ n ih =>
    intro x0 x1 x2 x3 x4 h hf
    rw [b_X6_addSherd_43] at hf
    refine g_iload X dX6_addSherd_43 4 rfl ?_
    refine g_aload_n X dX6_addSherd_45 0 rfl ?_
    refine g_getI X hf (T := TX6) rfl (by decide) (by decide) in_RX6 tb_311 rfl dX6_addSherd_46 (fun v1 hf => ?_)
    refine g_icmpge (tgt := 107) X hf dX6_addSherd_49 (by decide) (fun hf => ?_) (fun hf => ?_)
    · refine g_iload_n X dX6_addSherd_52 2 rfl ?_
      refine g_iload X dX6_addSherd_53 4 rfl ?_
      refine g_ishr X dX6_addSherd_55 ?_
      refine g_iconst (v := 1) X dX6_addSherd_56 (by decide) ?_
      refine g_iand X dX6_addSherd_57 ?_
      refine g_ifeq (tgt := 101) X hf dX6_addSherd_58 (by decide) (fun hf => ?_) (fun hf => ?_)
      · refine g_iinc (v := (x4 + 1)) (lv' := [(0, tR x0), (1, tR x1), (2, tI x2), (3, tI x3), (4, tI (x4 + 1))]) X dX6_addSherd_101 4 rfl (by rfl) (by decide) (in_pick [1, 2, 3, 4, 0] rfl) ?_
        refine g_goto (tgt := 43) X dX6_addSherd_104 (by decide) ?_
        exact ih x0 x1 x2 x3 (x4 + 1) h hf
      · refine g_aload_n X dX6_addSherd_61 0 rfl ?_
        refine g_getR X hf (T := TX6) rfl (by decide) (by decide) in_RX6 tb_316 rfl dX6_addSherd_62 (fun v2 hf => ?_)
        refine g_iload X dX6_addSherd_65 4 rfl ?_
        refine g_dup2 X dX6_addSherd_67 rfl rfl ?_
        refine g_iaload X hf dX6_addSherd_68 (fun v3 hf => ?_)
        refine g_iconst (v := 1) X dX6_addSherd_69 (by decide) ?_
        refine g_iadd X dX6_addSherd_70 ?_
        refine g_iastore X hf dX6_addSherd_71 (fun h4 hf => ?_)
        refine g_iload_n X dX6_addSherd_72 3 rfl ?_
        refine g_ifeq (tgt := 101) X hf dX6_addSherd_73 (by decide) (fun hf => ?_) (fun hf => ?_)
        · refine g_iinc (v := (x4 + 1)) (lv' := [(0, tR x0), (1, tR x1), (2, tI x2), (3, tI x3), (4, tI (x4 + 1))]) X dX6_addSherd_101 4 rfl (by rfl) (by decide) (in_pick [1, 2, 3, 4, 0] rfl) ?_
          refine g_goto (tgt := 43) X dX6_addSherd_104 (by decide) ?_
          exact ih x0 x1 x2 x3 (x4 + 1) h4 hf
        · refine g_aload_n X dX6_addSherd_76 0 rfl ?_
          refine g_getR X hf (T := TX6) rfl (by decide) (by decide) in_RX6 tb_314 rfl dX6_addSherd_77 (fun v5 hf => ?_)
          refine g_iload X dX6_addSherd_80 4 rfl ?_
          refine g_dup2 X dX6_addSherd_82 rfl rfl ?_
          refine g_iaload X hf dX6_addSherd_83 (fun v6 hf => ?_)
          refine g_iconst (v := 1) X dX6_addSherd_84 (by decide) ?_
          refine g_iadd X dX6_addSherd_85 ?_
          refine g_iastore X hf dX6_addSherd_86 (fun h7 hf => ?_)
          refine g_aload_n X dX6_addSherd_87 0 rfl ?_
          refine g_getR X hf (T := TX6) rfl (by decide) (by decide) in_RX6 tb_318 rfl dX6_addSherd_88 (fun v8 hf => ?_)
          refine g_iload X dX6_addSherd_91 4 rfl ?_
          refine g_dup2 X dX6_addSherd_93 rfl rfl ?_
          refine g_iaload X hf dX6_addSherd_94 (fun v9 hf => ?_)
          refine g_aload_n X dX6_addSherd_95 1 rfl ?_
          refine g_callV (n := 0) (av := []) (rest := [tI v9, tI x4, tR v8]) (k := 8) X hf (fun v10 => (some (tI v10), h7)) (fun _ q => m_X8_gateBit q) (gdV tb_804 tb_805 tb_806 tb_7 tb_807) rfl (by decide +kernel) rfl (by decide) rfl (by decide) (by decide) rfl (Nat.le_of_ble_eq_true rfl) dX6_addSherd_96 (fun v10 hf => ?_)
          refine g_ior X dX6_addSherd_99 ?_
          refine g_iastore X hf dX6_addSherd_100 (fun h11 hf => ?_)
          refine g_iinc (v := (x4 + 1)) (lv' := [(0, tR x0), (1, tR x1), (2, tI x2), (3, tI x3), (4, tI (x4 + 1))]) X dX6_addSherd_101 4 rfl (by rfl) (by decide) (in_pick [1, 2, 3, 4, 0] rfl) ?_
          refine g_goto (tgt := 43) X dX6_addSherd_104 (by decide) ?_
          exact ih x0 x1 x2 x3 (x4 + 1) h11 hf
    · exact g_vreturn X (zV hf) (by decide) (by decide) dX6_addSherd_107
def b_X6_addSherd_30   (x0 : Option Nat) (x1 : Option Nat) (h : AH) : Option AH :=
  (ck 8 h x1 (f_X8_meant x1 h)).bind fun v1 =>
  (ck 8 h x1 (f_X8_isSure x1 h)).bind fun v2 =>
  b_X6_addSherd_43 FU x0 x1 v1 v2 0 h
set_option maxRecDepth 20000 in
theorem w_X6_addSherd_30 {K : KT} {w : AH}   (X : CX K cX6_addSherd RX6 TB none "addSherd" (rmD 3 0 0) 5 0 0)  (x0 : Option Nat) (x1 : Option Nat) (h : AH) (hf : b_X6_addSherd_30 x0 x1 h = some w) : GG K (none, w) 0 0 30 [(0, tR x0), (1, tR x1)] [] h := by
  unfold b_X6_addSherd_30 at hf
  refine g_aload_n X dX6_addSherd_30 1 rfl ?_
  refine g_callV (n := 0) (av := []) (rest := []) (k := 8) X hf (fun v1 => (some (tI v1), h)) (fun _ q => m_X8_meant q) (gdV tb_802 tb_608 tb_609 tb_7 tb_610) rfl (by decide +kernel) rfl (by decide) rfl (by decide) (by decide) rfl (Nat.le_of_ble_eq_true rfl) dX6_addSherd_31 (fun v1 hf => ?_)
  refine g_istore_n (lv' := [(0, tR x0), (1, tR x1), (2, tI v1)]) X dX6_addSherd_34 (by decide) (in_pick [1, 2, 0] rfl) ?_
  refine g_aload_n X dX6_addSherd_35 1 rfl ?_
  refine g_callV (n := 0) (av := []) (rest := []) (k := 8) X hf (fun v2 => (some (tI v2), h)) (fun _ q => m_X8_isSure q) (gdV tb_803 tb_618 tb_619 tb_7 tb_620) rfl (by decide +kernel) rfl (by decide) rfl (by decide) (by decide) rfl (Nat.le_of_ble_eq_true rfl) dX6_addSherd_36 (fun v2 hf => ?_)
  refine g_istore_n (lv' := [(0, tR x0), (1, tR x1), (2, tI v1), (3, tI v2)]) X dX6_addSherd_39 (by decide) (in_pick [1, 2, 3, 0] rfl) ?_
  refine g_iconst (v := 0) X dX6_addSherd_40 (by decide) ?_
  refine g_istore (lv' := [(0, tR x0), (1, tR x1), (2, tI v1), (3, tI v2), (4, tI 0)]) X dX6_addSherd_41 (by decide) (in_pick [1, 2, 3, 4, 0] rfl) ?_
  exact w_X6_addSherd_43 X FU x0 x1 v1 v2 0 h hf
def f_X6_addSherd  (a0 : Option Nat) (a1 : Option Nat) (h : AH) : Option AH :=
  (gI 6 1 h a0).bind fun v1 =>
  (pI 6 1 h a0 (v1 + 1)).bind fun h2 =>
  (gI 8 3 h2 a1).bind fun v3 =>
  if v3 < 0 then
    b_X6_addSherd_30 a0 a1 h2
  else
    (gR 6 5 h2 a0).bind fun v4 =>
    (gI 8 3 h2 a1).bind fun v5 =>
    (aI h2 v4 v5).bind fun v6 =>
    (sI h2 v4 v5 (v6 + 1)).bind fun h7 =>
    b_X6_addSherd_30 a0 a1 h7
set_option maxRecDepth 20000 in
theorem m_X6_addSherd  {a0 : Option Nat} {a1 : Option Nat} {h : AH} {w : AH} (hf : f_X6_addSherd a0 a1 h = some w) : CT yX6_addSherd (wU yX6_addSherd cX6_addSherd 5 none) (rmD 3 0 0) 0 0 [tR a0, tR a1] h (none, w) := by
  refine CT.of (cc := cX6_addSherd) (nL := 5) (ret := none) (by decide) (by simp [lg_sl, vOf_cat, wOf]) ?_
  intro K X
  refine g_locs (lv' := [(0, tR a0), (1, tR a1)]) (fun q hq => hq) ?_
  unfold f_X6_addSherd at hf
  refine g_aload_n X dX6_addSherd_0 0 rfl ?_
  refine g_dup X dX6_addSherd_1 rfl ?_
  refine g_getI X hf (T := TX6) rfl (by decide) (by decide) in_RX6 tb_312 rfl dX6_addSherd_2 (fun v1 hf => ?_)
  refine g_iconst (v := 1) X dX6_addSherd_5 (by decide) ?_
  refine g_iadd X dX6_addSherd_6 ?_
  refine g_putI X hf (T := TX6) rfl (by decide) (by decide) in_RX6 tyX6 tyX6_ok nmX6 tb_312 rfl rfl rfl dX6_addSherd_7 (fun h2 hf => ?_)
  refine g_aload_n X dX6_addSherd_10 1 rfl ?_
  refine g_getI X hf (T := TX8) rfl (by decide) (by decide) in_RX8 tb_153 rfl dX6_addSherd_11 (fun v3 hf => ?_)
  refine g_iflt (tgt := 30) X hf dX6_addSherd_14 (by decide) (fun hf => ?_) (fun hf => ?_)
  · exact w_X6_addSherd_30 X a0 a1 h2 hf
  · refine g_aload_n X dX6_addSherd_17 0 rfl ?_
    refine g_getR X hf (T := TX6) rfl (by decide) (by decide) in_RX6 tb_319 rfl dX6_addSherd_18 (fun v4 hf => ?_)
    refine g_aload_n X dX6_addSherd_21 1 rfl ?_
    refine g_getI X hf (T := TX8) rfl (by decide) (by decide) in_RX8 tb_153 rfl dX6_addSherd_22 (fun v5 hf => ?_)
    refine g_dup2 X dX6_addSherd_25 rfl rfl ?_
    refine g_iaload X hf dX6_addSherd_26 (fun v6 hf => ?_)
    refine g_iconst (v := 1) X dX6_addSherd_27 (by decide) ?_
    refine g_iadd X dX6_addSherd_28 ?_
    refine g_iastore X hf dX6_addSherd_29 (fun h7 hf => ?_)
    exact w_X6_addSherd_30 X a0 a1 h7 hf
def b_X2_countKnown_16    : Nat → Option Nat → Int32 → Option Nat → Option Nat → Int32 → AH → Option AH
  | 0 => fun _ _ _ _ _ _ => none
  | n + 1 => fun x0 x1 x2 x3 x4 h =>
    (gI 2 12 h x0).bind fun v1 =>
    if x4 < v1 then
      (gR 2 11 h x0).bind fun v2 =>
      (aR h v2 x4).bind fun v3 =>
      (ck 8 h v3 (f_X8_isKnown v3 x1 h)).bind fun v4 =>
      if v4 = 0 then
        b_X2_countKnown_16 n x0 x1 x2 x3 (x4 + 1) h
      else
        (gR 2 11 h x0).bind fun v5 =>
        (aR h v5 x4).bind fun v6 =>
        (ck 3 h x3 (f_X3_isGood x3 v6 h)).bind fun p7 =>
        if p7.1 = 0 then
          b_X2_countKnown_16 n x0 x1 x2 x3 (x4 + 1) p7.2
        else
          (gR 2 11 p7.2 x0).bind fun v8 =>
          (aR p7.2 v8 x4).bind fun v9 =>
          (ck 6 p7.2 x2 (f_X6_addSherd x2 v9 p7.2)).bind fun h10 =>
          b_X2_countKnown_16 n x0 x1 x2 x3 (x4 + 1) h10
    else
      some h
set_option maxRecDepth 20000 in
theorem w_X2_countKnown_16 {K : KT} {w : AH}   (X : CX K cX2_countKnown RX2 TB none "countKnown" (rmD 4 0 0) 5 0 0)  : ∀ (n : Nat) (x0 : Option Nat) (x1 : Int32) (x2 : Option Nat) (x3 : Option Nat) (x4 : Int32) (h : AH), b_X2_countKnown_16 n x0 x1 x2 x3 x4 h = some w → GG K (none, w) 0 0 16 [(0, tR x0), (1, tI x1), (2, tR x2), (3, tR x3), (4, tI x4)] [] h := by
  intro n
  induction n with
  | zero =>
    intro x0 x1 x2 x3 x4 h hf
    cases (show none = some w from hf)
  | succ n ih =>
    intro x0 x1 x2 x3 x4 h hf
    rw [b_X2_countKnown_16] at hf
    refine g_iload X dX2_countKnown_16 4 rfl ?_
    refine g_aload_n X dX2_countKnown_18 0 rfl ?_
    refine g_getI X hf (T := TX2) rfl (by decide) (by decide) in_RX2 tb_235 rfl dX2_countKnown_19 (fun v1 hf => ?_)
    refine g_icmpge (tgt := 70) X hf dX2_countKnown_22 (by decide) (fun hf => ?_) (fun hf => ?_)
    · refine g_aload_n X dX2_countKnown_25 0 rfl ?_
      refine g_getR X hf (T := TX2) rfl (by decide) (by decide) in_RX2 tb_233 rfl dX2_countKnown_26 (fun v2 hf => ?_)
      refine g_iload X dX2_countKnown_29 4 rfl ?_
      refine g_aaload X hf dX2_countKnown_31 (fun v3 hf => ?_)
      refine g_iload_n X dX2_countKnown_32 1 rfl ?_
      refine g_callV (n := 1) (av := [tI x1]) (rest := []) (k := 8) X hf (fun v4 => (some (tI v4), h)) (fun _ q => m_X8_isKnown q) (gdV tb_793 tb_794 tb_795 tb_7 tb_796) rfl (by decide +kernel) rfl (by decide) rfl (by decide) (by decide) rfl (Nat.le_of_ble_eq_true rfl) dX2_countKnown_33 (fun v4 hf => ?_)
      refine g_ifeq (tgt := 64) X hf dX2_countKnown_36 (by decide) (fun hf => ?_) (fun hf => ?_)
      · refine g_iinc (v := (x4 + 1)) (lv' := [(0, tR x0), (1, tI x1), (2, tR x2), (3, tR x3), (4, tI (x4 + 1))]) X dX2_countKnown_64 4 rfl (by rfl) (by decide) (in_pick [1, 2, 3, 4, 0] rfl) ?_
        refine g_goto (tgt := 16) X dX2_countKnown_67 (by decide) ?_
        exact ih x0 x1 x2 x3 (x4 + 1) h hf
      · refine g_aload_n X dX2_countKnown_39 3 rfl ?_
        refine g_aload_n X dX2_countKnown_40 0 rfl ?_
        refine g_getR X hf (T := TX2) rfl (by decide) (by decide) in_RX2 tb_233 rfl dX2_countKnown_41 (fun v5 hf => ?_)
        refine g_iload X dX2_countKnown_44 4 rfl ?_
        refine g_aaload X hf dX2_countKnown_46 (fun v6 hf => ?_)
        refine g_callV (n := 1) (av := [tR v6]) (rest := []) (k := 3) X hf (fun p7 => (some (tI p7.1), p7.2)) (fun _ q => m_X3_isGood q) (gdV tb_797 tb_627 tb_628 tb_8 tb_629) rfl (by decide +kernel) rfl (by decide) rfl (by decide) (by decide) rfl (Nat.le_of_ble_eq_true rfl) dX2_countKnown_47 (fun p7 hf => ?_)
        refine g_ifeq (tgt := 64) X hf dX2_countKnown_50 (by decide) (fun hf => ?_) (fun hf => ?_)
        · refine g_iinc (v := (x4 + 1)) (lv' := [(0, tR x0), (1, tI x1), (2, tR x2), (3, tR x3), (4, tI (x4 + 1))]) X dX2_countKnown_64 4 rfl (by rfl) (by decide) (in_pick [1, 2, 3, 4, 0] rfl) ?_
          refine g_goto (tgt := 16) X dX2_countKnown_67 (by decide) ?_
          exact ih x0 x1 x2 x3 (x4 + 1) p7.2 hf
        · refine g_aload_n X dX2_countKnown_53 2 rfl ?_
          refine g_aload_n X dX2_countKnown_54 0 rfl ?_
          refine g_getR X hf (T := TX2) rfl (by decide) (by decide) in_RX2 tb_233 rfl dX2_countKnown_55 (fun v8 hf => ?_)
          refine g_iload X dX2_countKnown_58 4 rfl ?_
          refine g_aaload X hf dX2_countKnown_60 (fun v9 hf => ?_)
          refine g_callV (n := 1) (av := [tR v9]) (rest := []) (k := 6) X hf (fun h10 => (none, h10)) (fun _ q => m_X6_addSherd q) (gdV tb_798 tb_799 tb_800 tb_10 tb_801) rfl (by decide +kernel) rfl (by decide) rfl (by decide) (by decide) rfl (Nat.le_of_ble_eq_true rfl) dX2_countKnown_61 (fun h10 hf => ?_)
          refine g_iinc (v := (x4 + 1)) (lv' := [(0, tR x0), (1, tI x1), (2, tR x2), (3, tR x3), (4, tI (x4 + 1))]) X dX2_countKnown_64 4 rfl (by rfl) (by decide) (in_pick [1, 2, 3, 4, 0] rfl) ?_
          refine g_goto (tgt := 16) X dX2_countKnown_67 (by decide) ?_
          exact ih x0 x1 x2 x3 (x4 + 1) h10 hf
    · exact g_vreturn X (zV hf) (by decide) (by decide) dX2_countKnown_70
def f_X2_countKnown  (a0 : Option Nat) (a1 : Int32) (a2 : Option Nat) (h : AH) : Option AH :=
  (gI 2 6 h a0).bind fun v1 =>
  (ck 6 h a2 (f_X6_begin a2 v1 h)).bind fun h2 =>
  (ck 2 h2 a0 (f_X2_lawNow a0 h2)).bind fun v3 =>
  b_X2_countKnown_16 FU a0 a1 a2 v3 0 h2
set_option maxRecDepth 20000 in
theorem m_X2_countKnown  {a0 : Option Nat} {a1 : Int32} {a2 : Option Nat} {h : AH} {w : AH} (hf : f_X2_countKnown a0 a1 a2 h = some w) : CT yX2_countKnown (wU yX2_countKnown cX2_countKnown 5 none) (rmD 4 0 0) 0 0 [tR a0, tI a1, tR a2] h (none, w) := by
  refine CT.of (cc := cX2_countKnown) (nL := 5) (ret := none) (by decide) (by simp [lg_sl, vOf_cat, wOf]) ?_
  intro K X
  refine g_locs (lv' := [(0, tR a0), (1, tI a1), (2, tR a2)]) (fun q hq => hq) ?_
  unfold f_X2_countKnown at hf
  refine g_aload_n X dX2_countKnown_0 2 rfl ?_
  refine g_aload_n X dX2_countKnown_1 0 rfl ?_
  refine g_getI X hf (T := TX2) rfl (by decide) (by decide) in_RX2 tb_223 rfl dX2_countKnown_2 (fun v1 hf => ?_)
  refine g_callV (n := 1) (av := [tI v1]) (rest := []) (k := 6) X hf (fun h2 => (none, h2)) (fun _ q => m_X6_begin q) (gdV tb_788 tb_789 tb_790 tb_10 tb_791) rfl (by decide +kernel) rfl (by decide) rfl (by decide) (by decide) rfl (Nat.le_of_ble_eq_true rfl) dX2_countKnown_5 (fun h2 hf => ?_)
  refine g_aload_n X dX2_countKnown_8 0 rfl ?_
  refine g_callV (n := 0) (av := []) (rest := []) (k := 2) X hf (fun v3 => (some (tR v3), h2)) (fun _ q => m_X2_lawNow q) (gdV tb_792 tb_623 tb_624 tb_2 tb_625) rfl (by decide +kernel) rfl (by decide) rfl (by decide) (by decide) rfl (Nat.le_of_ble_eq_true rfl) dX2_countKnown_9 (fun v3 hf => ?_)
  refine g_astore_n (lv' := [(0, tR a0), (1, tI a1), (2, tR a2), (3, tR v3)]) X dX2_countKnown_12 (by decide) (in_pick [1, 2, 3, 0] rfl) ?_
  refine g_iconst (v := 0) X dX2_countKnown_13 (by decide) ?_
  refine g_istore (lv' := [(0, tR a0), (1, tI a1), (2, tR a2), (3, tR v3), (4, tI 0)]) X dX2_countKnown_14 (by decide) (in_pick [1, 2, 3, 4, 0] rfl) ?_
  exact w_X2_countKnown_16 X FU a0 a1 a2 v3 0 h2 hf
def b_X2_unlikeGate_2   (h : AH) : Nat → Option Nat → Int32 → Option Int32
  | 0 => fun _ _ => none
  | n + 1 => fun x0 x1 =>
    if x1 < 5 then
      (gR 2 16 h x0).bind fun v1 =>
      (aR h v1 0).bind fun v2 =>
      (aI h v2 x1).bind fun v3 =>
      (gR 2 16 h x0).bind fun v4 =>
      (aR h v4 1).bind fun v5 =>
      (aI h v5 x1).bind fun v6 =>
      if v3 = v6 then
        b_X2_unlikeGate_2 h n x0 (x1 + 1)
      else
        some x1
    else
      some (-3)
set_option maxRecDepth 20000 in
theorem w_X2_unlikeGate_2 {K : KT} {w : Int32} {h : AH}   (X : CX K cX2_unlikeGate RX2 TB (some .int) "unlikeGate" (rmD 1 0 0) 2 0 0)  : ∀ (n : Nat) (x0 : Option Nat) (x1 : Int32), b_X2_unlikeGate_2 h n x0 x1 = some w → GG K (some (tI w), h) 0 0 2 [(0, tR x0), (1, tI x1)] [] h := by
  intro n
  induction n with
  | zero =>
    intro x0 x1 hf
    cases (show none = some w from hf)
  | succ n ih =>
    intro x0 x1 hf
    rw [b_X2_unlikeGate_2] at hf
    refine g_iload_n X dX2_unlikeGate_2 1 rfl ?_
    refine g_iconst (v := 5) X dX2_unlikeGate_3 (by decide) ?_
    refine g_icmpge (tgt := 34) X hf dX2_unlikeGate_4 (by decide) (fun hf => ?_) (fun hf => ?_)
    · refine g_aload_n X dX2_unlikeGate_7 0 rfl ?_
      refine g_getR X hf (T := TX2) rfl (by decide) (by decide) in_RX2 tb_243 rfl dX2_unlikeGate_8 (fun v1 hf => ?_)
      refine g_iconst (v := 0) X dX2_unlikeGate_11 (by decide) ?_
      refine g_aaload X hf dX2_unlikeGate_12 (fun v2 hf => ?_)
      refine g_iload_n X dX2_unlikeGate_13 1 rfl ?_
      refine g_iaload X hf dX2_unlikeGate_14 (fun v3 hf => ?_)
      refine g_aload_n X dX2_unlikeGate_15 0 rfl ?_
      refine g_getR X hf (T := TX2) rfl (by decide) (by decide) in_RX2 tb_243 rfl dX2_unlikeGate_16 (fun v4 hf => ?_)
      refine g_iconst (v := 1) X dX2_unlikeGate_19 (by decide) ?_
      refine g_aaload X hf dX2_unlikeGate_20 (fun v5 hf => ?_)
      refine g_iload_n X dX2_unlikeGate_21 1 rfl ?_
      refine g_iaload X hf dX2_unlikeGate_22 (fun v6 hf => ?_)
      refine g_icmpeq (tgt := 28) X hf dX2_unlikeGate_23 (by decide) (fun hf => ?_) (fun hf => ?_)
      · refine g_iinc (v := (x1 + 1)) (lv' := [(0, tR x0), (1, tI (x1 + 1))]) X dX2_unlikeGate_28 1 rfl (by rfl) (by decide) (in_pick [1, 0] rfl) ?_
        refine g_goto (tgt := 2) X dX2_unlikeGate_31 (by decide) ?_
        exact ih x0 (x1 + 1) hf
      · refine g_iload_n X dX2_unlikeGate_26 1 rfl ?_
        exact g_ireturn X (zP hf) (by decide) (by decide) dX2_unlikeGate_27
    · refine g_bipush (v := (-3)) X dX2_unlikeGate_34 (by decide) ?_
      exact g_ireturn X (zP hf) (by decide) (by decide) dX2_unlikeGate_36
def f_X2_unlikeGate  (a0 : Option Nat) (h : AH) : Option Int32 :=
  b_X2_unlikeGate_2 h FU a0 0
set_option maxRecDepth 20000 in
theorem m_X2_unlikeGate  {a0 : Option Nat} {h : AH} {w : Int32} (hf : f_X2_unlikeGate a0 h = some w) : CT yX2_unlikeGate (wU yX2_unlikeGate cX2_unlikeGate 2 (some .int)) (rmD 1 0 0) 0 0 [tR a0] h (some (tI w), h) := by
  refine CT.of (cc := cX2_unlikeGate) (nL := 2) (ret := (some .int)) (by decide) (by simp [lg_sl, vOf_cat, wOf]) ?_
  intro K X
  refine g_locs (lv' := [(0, tR a0)]) (fun q hq => hq) ?_
  unfold f_X2_unlikeGate at hf
  refine g_iconst (v := 0) X dX2_unlikeGate_0 (by decide) ?_
  refine g_istore_n (lv' := [(0, tR a0), (1, tI 0)]) X dX2_unlikeGate_1 (by decide) (in_pick [1, 0] rfl) ?_
  exact w_X2_unlikeGate_2 X FU a0 0 hf
def b_X2_doubt_4   (h : AH) : Nat → Option Nat → Int32 → Int32 → Option Int32
  | 0 => fun _ _ _ => none
  | n + 1 => fun x0 x1 x2 =>
    if x2 < 5 then
      (gR 2 16 h x0).bind fun v1 =>
      (aR h v1 0).bind fun v2 =>
      (aI h v2 x2).bind fun v3 =>
      (gR 2 16 h x0).bind fun v4 =>
      (aR h v4 1).bind fun v5 =>
      (aI h v5 x2).bind fun v6 =>
      b_X2_doubt_4 h n x0 (x1 + (mAbs (v3 - v6))) (x2 + 1)
    else
      some x1
set_option maxRecDepth 20000 in
theorem w_X2_doubt_4 {K : KT} {w : Int32} {h : AH}   (X : CX K cX2_doubt RX2 TB (some .int) "doubt" (rmD 1 0 0) 3 0 0)  : ∀ (n : Nat) (x0 : Option Nat) (x1 : Int32) (x2 : Int32), b_X2_doubt_4 h n x0 x1 x2 = some w → GG K (some (tI w), h) 0 0 4 [(0, tR x0), (1, tI x1), (2, tI x2)] [] h := by
  intro n
  induction n with
  | zero =>
    intro x0 x1 x2 hf
    cases (show none = some w from hf)
  | succ n ih =>
    intro x0 x1 x2 hf
    rw [b_X2_doubt_4] at hf
    refine g_iload_n X dX2_doubt_4 2 rfl ?_
    refine g_iconst (v := 5) X dX2_doubt_5 (by decide) ?_
    refine g_icmpge (tgt := 38) X hf dX2_doubt_6 (by decide) (fun hf => ?_) (fun hf => ?_)
    · refine g_iload_n X dX2_doubt_9 1 rfl ?_
      refine g_aload_n X dX2_doubt_10 0 rfl ?_
      refine g_getR X hf (T := TX2) rfl (by decide) (by decide) in_RX2 tb_243 rfl dX2_doubt_11 (fun v1 hf => ?_)
      refine g_iconst (v := 0) X dX2_doubt_14 (by decide) ?_
      refine g_aaload X hf dX2_doubt_15 (fun v2 hf => ?_)
      refine g_iload_n X dX2_doubt_16 2 rfl ?_
      refine g_iaload X hf dX2_doubt_17 (fun v3 hf => ?_)
      refine g_aload_n X dX2_doubt_18 0 rfl ?_
      refine g_getR X hf (T := TX2) rfl (by decide) (by decide) in_RX2 tb_243 rfl dX2_doubt_19 (fun v4 hf => ?_)
      refine g_iconst (v := 1) X dX2_doubt_22 (by decide) ?_
      refine g_aaload X hf dX2_doubt_23 (fun v5 hf => ?_)
      refine g_iload_n X dX2_doubt_24 2 rfl ?_
      refine g_iaload X hf dX2_doubt_25 (fun v6 hf => ?_)
      refine g_isub X dX2_doubt_26 ?_
      refine g_mabs X tb_862 tb_863 tb_13 tb_864 ⟨Nat.le_of_ble_eq_true rfl, Nat.le_of_ble_eq_true rfl⟩ ⟨Nat.le_of_ble_eq_true rfl, Nat.le_of_ble_eq_true rfl⟩ dX2_doubt_27 ?_
      refine g_iadd X dX2_doubt_30 ?_
      refine g_istore_n (lv' := [(0, tR x0), (1, tI (x1 + (mAbs (v3 - v6)))), (2, tI x2)]) X dX2_doubt_31 (by decide) (in_pick [1, 0, 2] rfl) ?_
      refine g_iinc (v := (x2 + 1)) (lv' := [(0, tR x0), (1, tI (x1 + (mAbs (v3 - v6)))), (2, tI (x2 + 1))]) X dX2_doubt_32 2 rfl (by rfl) (by decide) (in_pick [1, 2, 0] rfl) ?_
      refine g_goto (tgt := 4) X dX2_doubt_35 (by decide) ?_
      exact ih x0 (x1 + (mAbs (v3 - v6))) (x2 + 1) hf
    · refine g_iload_n X dX2_doubt_38 1 rfl ?_
      exact g_ireturn X (zP hf) (by decide) (by decide) dX2_doubt_39
def f_X2_doubt  (a0 : Option Nat) (h : AH) : Option Int32 :=
  b_X2_doubt_4 h FU a0 0 0
set_option maxRecDepth 20000 in
theorem m_X2_doubt  {a0 : Option Nat} {h : AH} {w : Int32} (hf : f_X2_doubt a0 h = some w) : CT yX2_doubt (wU yX2_doubt cX2_doubt 3 (some .int)) (rmD 1 0 0) 0 0 [tR a0] h (some (tI w), h) := by
  refine CT.of (cc := cX2_doubt) (nL := 3) (ret := (some .int)) (by decide) (by simp [lg_sl, vOf_cat, wOf]) ?_
  intro K X
  refine g_locs (lv' := [(0, tR a0)]) (fun q hq => hq) ?_
  unfold f_X2_doubt at hf
  refine g_iconst (v := 0) X dX2_doubt_0 (by decide) ?_
  refine g_istore_n (lv' := [(0, tR a0), (1, tI 0)]) X dX2_doubt_1 (by decide) (in_pick [1, 0] rfl) ?_
  refine g_iconst (v := 0) X dX2_doubt_2 (by decide) ?_
  refine g_istore_n (lv' := [(0, tR a0), (1, tI 0), (2, tI 0)]) X dX2_doubt_3 (by decide) (in_pick [1, 2, 0] rfl) ?_
  exact w_X2_doubt_4 X FU a0 0 0 hf
