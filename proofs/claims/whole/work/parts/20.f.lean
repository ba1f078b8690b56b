def f_X0_init  (a0 : Nat) (h : AH) : Option AH :=
  (nA 100 30 (.int 0) 30 h).bind fun h1 =>
  (pR 0 3 h1 (some a0) (some h.1)).bind fun h2 =>
  some h2
set_option maxRecDepth 20000 in
theorem m_X0_init  {a0 : Nat} {h : AH} {w : AH} (hf : f_X0_init a0 h = some w) : CT yX0_init (wU yX0_init cX0_init 1 none) (rmD 1 1 30) 1 30 [tR (some a0)] h (none, w) := by
  refine CT.of (cc := cX0_init) (nL := 1) (ret := none) (by decide) (by simp [lg_sl, vOf_cat, wOf]) ?_
  intro K X
  refine g_locs (lv' := [(0, tR (some a0))]) (fun q hq => hq) ?_
  unfold f_X0_init at hf
  refine g_aload_n X dX0_init_0 0 rfl ?_
  refine g_objInit X tb_331 tb_27 tb_28 ⟨Nat.le_of_ble_eq_true rfl, Nat.le_of_ble_eq_true rfl⟩ dX0_init_1 ?_
  refine g_aload_n X dX0_init_4 0 rfl ?_
  refine g_bipush (v := 30) X dX0_init_5 (by decide) ?_
  refine g_newa (atype := .int) X hf (by decide) rfl rfl (fun _ _ q => q) tb_64 (Nat.le_of_ble_eq_true rfl) (by decide) dX0_init_7 (fun h1 hf => ?_)
  refine g_putFR X hf (T := TX0) rfl (by decide) (by decide) in_RX0 tyX0 tyX0_ok nmX0 tb_338 rfl rfl rfl rfl rfl dX0_init_9 (fun h2 hf => ?_)
  exact g_vreturn X (zV hf) (by decide) (by decide) dX0_init_12
def f_X0_forget  (a0 : Option Nat) (h : AH) : Option AH :=
  (pI 0 4 h a0 0).bind fun h1 =>
  (pZ 0 5 h1 a0 0).bind fun h2 =>
  some h2
set_option maxRecDepth 20000 in
theorem m_X0_forget  {a0 : Option Nat} {h : AH} {w : AH} (hf : f_X0_forget a0 h = some w) : CT yX0_forget (wU yX0_forget cX0_forget 1 none) (rmD 1 0 0) 0 0 [tR a0] h (none, w) := by
  refine CT.of (cc := cX0_forget) (nL := 1) (ret := none) (by decide) (by simp [lg_sl, vOf_cat, wOf]) ?_
  intro K X
  refine g_locs (lv' := [(0, tR a0)]) (fun q hq => hq) ?_
  unfold f_X0_forget at hf
  refine g_aload_n X dX0_forget_0 0 rfl ?_
  refine g_iconst (v := 0) X dX0_forget_1 (by decide) ?_
  refine g_putI X hf (T := TX0) rfl (by decide) (by decide) in_RX0 tyX0 tyX0_ok nmX0 tb_340 rfl rfl rfl dX0_forget_2 (fun h1 hf => ?_)
  refine g_aload_n X dX0_forget_5 0 rfl ?_
  refine g_iconst (v := 0) X dX0_forget_6 (by decide) ?_
  refine g_putZ X hf (T := TX0) rfl (by decide) (by decide) in_RX0 tyX0 tyX0_ok nmX0 tb_342 rfl rfl rfl dX0_forget_7 (fun h2 hf => ?_)
  exact g_vreturn X (zV hf) (by decide) (by decide) dX0_forget_10
def f_X0_runs  (a0 : Option Nat) (a1 : Int32) (h : AH) : Option AH :=
  (gI 0 4 h a0).bind fun v1 =>
  if v1 < 30 then
    (gR 0 3 h a0).bind fun v2 =>
    (gI 0 4 h a0).bind fun v3 =>
    (sI h v2 v3 a1).bind fun h4 =>
    (gI 0 4 h4 a0).bind fun v5 =>
    (pI 0 4 h4 a0 (v5 + 1)).bind fun h6 =>
    some h6
  else
    some h
set_option maxRecDepth 20000 in
theorem m_X0_runs  {a0 : Option Nat} {a1 : Int32} {h : AH} {w : AH} (hf : f_X0_runs a0 a1 h = some w) : CT yX0_runs (wU yX0_runs cX0_runs 2 none) (rmD 1 0 0) 0 0 [tR a0, tI a1] h (none, w) := by
  refine CT.of (cc := cX0_runs) (nL := 2) (ret := none) (by decide) (by simp [lg_sl, vOf_cat, wOf]) ?_
  intro K X
  refine g_locs (lv' := [(0, tR a0), (1, tI a1)]) (fun q hq => hq) ?_
  unfold f_X0_runs at hf
  refine g_aload_n X dX0_runs_0 0 rfl ?_
  refine g_getI X hf (T := TX0) rfl (by decide) (by decide) in_RX0 tb_340 rfl dX0_runs_1 (fun v1 hf => ?_)
  refine g_bipush (v := 30) X dX0_runs_4 (by decide) ?_
  refine g_icmpge (tgt := 29) X hf dX0_runs_6 (by decide) (fun hf => ?_) (fun hf => ?_)
  · refine g_aload_n X dX0_runs_9 0 rfl ?_
    refine g_getR X hf (T := TX0) rfl (by decide) (by decide) in_RX0 tb_338 rfl dX0_runs_10 (fun v2 hf => ?_)
    refine g_aload_n X dX0_runs_13 0 rfl ?_
    refine g_getI X hf (T := TX0) rfl (by decide) (by decide) in_RX0 tb_340 rfl dX0_runs_14 (fun v3 hf => ?_)
    refine g_iload_n X dX0_runs_17 1 rfl ?_
    refine g_iastore X hf dX0_runs_18 (fun h4 hf => ?_)
    refine g_aload_n X dX0_runs_19 0 rfl ?_
    refine g_dup X dX0_runs_20 rfl ?_
    refine g_getI X hf (T := TX0) rfl (by decide) (by decide) in_RX0 tb_340 rfl dX0_runs_21 (fun v5 hf => ?_)
    refine g_iconst (v := 1) X dX0_runs_24 (by decide) ?_
    refine g_iadd X dX0_runs_25 ?_
    refine g_putI X hf (T := TX0) rfl (by decide) (by decide) in_RX0 tyX0 tyX0_ok nmX0 tb_340 rfl rfl rfl dX0_runs_26 (fun h6 hf => ?_)
    exact g_vreturn X (zV hf) (by decide) (by decide) dX0_runs_29
  · exact g_vreturn X (zV hf) (by decide) (by decide) dX0_runs_29
def b_X0_names_59   (x0 : Option Nat) (s0 : Int32) (h : AH) : Option (Int32 × AH) :=
  (gI 0 0 h x0).bind fun v1 =>
  if v1 = 2 then
    some ((s0 * 3), h)
  else
    some (s0, h)
set_option maxRecDepth 20000 in
theorem w_X0_names_59 {K : KT} {w : (Int32 × AH)}   (X : CX K cX0_names RX0 TB (some .int) "names" (rmD 2 0 0) 3 0 0)  (x0 : Option Nat) (s0 : Int32) (h : AH) (hf : b_X0_names_59 x0 s0 h = some w) : GG K (some (tI w.1), w.2) 0 0 59 [(0, tR x0)] [tI s0] h := by
  unfold b_X0_names_59 at hf
  refine g_istore_n (lv' := [(0, tR x0), (2, tI s0)]) X dX0_names_59 (by decide) (in_pick [1, 0] rfl) ?_
  refine g_aload_n X dX0_names_60 0 rfl ?_
  refine g_getI X hf (T := TX0) rfl (by decide) (by decide) in_RX0 tb_332 rfl dX0_names_61 (fun v1 hf => ?_)
  refine g_iconst (v := 2) X dX0_names_64 (by decide) ?_
  refine g_icmpne (tgt := 74) X hf dX0_names_65 (by decide) (fun hf => ?_) (fun hf => ?_)
  · refine g_iload_n X dX0_names_68 1 rfl ?_
    refine g_iconst (v := 3) X dX0_names_69 (by decide) ?_
    refine g_imul X dX0_names_70 ?_
    refine g_goto (tgt := 75) X dX0_names_71 (by decide) ?_
    exact g_ireturn X (zW hf) (by decide) (by decide) dX0_names_75
  · refine g_iload_n X dX0_names_74 1 rfl ?_
    exact g_ireturn X (zW hf) (by decide) (by decide) dX0_names_75
def b_X0_names_28   (x0 : Option Nat) (x1 : Int32) (h : AH) : Option (Int32 × AH) :=
  (ck 0 h x0 (f_X0_runs x0 10 h)).bind fun h1 =>
  (gI 0 0 h1 x0).bind fun v2 =>
  if v2 = 4 then
    (gI 0 1 h1 x0).bind fun v3 =>
    b_X0_names_59 x0 ((x1 - 1) + v3) h1
  else
    (gI 0 1 h1 x0).bind fun v4 =>
    b_X0_names_59 x0 (x1 + v4) h1
set_option maxRecDepth 20000 in
theorem w_X0_names_28 {K : KT} {w : (Int32 × AH)}   (X : CX K cX0_names RX0 TB (some .int) "names" (rmD 2 0 0) 3 0 0)  (x0 : Option Nat) (x1 : Int32) (h : AH) (hf : b_X0_names_28 x0 x1 h = some w) : GG K (some (tI w.1), w.2) 0 0 28 [(0, tR x0), (1, tI x1)] [] h := by
  unfold b_X0_names_28 at hf
  refine g_aload_n X dX0_names_28 0 rfl ?_
  refine g_bipush (v := 10) X dX0_names_29 (by decide) ?_
  refine g_callV (n := 1) (av := [tI 10]) (rest := []) (k := 0) X hf (fun h1 => (none, h1)) (fun _ q => m_X0_runs q) (gdV tb_1058 tb_1059 tb_1681 tb_11 tb_1060) rfl (by decide +kernel) rfl (by decide) rfl (by decide) (by decide) rfl (Nat.le_of_ble_eq_true rfl) dX0_names_31 (fun h1 hf => ?_)
  refine g_aload_n X dX0_names_34 0 rfl ?_
  refine g_getI X hf (T := TX0) rfl (by decide) (by decide) in_RX0 tb_332 rfl dX0_names_35 (fun v2 hf => ?_)
  refine g_iconst (v := 4) X dX0_names_38 (by decide) ?_
  refine g_icmpne (tgt := 53) X hf dX0_names_39 (by decide) (fun hf => ?_) (fun hf => ?_)
  · refine g_iload_n X dX0_names_42 1 rfl ?_
    refine g_iconst (v := 1) X dX0_names_43 (by decide) ?_
    refine g_isub X dX0_names_44 ?_
    refine g_aload_n X dX0_names_45 0 rfl ?_
    refine g_getI X hf (T := TX0) rfl (by decide) (by decide) in_RX0 tb_334 rfl dX0_names_46 (fun v3 hf => ?_)
    refine g_iadd X dX0_names_49 ?_
    refine g_goto (tgt := 59) X dX0_names_50 (by decide) ?_
    refine g_locs (lv' := [(0, tR x0)]) (in_pick [0] rfl) ?_
    exact w_X0_names_59 X x0 ((x1 - 1) + v3) h1 hf
  · refine g_iload_n X dX0_names_53 1 rfl ?_
    refine g_aload_n X dX0_names_54 0 rfl ?_
    refine g_getI X hf (T := TX0) rfl (by decide) (by decide) in_RX0 tb_334 rfl dX0_names_55 (fun v4 hf => ?_)
    refine g_iadd X dX0_names_58 ?_
    refine g_locs (lv' := [(0, tR x0)]) (in_pick [0] rfl) ?_
    exact w_X0_names_59 X x0 (x1 + v4) h1 hf
def b_X0_names_14   (x0 : Option Nat) (x1 : Int32) (h : AH) : Option (Int32 × AH) :=
  (gI 0 0 h x0).bind fun v1 =>
  if v1 = 4 then
    (ck 0 h x0 (f_X0_runs x0 51 h)).bind fun h2 =>
    b_X0_names_28 x0 x1 h2
  else
    b_X0_names_28 x0 x1 h
set_option maxRecDepth 20000 in
theorem w_X0_names_14 {K : KT} {w : (Int32 × AH)}   (X : CX K cX0_names RX0 TB (some .int) "names" (rmD 2 0 0) 3 0 0)  (x0 : Option Nat) (x1 : Int32) (h : AH) (hf : b_X0_names_14 x0 x1 h = some w) : GG K (some (tI w.1), w.2) 0 0 14 [(0, tR x0), (1, tI x1)] [] h := by
  unfold b_X0_names_14 at hf
  refine g_aload_n X dX0_names_14 0 rfl ?_
  refine g_getI X hf (T := TX0) rfl (by decide) (by decide) in_RX0 tb_332 rfl dX0_names_15 (fun v1 hf => ?_)
  refine g_iconst (v := 4) X dX0_names_18 (by decide) ?_
  refine g_icmpne (tgt := 28) X hf dX0_names_19 (by decide) (fun hf => ?_) (fun hf => ?_)
  · refine g_aload_n X dX0_names_22 0 rfl ?_
    refine g_bipush (v := 51) X dX0_names_23 (by decide) ?_
    refine g_callV (n := 1) (av := [tI 51]) (rest := []) (k := 0) X hf (fun h2 => (none, h2)) (fun _ q => m_X0_runs q) (gdV tb_1058 tb_1059 tb_1681 tb_11 tb_1060) rfl (by decide +kernel) rfl (by decide) rfl (by decide) (by decide) rfl (Nat.le_of_ble_eq_true rfl) dX0_names_25 (fun h2 hf => ?_)
    exact w_X0_names_28 X x0 x1 h2 hf
  · exact w_X0_names_28 X x0 x1 h hf
def f_X0_names  (a0 : Option Nat) (a1 : Int32) (h : AH) : Option (Int32 × AH) :=
  (gI 0 0 h a0).bind fun v1 =>
  if v1 = 2 then
    (ck 0 h a0 (f_X0_runs a0 30 h)).bind fun h2 =>
    b_X0_names_14 a0 a1 h2
  else
    b_X0_names_14 a0 a1 h
set_option maxRecDepth 20000 in
theorem m_X0_names  {a0 : Option Nat} {a1 : Int32} {h : AH} {w : (Int32 × AH)} (hf : f_X0_names a0 a1 h = some w) : CT yX0_names (wU yX0_names cX0_names 3 (some .int)) (rmD 2 0 0) 0 0 [tR a0, tI a1] h (some (tI w.1), w.2) := by
  refine CT.of (cc := cX0_names) (nL := 3) (ret := (some .int)) (by decide) (by simp [lg_sl, vOf_cat, wOf]) ?_
  intro K X
  refine g_locs (lv' := [(0, tR a0), (1, tI a1)]) (fun q hq => hq) ?_
  unfold f_X0_names at hf
  refine g_aload_n X dX0_names_0 0 rfl ?_
  refine g_getI X hf (T := TX0) rfl (by decide) (by decide) in_RX0 tb_332 rfl dX0_names_1 (fun v1 hf => ?_)
  refine g_iconst (v := 2) X dX0_names_4 (by decide) ?_
  refine g_icmpne (tgt := 14) X hf dX0_names_5 (by decide) (fun hf => ?_) (fun hf => ?_)
  · refine g_aload_n X dX0_names_8 0 rfl ?_
    refine g_bipush (v := 30) X dX0_names_9 (by decide) ?_
    refine g_callV (n := 1) (av := [tI 30]) (rest := []) (k := 0) X hf (fun h2 => (none, h2)) (fun _ q => m_X0_runs q) (gdV tb_1058 tb_1059 tb_1681 tb_11 tb_1060) rfl (by decide +kernel) rfl (by decide) rfl (by decide) (by decide) rfl (Nat.le_of_ble_eq_true rfl) dX0_names_11 (fun h2 hf => ?_)
    exact w_X0_names_14 X a0 a1 h2 hf
  · exact w_X0_names_14 X a0 a1 h hf
def f_X0_isSherd  (a0 : Option Nat) (h : AH) : Option Int32 :=
  (gI 0 0 h a0).bind fun v1 =>
  if v1 = 1 then
    some 1
  else
    (gI 0 0 h a0).bind fun v2 =>
    if v2 = 2 then
      some 1
    else
      (gI 0 0 h a0).bind fun v3 =>
      if v3 = 3 then
        some 1
      else
        some 0
set_option maxRecDepth 20000 in
theorem m_X0_isSherd  {a0 : Option Nat} {h : AH} {w : Int32} (hf : f_X0_isSherd a0 h = some w) : CT yX0_isSherd (wU yX0_isSherd cX0_isSherd 1 (some .boolean)) (rmD 1 0 0) 0 0 [tR a0] h (some (tI w), h) := by
  refine CT.of (cc := cX0_isSherd) (nL := 1) (ret := (some .boolean)) (by decide) (by simp [lg_sl, vOf_cat, wOf]) ?_
  intro K X
  refine g_locs (lv' := [(0, tR a0)]) (fun q hq => hq) ?_
  unfold f_X0_isSherd at hf
  refine g_aload_n X dX0_isSherd_0 0 rfl ?_
  refine g_getI X hf (T := TX0) rfl (by decide) (by decide) in_RX0 tb_332 rfl dX0_isSherd_1 (fun v1 hf => ?_)
  refine g_iconst (v := 1) X dX0_isSherd_4 (by decide) ?_
  refine g_icmpeq (tgt := 24) X hf dX0_isSherd_5 (by decide) (fun hf => ?_) (fun hf => ?_)
  · refine g_iconst (v := 1) X dX0_isSherd_24 (by decide) ?_
    refine g_goto (tgt := 29) X dX0_isSherd_25 (by decide) ?_
    exact g_zreturn X (zP hf) (by decide) (by decide) (by decide) dX0_isSherd_29
  · refine g_aload_n X dX0_isSherd_8 0 rfl ?_
    refine g_getI X hf (T := TX0) rfl (by decide) (by decide) in_RX0 tb_332 rfl dX0_isSherd_9 (fun v2 hf => ?_)
    refine g_iconst (v := 2) X dX0_isSherd_12 (by decide) ?_
    refine g_icmpeq (tgt := 24) X hf dX0_isSherd_13 (by decide) (fun hf => ?_) (fun hf => ?_)
    · refine g_iconst (v := 1) X dX0_isSherd_24 (by decide) ?_
      refine g_goto (tgt := 29) X dX0_isSherd_25 (by decide) ?_
      exact g_zreturn X (zP hf) (by decide) (by decide) (by decide) dX0_isSherd_29
    · refine g_aload_n X dX0_isSherd_16 0 rfl ?_
      refine g_getI X hf (T := TX0) rfl (by decide) (by decide) in_RX0 tb_332 rfl dX0_isSherd_17 (fun v3 hf => ?_)
      refine g_iconst (v := 3) X dX0_isSherd_20 (by decide) ?_
      refine g_icmpne (tgt := 28) X hf dX0_isSherd_21 (by decide) (fun hf => ?_) (fun hf => ?_)
      · refine g_iconst (v := 1) X dX0_isSherd_24 (by decide) ?_
        refine g_goto (tgt := 29) X dX0_isSherd_25 (by decide) ?_
        exact g_zreturn X (zP hf) (by decide) (by decide) (by decide) dX0_isSherd_29
      · refine g_iconst (v := 0) X dX0_isSherd_28 (by decide) ?_
        exact g_zreturn X (zP hf) (by decide) (by decide) (by decide) dX0_isSherd_29
def b_X0_counts_55   (x0 : Option Nat) (x2 : Int32) (h : AH) : Option (Int32 × AH) :=
  (gI 0 0 h x0).bind fun v1 =>
  if v1 = 3 then
    some ((0 - x2), h)
  else
    some (x2, h)
set_option maxRecDepth 20000 in
theorem w_X0_counts_55 {K : KT} {w : (Int32 × AH)}   (X : CX K cX0_counts RX0 TB (some .int) "counts" (rmD 3 0 0) 3 0 0)  (x0 : Option Nat) (x2 : Int32) (h : AH) (hf : b_X0_counts_55 x0 x2 h = some w) : GG K (some (tI w.1), w.2) 0 0 55 [(0, tR x0), (2, tI x2)] [] h := by
  unfold b_X0_counts_55 at hf
  refine g_aload_n X dX0_counts_55 0 rfl ?_
  refine g_getI X hf (T := TX0) rfl (by decide) (by decide) in_RX0 tb_332 rfl dX0_counts_56 (fun v1 hf => ?_)
  refine g_iconst (v := 3) X dX0_counts_59 (by decide) ?_
  refine g_icmpne (tgt := 69) X hf dX0_counts_60 (by decide) (fun hf => ?_) (fun hf => ?_)
  · refine g_iconst (v := 0) X dX0_counts_63 (by decide) ?_
    refine g_iload_n X dX0_counts_64 1 rfl ?_
    refine g_isub X dX0_counts_65 ?_
    refine g_goto (tgt := 70) X dX0_counts_66 (by decide) ?_
    exact g_ireturn X (zW hf) (by decide) (by decide) dX0_counts_70
  · refine g_iload_n X dX0_counts_69 1 rfl ?_
    exact g_ireturn X (zW hf) (by decide) (by decide) dX0_counts_70
def b_X0_counts_27   (x0 : Option Nat) (x1 : Int32) (h : AH) : Option (Int32 × AH) :=
  (ck 0 h x0 (f_X0_runs x0 11 h)).bind fun h1 =>
  (ck 0 h1 x0 (f_X0_names x0 x1 h1)).bind fun p2 =>
  (ck 0 p2.2 x0 (f_X0_isSherd x0 p2.2)).bind fun v3 =>
  if v3 = 0 then
    b_X0_counts_55 x0 (p2.1 * 2) p2.2
  else
    (gI 0 2 p2.2 x0).bind fun v4 =>
    b_X0_counts_55 x0 ((p2.1 * 2) ^^^ v4) p2.2
set_option maxRecDepth 20000 in
theorem w_X0_counts_27 {K : KT} {w : (Int32 × AH)}   (X : CX K cX0_counts RX0 TB (some .int) "counts" (rmD 3 0 0) 3 0 0)  (x0 : Option Nat) (x1 : Int32) (h : AH) (hf : b_X0_counts_27 x0 x1 h = some w) : GG K (some (tI w.1), w.2) 0 0 27 [(0, tR x0), (1, tI x1)] [] h := by
  unfold b_X0_counts_27 at hf
  refine g_aload_n X dX0_counts_27 0 rfl ?_
  refine g_bipush (v := 11) X dX0_counts_28 (by decide) ?_
  refine g_callV (n := 1) (av := [tI 11]) (rest := []) (k := 0) X hf (fun h1 => (none, h1)) (fun _ q => m_X0_runs q) (gdV tb_1058 tb_1059 tb_1681 tb_11 tb_1060) rfl (by decide +kernel) rfl (by decide) rfl (by decide) (by decide) rfl (Nat.le_of_ble_eq_true rfl) dX0_counts_30 (fun h1 hf => ?_)
  refine g_aload_n X dX0_counts_33 0 rfl ?_
  refine g_iload_n X dX0_counts_34 1 rfl ?_
  refine g_callV (n := 1) (av := [tI x1]) (rest := []) (k := 0) X hf (fun p2 => (some (tI p2.1), p2.2)) (fun _ q => m_X0_names q) (gdV tb_1055 tb_1056 tb_1680 tb_11 tb_1057) rfl (by decide +kernel) rfl (by decide) rfl (by decide) (by decide) rfl (Nat.le_of_ble_eq_true rfl) dX0_counts_35 (fun p2 hf => ?_)
  refine g_iconst (v := 2) X dX0_counts_38 (by decide) ?_
  refine g_imul X dX0_counts_39 ?_
  refine g_istore_n (lv' := [(0, tR x0), (1, tI x1), (2, tI (p2.1 * 2))]) X dX0_counts_40 (by decide) (in_pick [1, 2, 0] rfl) ?_
  refine g_aload_n X dX0_counts_41 0 rfl ?_
  refine g_callV (n := 0) (av := []) (rest := []) (k := 0) X hf (fun v3 => (some (tI v3), p2.2)) (fun _ q => m_X0_isSherd q) (gdV tb_1064 tb_1065 tb_1683 tb_11 tb_1066) rfl (by decide +kernel) rfl (by decide) rfl (by decide) (by decide) rfl (Nat.le_of_ble_eq_true rfl) dX0_counts_42 (fun v3 hf => ?_)
  refine g_ifeq (tgt := 55) X hf dX0_counts_45 (by decide) (fun hf => ?_) (fun hf => ?_)
  · refine g_locs (lv' := [(0, tR x0), (2, tI (p2.1 * 2))]) (in_pick [0, 2] rfl) ?_
    exact w_X0_counts_55 X x0 (p2.1 * 2) p2.2 hf
  · refine g_iload_n X dX0_counts_48 2 rfl ?_
    refine g_aload_n X dX0_counts_49 0 rfl ?_
    refine g_getI X hf (T := TX0) rfl (by decide) (by decide) in_RX0 tb_336 rfl dX0_counts_50 (fun v4 hf => ?_)
    refine g_ixor X dX0_counts_53 ?_
    refine g_istore_n (lv' := [(0, tR x0), (1, tI x1), (2, tI ((p2.1 * 2) ^^^ v4))]) X dX0_counts_54 (by decide) (in_pick [1, 2, 0] rfl) ?_
    refine g_locs (lv' := [(0, tR x0), (2, tI ((p2.1 * 2) ^^^ v4))]) (in_pick [0, 2] rfl) ?_
    exact w_X0_counts_55 X x0 ((p2.1 * 2) ^^^ v4) p2.2 hf
def b_X0_counts_14   (x0 : Option Nat) (x1 : Int32) (h : AH) : Option (Int32 × AH) :=
  (ck 0 h x0 (f_X0_isSherd x0 h)).bind fun v1 =>
  if v1 = 0 then
    b_X0_counts_27 x0 x1 h
  else
    (ck 0 h x0 (f_X0_runs x0 20 h)).bind fun h2 =>
    b_X0_counts_27 x0 x1 h2
set_option maxRecDepth 20000 in
theorem w_X0_counts_14 {K : KT} {w : (Int32 × AH)}   (X : CX K cX0_counts RX0 TB (some .int) "counts" (rmD 3 0 0) 3 0 0)  (x0 : Option Nat) (x1 : Int32) (h : AH) (hf : b_X0_counts_14 x0 x1 h = some w) : GG K (some (tI w.1), w.2) 0 0 14 [(0, tR x0), (1, tI x1)] [] h := by
  unfold b_X0_counts_14 at hf
  refine g_aload_n X dX0_counts_14 0 rfl ?_
  refine g_callV (n := 0) (av := []) (rest := []) (k := 0) X hf (fun v1 => (some (tI v1), h)) (fun _ q => m_X0_isSherd q) (gdV tb_1064 tb_1065 tb_1683 tb_11 tb_1066) rfl (by decide +kernel) rfl (by decide) rfl (by decide) (by decide) rfl (Nat.le_of_ble_eq_true rfl) dX0_counts_15 (fun v1 hf => ?_)
  refine g_ifeq (tgt := 27) X hf dX0_counts_18 (by decide) (fun hf => ?_) (fun hf => ?_)
  · exact w_X0_counts_27 X x0 x1 h hf
  · refine g_aload_n X dX0_counts_21 0 rfl ?_
    refine g_bipush (v := 20) X dX0_counts_22 (by decide) ?_
    refine g_callV (n := 1) (av := [tI 20]) (rest := []) (k := 0) X hf (fun h2 => (none, h2)) (fun _ q => m_X0_runs q) (gdV tb_1058 tb_1059 tb_1681 tb_11 tb_1060) rfl (by decide +kernel) rfl (by decide) rfl (by decide) (by decide) rfl (Nat.le_of_ble_eq_true rfl) dX0_counts_24 (fun h2 hf => ?_)
    exact w_X0_counts_27 X x0 x1 h2 hf
def f_X0_counts  (a0 : Option Nat) (a1 : Int32) (h : AH) : Option (Int32 × AH) :=
  (gI 0 0 h a0).bind fun v1 =>
  if v1 = 3 then
    (ck 0 h a0 (f_X0_runs a0 40 h)).bind fun h2 =>
    b_X0_counts_14 a0 a1 h2
  else
    b_X0_counts_14 a0 a1 h
set_option maxRecDepth 20000 in
theorem m_X0_counts  {a0 : Option Nat} {a1 : Int32} {h : AH} {w : (Int32 × AH)} (hf : f_X0_counts a0 a1 h = some w) : CT yX0_counts (wU yX0_counts cX0_counts 3 (some .int)) (rmD 3 0 0) 0 0 [tR a0, tI a1] h (some (tI w.1), w.2) := by
  refine CT.of (cc := cX0_counts) (nL := 3) (ret := (some .int)) (by decide) (by simp [lg_sl, vOf_cat, wOf]) ?_
  intro K X
  refine g_locs (lv' := [(0, tR a0), (1, tI a1)]) (fun q hq => hq) ?_
  unfold f_X0_counts at hf
  refine g_aload_n X dX0_counts_0 0 rfl ?_
  refine g_getI X hf (T := TX0) rfl (by decide) (by decide) in_RX0 tb_332 rfl dX0_counts_1 (fun v1 hf => ?_)
  refine g_iconst (v := 3) X dX0_counts_4 (by decide) ?_
  refine g_icmpne (tgt := 14) X hf dX0_counts_5 (by decide) (fun hf => ?_) (fun hf => ?_)
  · refine g_aload_n X dX0_counts_8 0 rfl ?_
    refine g_bipush (v := 40) X dX0_counts_9 (by decide) ?_
    refine g_callV (n := 1) (av := [tI 40]) (rest := []) (k := 0) X hf (fun h2 => (none, h2)) (fun _ q => m_X0_runs q) (gdV tb_1058 tb_1059 tb_1681 tb_11 tb_1060) rfl (by decide +kernel) rfl (by decide) rfl (by decide) (by decide) rfl (Nat.le_of_ble_eq_true rfl) dX0_counts_11 (fun h2 hf => ?_)
    exact w_X0_counts_14 X a0 a1 h2 hf
  · exact w_X0_counts_14 X a0 a1 h hf
def b_X0_binds_63   (x0 : Option Nat) (x1 : Int32) (h : AH) : Option (Int32 × AH) :=
  (ck 0 h x0 (f_X0_runs x0 12 h)).bind fun h1 =>
  (ck 0 h1 x0 (f_X0_counts x0 x1 h1)).bind fun p2 =>
  (gI 0 2 p2.2 x0).bind fun v3 =>
  (gI 0 0 p2.2 x0).bind fun v4 =>
  if v4 < 3 ∨ 6 < v4 then
    some ((p2.1 - v3), p2.2)
  else if v4 = 3 then
    (ck 0 p2.2 x0 (f_X0_names x0 2 p2.2)).bind fun p5 =>
    some (((p2.1 - v3) + p5.1), p5.2)
  else if v4 = 4 then
    some (((p2.1 - v3) * 2), p2.2)
  else if v4 = 5 then
    some ((p2.1 - v3), p2.2)
  else if v4 = 6 then
    some (((p2.1 - v3) - 1), p2.2)
  else none
set_option maxRecDepth 20000 in
theorem w_X0_binds_63 {K : KT} {w : (Int32 × AH)}   (X : CX K cX0_binds RX0 TB (some .int) "binds" (rmD 4 0 0) 3 0 0)  (x0 : Option Nat) (x1 : Int32) (h : AH) (hf : b_X0_binds_63 x0 x1 h = some w) : GG K (some (tI w.1), w.2) 0 0 63 [(0, tR x0), (1, tI x1)] [] h := by
  unfold b_X0_binds_63 at hf
  refine g_aload_n X dX0_binds_63 0 rfl ?_
  refine g_bipush (v := 12) X dX0_binds_64 (by decide) ?_
  refine g_callV (n := 1) (av := [tI 12]) (rest := []) (k := 0) X hf (fun h1 => (none, h1)) (fun _ q => m_X0_runs q) (gdV tb_1058 tb_1059 tb_1681 tb_11 tb_1060) rfl (by decide +kernel) rfl (by decide) rfl (by decide) (by decide) rfl (Nat.le_of_ble_eq_true rfl) dX0_binds_66 (fun h1 hf => ?_)
  refine g_aload_n X dX0_binds_69 0 rfl ?_
  refine g_iload_n X dX0_binds_70 1 rfl ?_
  refine g_callV (n := 1) (av := [tI x1]) (rest := []) (k := 0) X hf (fun p2 => (some (tI p2.1), p2.2)) (fun _ q => m_X0_counts q) (gdV tb_1061 tb_1062 tb_1682 tb_11 tb_1063) rfl (by decide +kernel) rfl (by decide) rfl (by decide) (by decide) rfl (Nat.le_of_ble_eq_true rfl) dX0_binds_71 (fun p2 hf => ?_)
  refine g_aload_n X dX0_binds_74 0 rfl ?_
  refine g_getI X hf (T := TX0) rfl (by decide) (by decide) in_RX0 tb_336 rfl dX0_binds_75 (fun v3 hf => ?_)
  refine g_isub X dX0_binds_78 ?_
  refine g_istore_n (lv' := [(0, tR x0), (1, tI x1), (2, tI (p2.1 - v3))]) X dX0_binds_79 (by decide) (in_pick [1, 2, 0] rfl) ?_
  refine g_aload_n X dX0_binds_80 0 rfl ?_
  refine g_getI X hf (T := TX0) rfl (by decide) (by decide) in_RX0 tb_332 rfl dX0_binds_81 (fun v4 hf => ?_)
  by_cases hsw : v4 < 3 ∨ 6 < v4
  · rw [if_pos hsw] at hf
    refine g_tabOut (tgt := 132) X dX0_binds_84 (tab_out hsw) (by decide) ?_
    refine g_iload_n X dX0_binds_132 2 rfl ?_
    exact g_ireturn X (zW hf) (by decide) (by decide) dX0_binds_133
  rw [if_neg hsw] at hf
  by_cases hs0 : v4 = 3
  · rw [if_pos hs0] at hf
    refine g_tabIn (off := 32) (tgt := 116) X 3 hs0 dX0_binds_84 (by decide) (by decide) (by decide +kernel) (by decide) ?_
    refine g_iload_n X dX0_binds_116 2 rfl ?_
    refine g_aload_n X dX0_binds_117 0 rfl ?_
    refine g_iconst (v := 2) X dX0_binds_118 (by decide) ?_
    refine g_callV (n := 1) (av := [tI 2]) (rest := [tI (p2.1 - v3)]) (k := 0) X hf (fun p5 => (some (tI p5.1), p5.2)) (fun _ q => m_X0_names q) (gdV tb_1055 tb_1056 tb_1680 tb_11 tb_1057) rfl (by decide +kernel) rfl (by decide) rfl (by decide) (by decide) rfl (Nat.le_of_ble_eq_true rfl) dX0_binds_119 (fun p5 hf => ?_)
    refine g_iadd X dX0_binds_122 ?_
    exact g_ireturn X (zW hf) (by decide) (by decide) dX0_binds_123
  rw [if_neg hs0] at hf
  by_cases hs1 : v4 = 4
  · rw [if_pos hs1] at hf
    refine g_tabIn (off := 40) (tgt := 124) X 4 hs1 dX0_binds_84 (by decide) (by decide) (by decide +kernel) (by decide) ?_
    refine g_iload_n X dX0_binds_124 2 rfl ?_
    refine g_iconst (v := 2) X dX0_binds_125 (by decide) ?_
    refine g_imul X dX0_binds_126 ?_
    exact g_ireturn X (zW hf) (by decide) (by decide) dX0_binds_127
  rw [if_neg hs1] at hf
  by_cases hs2 : v4 = 5
  · rw [if_pos hs2] at hf
    refine g_tabIn (off := 48) (tgt := 132) X 5 hs2 dX0_binds_84 (by decide) (by decide) (by decide +kernel) (by decide) ?_
    refine g_iload_n X dX0_binds_132 2 rfl ?_
    exact g_ireturn X (zW hf) (by decide) (by decide) dX0_binds_133
  rw [if_neg hs2] at hf
  by_cases hs3 : v4 = 6
  · rw [if_pos hs3] at hf
    refine g_tabIn (off := 44) (tgt := 128) X 6 hs3 dX0_binds_84 (by decide) (by decide) (by decide +kernel) (by decide) ?_
    refine g_iload_n X dX0_binds_128 2 rfl ?_
    refine g_iconst (v := 1) X dX0_binds_129 (by decide) ?_
    refine g_isub X dX0_binds_130 ?_
    exact g_ireturn X (zW hf) (by decide) (by decide) dX0_binds_131
  rw [if_neg hs3] at hf
  cases hf
def f_X0_binds  (a0 : Option Nat) (a1 : Int32) (h : AH) : Option (Int32 × AH) :=
  (gI 0 0 h a0).bind fun v1 =>
  if v1 < 3 ∨ 6 < v1 then
    b_X0_binds_63 a0 a1 h
  else if v1 = 3 then
    (ck 0 h a0 (f_X0_runs a0 41 h)).bind fun h2 =>
    b_X0_binds_63 a0 a1 h2
  else if v1 = 4 then
    (ck 0 h a0 (f_X0_runs a0 50 h)).bind fun h3 =>
    b_X0_binds_63 a0 a1 h3
  else if v1 = 5 then
    b_X0_binds_63 a0 a1 h
  else if v1 = 6 then
    (ck 0 h a0 (f_X0_runs a0 70 h)).bind fun h4 =>
    b_X0_binds_63 a0 a1 h4
  else none
set_option maxRecDepth 20000 in
theorem m_X0_binds  {a0 : Option Nat} {a1 : Int32} {h : AH} {w : (Int32 × AH)} (hf : f_X0_binds a0 a1 h = some w) : CT yX0_binds (wU yX0_binds cX0_binds 3 (some .int)) (rmD 4 0 0) 0 0 [tR a0, tI a1] h (some (tI w.1), w.2) := by
  refine CT.of (cc := cX0_binds) (nL := 3) (ret := (some .int)) (by decide) (by simp [lg_sl, vOf_cat, wOf]) ?_
  intro K X
  refine g_locs (lv' := [(0, tR a0), (1, tI a1)]) (fun q hq => hq) ?_
  unfold f_X0_binds at hf
  refine g_aload_n X dX0_binds_0 0 rfl ?_
  refine g_getI X hf (T := TX0) rfl (by decide) (by decide) in_RX0 tb_332 rfl dX0_binds_1 (fun v1 hf => ?_)
  by_cases hsw : v1 < 3 ∨ 6 < v1
  · rw [if_pos hsw] at hf
    refine g_tabOut (tgt := 63) X dX0_binds_4 (tab_out hsw) (by decide) ?_
    exact w_X0_binds_63 X a0 a1 h hf
  rw [if_neg hsw] at hf
  by_cases hs0 : v1 = 3
  · rw [if_pos hs0] at hf
    refine g_tabIn (off := 32) (tgt := 36) X 3 hs0 dX0_binds_4 (by decide) (by decide) (by decide +kernel) (by decide) ?_
    refine g_aload_n X dX0_binds_36 0 rfl ?_
    refine g_bipush (v := 41) X dX0_binds_37 (by decide) ?_
    refine g_callV (n := 1) (av := [tI 41]) (rest := []) (k := 0) X hf (fun h2 => (none, h2)) (fun _ q => m_X0_runs q) (gdV tb_1058 tb_1059 tb_1681 tb_11 tb_1060) rfl (by decide +kernel) rfl (by decide) rfl (by decide) (by decide) rfl (Nat.le_of_ble_eq_true rfl) dX0_binds_39 (fun h2 hf => ?_)
    refine g_goto (tgt := 63) X dX0_binds_42 (by decide) ?_
    exact w_X0_binds_63 X a0 a1 h2 hf
  rw [if_neg hs0] at hf
  by_cases hs1 : v1 = 4
  · rw [if_pos hs1] at hf
    refine g_tabIn (off := 41) (tgt := 45) X 4 hs1 dX0_binds_4 (by decide) (by decide) (by decide +kernel) (by decide) ?_
    refine g_aload_n X dX0_binds_45 0 rfl ?_
    refine g_bipush (v := 50) X dX0_binds_46 (by decide) ?_
    refine g_callV (n := 1) (av := [tI 50]) (rest := []) (k := 0) X hf (fun h3 => (none, h3)) (fun _ q => m_X0_runs q) (gdV tb_1058 tb_1059 tb_1681 tb_11 tb_1060) rfl (by decide +kernel) rfl (by decide) rfl (by decide) (by decide) rfl (Nat.le_of_ble_eq_true rfl) dX0_binds_48 (fun h3 hf => ?_)
    refine g_goto (tgt := 63) X dX0_binds_51 (by decide) ?_
    exact w_X0_binds_63 X a0 a1 h3 hf
  rw [if_neg hs1] at hf
  by_cases hs2 : v1 = 5
  · rw [if_pos hs2] at hf
    refine g_tabIn (off := 59) (tgt := 63) X 5 hs2 dX0_binds_4 (by decide) (by decide) (by decide +kernel) (by decide) ?_
    exact w_X0_binds_63 X a0 a1 h hf
  rw [if_neg hs2] at hf
  by_cases hs3 : v1 = 6
  · rw [if_pos hs3] at hf
    refine g_tabIn (off := 50) (tgt := 54) X 6 hs3 dX0_binds_4 (by decide) (by decide) (by decide +kernel) (by decide) ?_
    refine g_aload_n X dX0_binds_54 0 rfl ?_
    refine g_bipush (v := 70) X dX0_binds_55 (by decide) ?_
    refine g_callV (n := 1) (av := [tI 70]) (rest := []) (k := 0) X hf (fun h4 => (none, h4)) (fun _ q => m_X0_runs q) (gdV tb_1058 tb_1059 tb_1681 tb_11 tb_1060) rfl (by decide +kernel) rfl (by decide) rfl (by decide) (by decide) rfl (Nat.le_of_ble_eq_true rfl) dX0_binds_57 (fun h4 hf => ?_)
    refine g_goto (tgt := 63) X dX0_binds_60 (by decide) ?_
    exact w_X0_binds_63 X a0 a1 h4 hf
  rw [if_neg hs3] at hf
  cases hf
def b_X0_tells_130   (x0 : Option Nat) (x3 : Int32) (h : AH) : Option (Int32 × AH) :=
  (gI 0 0 h x0).bind fun v1 =>
  if v1 = 6 then
    some ((0 - x3), h)
  else
    some (x3, h)
set_option maxRecDepth 20000 in
theorem w_X0_tells_130 {K : KT} {w : (Int32 × AH)}   (X : CX K cX0_tells RX0 TB (some .int) "tells" (rmD 3 0 0) 4 0 0)  (x0 : Option Nat) (x3 : Int32) (h : AH) (hf : b_X0_tells_130 x0 x3 h = some w) : GG K (some (tI w.1), w.2) 0 0 130 [(0, tR x0), (3, tI x3)] [] h := by
  unfold b_X0_tells_130 at hf
  refine g_aload_n X dX0_tells_130 0 rfl ?_
  refine g_getI X hf (T := TX0) rfl (by decide) (by decide) in_RX0 tb_332 rfl dX0_tells_131 (fun v1 hf => ?_)
  refine g_bipush (v := 6) X dX0_tells_134 (by decide) ?_
  refine g_icmpne (tgt := 145) X hf dX0_tells_136 (by decide) (fun hf => ?_) (fun hf => ?_)
  · refine g_iconst (v := 0) X dX0_tells_139 (by decide) ?_
    refine g_iload_n X dX0_tells_140 1 rfl ?_
    refine g_isub X dX0_tells_141 ?_
    refine g_goto (tgt := 146) X dX0_tells_142 (by decide) ?_
    exact g_ireturn X (zW hf) (by decide) (by decide) dX0_tells_146
  · refine g_iload_n X dX0_tells_145 1 rfl ?_
    exact g_ireturn X (zW hf) (by decide) (by decide) dX0_tells_146
def b_X0_tells_120   (x0 : Option Nat) (x3 : Int32) (h : AH) : Option (Int32 × AH) :=
  (ck 0 h x0 (f_X0_isSherd x0 h)).bind fun v1 =>
  if v1 = 0 then
    b_X0_tells_130 x0 x3 h
  else
    b_X0_tells_130 x0 (x3 + 1) h
set_option maxRecDepth 20000 in
theorem w_X0_tells_120 {K : KT} {w : (Int32 × AH)}   (X : CX K cX0_tells RX0 TB (some .int) "tells" (rmD 3 0 0) 4 0 0)  (x0 : Option Nat) (x3 : Int32) (h : AH) (hf : b_X0_tells_120 x0 x3 h = some w) : GG K (some (tI w.1), w.2) 0 0 120 [(0, tR x0), (3, tI x3)] [] h := by
  unfold b_X0_tells_120 at hf
  refine g_aload_n X dX0_tells_120 0 rfl ?_
  refine g_callV (n := 0) (av := []) (rest := []) (k := 0) X hf (fun v1 => (some (tI v1), h)) (fun _ q => m_X0_isSherd q) (gdV tb_1064 tb_1065 tb_1683 tb_11 tb_1066) rfl (by decide +kernel) rfl (by decide) rfl (by decide) (by decide) rfl (Nat.le_of_ble_eq_true rfl) dX0_tells_121 (fun v1 hf => ?_)
  refine g_ifeq (tgt := 130) X hf dX0_tells_124 (by decide) (fun hf => ?_) (fun hf => ?_)
  · exact w_X0_tells_130 X x0 x3 h hf
  · refine g_iinc (v := (x3 + 1)) (lv' := [(0, tR x0), (3, tI (x3 + 1))]) X dX0_tells_127 1 rfl (by rfl) (by decide) (in_pick [1, 0] rfl) ?_
    exact w_X0_tells_130 X x0 (x3 + 1) h hf
def b_X0_tells_97   (x0 : Option Nat) (x1 : Int32) (x2 : Int32) (s0 : Int32) (h : AH) : Option (Int32 × AH) :=
  (gI 0 2 h x0).bind fun v1 =>
  (gI 0 1 h x0).bind fun v2 =>
  (dvI s0 (v1 - v2)).bind fun v3 =>
  if x2 = 0 then
    b_X0_tells_120 x0 v3 h
  else
    (ck 0 h x0 (f_X0_names x0 x1 h)).bind fun p4 =>
    b_X0_tells_120 x0 (v3 - p4.1) p4.2
set_option maxRecDepth 20000 in
theorem w_X0_tells_97 {K : KT} {w : (Int32 × AH)}   (X : CX K cX0_tells RX0 TB (some .int) "tells" (rmD 3 0 0) 4 0 0)  (x0 : Option Nat) (x1 : Int32) (x2 : Int32) (s0 : Int32) (h : AH) (hf : b_X0_tells_97 x0 x1 x2 s0 h = some w) : GG K (some (tI w.1), w.2) 0 0 97 [(0, tR x0), (1, tI x1), (2, tI x2)] [tI s0] h := by
  unfold b_X0_tells_97 at hf
  refine g_aload_n X dX0_tells_97 0 rfl ?_
  refine g_getI X hf (T := TX0) rfl (by decide) (by decide) in_RX0 tb_336 rfl dX0_tells_98 (fun v1 hf => ?_)
  refine g_aload_n X dX0_tells_101 0 rfl ?_
  refine g_getI X hf (T := TX0) rfl (by decide) (by decide) in_RX0 tb_334 rfl dX0_tells_102 (fun v2 hf => ?_)
  refine g_isub X dX0_tells_105 ?_
  refine g_idiv X hf dX0_tells_106 (fun v3 hf => ?_)
  refine g_istore_n (lv' := [(0, tR x0), (1, tI x1), (2, tI x2), (3, tI v3)]) X dX0_tells_107 (by decide) (in_pick [1, 2, 3, 0] rfl) ?_
  refine g_iload_n X dX0_tells_108 2 rfl ?_
  refine g_ifeq (tgt := 120) X hf dX0_tells_109 (by decide) (fun hf => ?_) (fun hf => ?_)
  · refine g_locs (lv' := [(0, tR x0), (3, tI v3)]) (in_pick [0, 3] rfl) ?_
    exact w_X0_tells_120 X x0 v3 h hf
  · refine g_iload_n X dX0_tells_112 3 rfl ?_
    refine g_aload_n X dX0_tells_113 0 rfl ?_
    refine g_iload_n X dX0_tells_114 1 rfl ?_
    refine g_callV (n := 1) (av := [tI x1]) (rest := [tI v3]) (k := 0) X hf (fun p4 => (some (tI p4.1), p4.2)) (fun _ q => m_X0_names q) (gdV tb_1055 tb_1056 tb_1680 tb_11 tb_1057) rfl (by decide +kernel) rfl (by decide) rfl (by decide) (by decide) rfl (Nat.le_of_ble_eq_true rfl) dX0_tells_115 (fun p4 hf => ?_)
    refine g_isub X dX0_tells_118 ?_
    refine g_istore_n (lv' := [(0, tR x0), (1, tI x1), (2, tI x2), (3, tI (v3 - p4.1))]) X dX0_tells_119 (by decide) (in_pick [1, 2, 3, 0] rfl) ?_
    refine g_locs (lv' := [(0, tR x0), (3, tI (v3 - p4.1))]) (in_pick [0, 3] rfl) ?_
    exact w_X0_tells_120 X x0 (v3 - p4.1) p4.2 hf
def b_X0_tells_61   (x0 : Option Nat) (x1 : Int32) (x2 : Int32) (h : AH) : Option (Int32 × AH) :=
  (ck 0 h x0 (f_X0_runs x0 13 h)).bind fun h1 =>
  (gI 0 2 h1 x0).bind fun v2 =>
  (gI 0 1 h1 x0).bind fun v3 =>
  if v2 = v3 then
    (pZ 0 5 h1 x0 1).bind fun h4 =>
    some (0, h4)
  else
    if x2 = 0 then
      b_X0_tells_97 x0 x1 x2 x1 h1
    else
      b_X0_tells_97 x0 x1 x2 (x1 + 7) h1
set_option maxRecDepth 20000 in
theorem w_X0_tells_61 {K : KT} {w : (Int32 × AH)}   (X : CX K cX0_tells RX0 TB (some .int) "tells" (rmD 3 0 0) 4 0 0)  (x0 : Option Nat) (x1 : Int32) (x2 : Int32) (h : AH) (hf : b_X0_tells_61 x0 x1 x2 h = some w) : GG K (some (tI w.1), w.2) 0 0 61 [(0, tR x0), (1, tI x1), (2, tI x2)] [] h := by
  unfold b_X0_tells_61 at hf
  refine g_aload_n X dX0_tells_61 0 rfl ?_
  refine g_bipush (v := 13) X dX0_tells_62 (by decide) ?_
  refine g_callV (n := 1) (av := [tI 13]) (rest := []) (k := 0) X hf (fun h1 => (none, h1)) (fun _ q => m_X0_runs q) (gdV tb_1058 tb_1059 tb_1681 tb_11 tb_1060) rfl (by decide +kernel) rfl (by decide) rfl (by decide) (by decide) rfl (Nat.le_of_ble_eq_true rfl) dX0_tells_64 (fun h1 hf => ?_)
  refine g_aload_n X dX0_tells_67 0 rfl ?_
  refine g_getI X hf (T := TX0) rfl (by decide) (by decide) in_RX0 tb_336 rfl dX0_tells_68 (fun v2 hf => ?_)
  refine g_aload_n X dX0_tells_71 0 rfl ?_
  refine g_getI X hf (T := TX0) rfl (by decide) (by decide) in_RX0 tb_334 rfl dX0_tells_72 (fun v3 hf => ?_)
  refine g_icmpne (tgt := 85) X hf dX0_tells_75 (by decide) (fun hf => ?_) (fun hf => ?_)
  · refine g_aload_n X dX0_tells_78 0 rfl ?_
    refine g_iconst (v := 1) X dX0_tells_79 (by decide) ?_
    refine g_putZ X hf (T := TX0) rfl (by decide) (by decide) in_RX0 tyX0 tyX0_ok nmX0 tb_342 rfl rfl rfl dX0_tells_80 (fun h4 hf => ?_)
    refine g_iconst (v := 0) X dX0_tells_83 (by decide) ?_
    exact g_ireturn X (zW hf) (by decide) (by decide) dX0_tells_84
  · refine g_iload_n X dX0_tells_85 2 rfl ?_
    refine g_ifeq (tgt := 96) X hf dX0_tells_86 (by decide) (fun hf => ?_) (fun hf => ?_)
    · refine g_iload_n X dX0_tells_96 1 rfl ?_
      exact w_X0_tells_97 X x0 x1 x2 x1 h1 hf
    · refine g_iload_n X dX0_tells_89 1 rfl ?_
      refine g_bipush (v := 7) X dX0_tells_90 (by decide) ?_
      refine g_iadd X dX0_tells_92 ?_
      refine g_goto (tgt := 97) X dX0_tells_93 (by decide) ?_
      exact w_X0_tells_97 X x0 x1 x2 (x1 + 7) h1 hf
def b_X0_tells_48   (x0 : Option Nat) (x1 : Int32) (x2 : Int32) (h : AH) : Option (Int32 × AH) :=
  (ck 0 h x0 (f_X0_isSherd x0 h)).bind fun v1 =>
  if v1 = 0 then
    b_X0_tells_61 x0 x1 x2 h
  else
    (ck 0 h x0 (f_X0_runs x0 21 h)).bind fun h2 =>
    b_X0_tells_61 x0 x1 x2 h2
set_option maxRecDepth 20000 in
theorem w_X0_tells_48 {K : KT} {w : (Int32 × AH)}   (X : CX K cX0_tells RX0 TB (some .int) "tells" (rmD 3 0 0) 4 0 0)  (x0 : Option Nat) (x1 : Int32) (x2 : Int32) (h : AH) (hf : b_X0_tells_48 x0 x1 x2 h = some w) : GG K (some (tI w.1), w.2) 0 0 48 [(0, tR x0), (1, tI x1), (2, tI x2)] [] h := by
  unfold b_X0_tells_48 at hf
  refine g_aload_n X dX0_tells_48 0 rfl ?_
  refine g_callV (n := 0) (av := []) (rest := []) (k := 0) X hf (fun v1 => (some (tI v1), h)) (fun _ q => m_X0_isSherd q) (gdV tb_1064 tb_1065 tb_1683 tb_11 tb_1066) rfl (by decide +kernel) rfl (by decide) rfl (by decide) (by decide) rfl (Nat.le_of_ble_eq_true rfl) dX0_tells_49 (fun v1 hf => ?_)
  refine g_ifeq (tgt := 61) X hf dX0_tells_52 (by decide) (fun hf => ?_) (fun hf => ?_)
  · exact w_X0_tells_61 X x0 x1 x2 h hf
  · refine g_aload_n X dX0_tells_55 0 rfl ?_
    refine g_bipush (v := 21) X dX0_tells_56 (by decide) ?_
    refine g_callV (n := 1) (av := [tI 21]) (rest := []) (k := 0) X hf (fun h2 => (none, h2)) (fun _ q => m_X0_runs q) (gdV tb_1058 tb_1059 tb_1681 tb_11 tb_1060) rfl (by decide +kernel) rfl (by decide) rfl (by decide) (by decide) rfl (Nat.le_of_ble_eq_true rfl) dX0_tells_58 (fun h2 hf => ?_)
    exact w_X0_tells_61 X x0 x1 x2 h2 hf
def b_X0_tells_38   (x0 : Option Nat) (x1 : Int32) (x2 : Int32) (h : AH) : Option (Int32 × AH) :=
  if x2 = 0 then
    b_X0_tells_48 x0 x1 x2 h
  else
    (ck 0 h x0 (f_X0_runs x0 60 h)).bind fun h1 =>
    b_X0_tells_48 x0 x1 x2 h1
set_option maxRecDepth 20000 in
theorem w_X0_tells_38 {K : KT} {w : (Int32 × AH)}   (X : CX K cX0_tells RX0 TB (some .int) "tells" (rmD 3 0 0) 4 0 0)  (x0 : Option Nat) (x1 : Int32) (x2 : Int32) (h : AH) (hf : b_X0_tells_38 x0 x1 x2 h = some w) : GG K (some (tI w.1), w.2) 0 0 38 [(0, tR x0), (1, tI x1), (2, tI x2)] [] h := by
  unfold b_X0_tells_38 at hf
  refine g_iload_n X dX0_tells_38 2 rfl ?_
  refine g_ifeq (tgt := 48) X hf dX0_tells_39 (by decide) (fun hf => ?_) (fun hf => ?_)
  · exact w_X0_tells_48 X x0 x1 x2 h hf
  · refine g_aload_n X dX0_tells_42 0 rfl ?_
    refine g_bipush (v := 60) X dX0_tells_43 (by decide) ?_
    refine g_callV (n := 1) (av := [tI 60]) (rest := []) (k := 0) X hf (fun h1 => (none, h1)) (fun _ q => m_X0_runs q) (gdV tb_1058 tb_1059 tb_1681 tb_11 tb_1060) rfl (by decide +kernel) rfl (by decide) rfl (by decide) (by decide) rfl (Nat.le_of_ble_eq_true rfl) dX0_tells_45 (fun h1 hf => ?_)
    exact w_X0_tells_48 X x0 x1 x2 h1 hf
def b_X0_tells_22   (x0 : Option Nat) (x1 : Int32) (s0 : Int32) (h : AH) : Option (Int32 × AH) :=
  (gI 0 0 h x0).bind fun v1 =>
  if v1 = 6 then
    (ck 0 h x0 (f_X0_runs x0 71 h)).bind fun h2 =>
    b_X0_tells_38 x0 x1 s0 h2
  else
    b_X0_tells_38 x0 x1 s0 h
set_option maxRecDepth 20000 in
theorem w_X0_tells_22 {K : KT} {w : (Int32 × AH)}   (X : CX K cX0_tells RX0 TB (some .int) "tells" (rmD 3 0 0) 4 0 0)  (x0 : Option Nat) (x1 : Int32) (s0 : Int32) (h : AH) (hf : b_X0_tells_22 x0 x1 s0 h = some w) : GG K (some (tI w.1), w.2) 0 0 22 [(0, tR x0), (1, tI x1)] [tI s0] h := by
  unfold b_X0_tells_22 at hf
  refine g_istore_n (lv' := [(0, tR x0), (1, tI x1), (2, tI s0)]) X dX0_tells_22 (by decide) (in_pick [1, 2, 0] rfl) ?_
  refine g_aload_n X dX0_tells_23 0 rfl ?_
  refine g_getI X hf (T := TX0) rfl (by decide) (by decide) in_RX0 tb_332 rfl dX0_tells_24 (fun v1 hf => ?_)
  refine g_bipush (v := 6) X dX0_tells_27 (by decide) ?_
  refine g_icmpne (tgt := 38) X hf dX0_tells_29 (by decide) (fun hf => ?_) (fun hf => ?_)
  · refine g_aload_n X dX0_tells_32 0 rfl ?_
    refine g_bipush (v := 71) X dX0_tells_33 (by decide) ?_
    refine g_callV (n := 1) (av := [tI 71]) (rest := []) (k := 0) X hf (fun h2 => (none, h2)) (fun _ q => m_X0_runs q) (gdV tb_1058 tb_1059 tb_1681 tb_11 tb_1060) rfl (by decide +kernel) rfl (by decide) rfl (by decide) (by decide) rfl (Nat.le_of_ble_eq_true rfl) dX0_tells_35 (fun h2 hf => ?_)
    exact w_X0_tells_38 X x0 x1 s0 h2 hf
  · exact w_X0_tells_38 X x0 x1 s0 h hf
def f_X0_tells  (a0 : Option Nat) (a1 : Int32) (h : AH) : Option (Int32 × AH) :=
  (gI 0 0 h a0).bind fun v1 =>
  if v1 = 5 then
    b_X0_tells_22 a0 a1 1 h
  else
    (gI 0 0 h a0).bind fun v2 =>
    if v2 = 6 then
      b_X0_tells_22 a0 a1 1 h
    else
      b_X0_tells_22 a0 a1 0 h
set_option maxRecDepth 20000 in
theorem m_X0_tells  {a0 : Option Nat} {a1 : Int32} {h : AH} {w : (Int32 × AH)} (hf : f_X0_tells a0 a1 h = some w) : CT yX0_tells (wU yX0_tells cX0_tells 4 (some .int)) (rmD 3 0 0) 0 0 [tR a0, tI a1] h (some (tI w.1), w.2) := by
  refine CT.of (cc := cX0_tells) (nL := 4) (ret := (some .int)) (by decide) (by simp [lg_sl, vOf_cat, wOf]) ?_
  intro K X
  refine g_locs (lv' := [(0, tR a0), (1, tI a1)]) (fun q hq => hq) ?_
  unfold f_X0_tells at hf
  refine g_aload_n X dX0_tells_0 0 rfl ?_
  refine g_getI X hf (T := TX0) rfl (by decide) (by decide) in_RX0 tb_332 rfl dX0_tells_1 (fun v1 hf => ?_)
  refine g_iconst (v := 5) X dX0_tells_4 (by decide) ?_
  refine g_icmpeq (tgt := 17) X hf dX0_tells_5 (by decide) (fun hf => ?_) (fun hf => ?_)
  · refine g_iconst (v := 1) X dX0_tells_17 (by decide) ?_
    refine g_goto (tgt := 22) X dX0_tells_18 (by decide) ?_
    exact w_X0_tells_22 X a0 a1 1 h hf
  · refine g_aload_n X dX0_tells_8 0 rfl ?_
    refine g_getI X hf (T := TX0) rfl (by decide) (by decide) in_RX0 tb_332 rfl dX0_tells_9 (fun v2 hf => ?_)
    refine g_bipush (v := 6) X dX0_tells_12 (by decide) ?_
    refine g_icmpne (tgt := 21) X hf dX0_tells_14 (by decide) (fun hf => ?_) (fun hf => ?_)
    · refine g_iconst (v := 1) X dX0_tells_17 (by decide) ?_
      refine g_goto (tgt := 22) X dX0_tells_18 (by decide) ?_
      exact w_X0_tells_22 X a0 a1 1 h hf
    · refine g_iconst (v := 0) X dX0_tells_21 (by decide) ?_
      exact w_X0_tells_22 X a0 a1 0 h hf
def b_X0_perform_61   (x0 : Option Nat) (x3 : Int32) (h : AH) : Option (Int32 × AH) :=
  (gI 0 5 h x0).bind fun v1 =>
  if v1 = 0 then
    some (x3, h)
  else
    some ((-15), h)
set_option maxRecDepth 20000 in
theorem w_X0_perform_61 {K : KT} {w : (Int32 × AH)}   (X : CX K cX0_perform RX0 TB (some .int) "perform" (rmD 5 0 0) 4 0 0)  (x0 : Option Nat) (x3 : Int32) (h : AH) (hf : b_X0_perform_61 x0 x3 h = some w) : GG K (some (tI w.1), w.2) 0 0 61 [(0, tR x0), (3, tI x3)] [] h := by
  unfold b_X0_perform_61 at hf
  refine g_aload_n X dX0_perform_61 0 rfl ?_
  refine g_getI X hf (T := TX0) rfl (by decide) (by decide) in_RX0 tb_342 rfl dX0_perform_62 (fun v1 hf => ?_)
  refine g_ifeq (tgt := 73) X hf dX0_perform_65 (by decide) (fun hf => ?_) (fun hf => ?_)
  · refine g_iload_n X dX0_perform_73 1 rfl ?_
    exact g_ireturn X (zW hf) (by decide) (by decide) dX0_perform_74
  · refine g_bipush (v := (-15)) X dX0_perform_68 (by decide) ?_
    refine g_goto (tgt := 74) X dX0_perform_70 (by decide) ?_
    exact g_ireturn X (zW hf) (by decide) (by decide) dX0_perform_74
def f_X0_perform  (a0 : Option Nat) (a1 : Int32) (a2 : Int32) (h : AH) : Option (Int32 × AH) :=
  if a1 < 0 ∨ 2 < a1 then
    (ck 0 h a0 (f_X0_tells a0 a2 h)).bind fun p1 =>
    b_X0_perform_61 a0 p1.1 p1.2
  else if a1 = 0 then
    (ck 0 h a0 (f_X0_names a0 a2 h)).bind fun p2 =>
    b_X0_perform_61 a0 p2.1 p2.2
  else if a1 = 1 then
    (ck 0 h a0 (f_X0_counts a0 a2 h)).bind fun p3 =>
    b_X0_perform_61 a0 p3.1 p3.2
  else if a1 = 2 then
    (ck 0 h a0 (f_X0_binds a0 a2 h)).bind fun p4 =>
    b_X0_perform_61 a0 p4.1 p4.2
  else none
set_option maxRecDepth 20000 in
theorem m_X0_perform  {a0 : Option Nat} {a1 : Int32} {a2 : Int32} {h : AH} {w : (Int32 × AH)} (hf : f_X0_perform a0 a1 a2 h = some w) : CT yX0_perform (wU yX0_perform cX0_perform 4 (some .int)) (rmD 5 0 0) 0 0 [tR a0, tI a1, tI a2] h (some (tI w.1), w.2) := by
  refine CT.of (cc := cX0_perform) (nL := 4) (ret := (some .int)) (by decide) (by simp [lg_sl, vOf_cat, wOf]) ?_
  intro K X
  refine g_locs (lv' := [(0, tR a0), (1, tI a1), (2, tI a2)]) (fun q hq => hq) ?_
  unfold f_X0_perform at hf
  refine g_iload_n X dX0_perform_0 1 rfl ?_
  by_cases hsw : a1 < 0 ∨ 2 < a1
  · rw [if_pos hsw] at hf
    refine g_tabOut (tgt := 55) X dX0_perform_1 (tab_out hsw) (by decide) ?_
    refine g_aload_n X dX0_perform_55 0 rfl ?_
    refine g_iload_n X dX0_perform_56 2 rfl ?_
    refine g_callV (n := 1) (av := [tI a2]) (rest := []) (k := 0) X hf (fun p1 => (some (tI p1.1), p1.2)) (fun _ q => m_X0_tells q) (gdV tb_1070 tb_1071 tb_1685 tb_11 tb_1072) rfl (by decide +kernel) rfl (by decide) rfl (by decide) (by decide) rfl (Nat.le_of_ble_eq_true rfl) dX0_perform_57 (fun p1 hf => ?_)
    refine g_istore_n (lv' := [(0, tR a0), (1, tI a1), (2, tI a2), (3, tI p1.1)]) X dX0_perform_60 (by decide) (in_pick [1, 2, 3, 0] rfl) ?_
    refine g_locs (lv' := [(0, tR a0), (3, tI p1.1)]) (in_pick [0, 3] rfl) ?_
    exact w_X0_perform_61 X a0 p1.1 p1.2 hf
  rw [if_neg hsw] at hf
  by_cases hs0 : a1 = 0
  · rw [if_pos hs0] at hf
    refine g_tabIn (off := 27) (tgt := 28) X 0 hs0 dX0_perform_1 (by decide) (by decide) (by decide +kernel) (by decide) ?_
    refine g_aload_n X dX0_perform_28 0 rfl ?_
    refine g_iload_n X dX0_perform_29 2 rfl ?_
    refine g_callV (n := 1) (av := [tI a2]) (rest := []) (k := 0) X hf (fun p2 => (some (tI p2.1), p2.2)) (fun _ q => m_X0_names q) (gdV tb_1055 tb_1056 tb_1680 tb_11 tb_1057) rfl (by decide +kernel) rfl (by decide) rfl (by decide) (by decide) rfl (Nat.le_of_ble_eq_true rfl) dX0_perform_30 (fun p2 hf => ?_)
    refine g_istore_n (lv' := [(0, tR a0), (1, tI a1), (2, tI a2), (3, tI p2.1)]) X dX0_perform_33 (by decide) (in_pick [1, 2, 3, 0] rfl) ?_
    refine g_goto (tgt := 61) X dX0_perform_34 (by decide) ?_
    refine g_locs (lv' := [(0, tR a0), (3, tI p2.1)]) (in_pick [0, 3] rfl) ?_
    exact w_X0_perform_61 X a0 p2.1 p2.2 hf
  rw [if_neg hs0] at hf
  by_cases hs1 : a1 = 1
  · rw [if_pos hs1] at hf
    refine g_tabIn (off := 36) (tgt := 37) X 1 hs1 dX0_perform_1 (by decide) (by decide) (by decide +kernel) (by decide) ?_
    refine g_aload_n X dX0_perform_37 0 rfl ?_
    refine g_iload_n X dX0_perform_38 2 rfl ?_
    refine g_callV (n := 1) (av := [tI a2]) (rest := []) (k := 0) X hf (fun p3 => (some (tI p3.1), p3.2)) (fun _ q => m_X0_counts q) (gdV tb_1061 tb_1062 tb_1682 tb_11 tb_1063) rfl (by decide +kernel) rfl (by decide) rfl (by decide) (by decide) rfl (Nat.le_of_ble_eq_true rfl) dX0_perform_39 (fun p3 hf => ?_)
    refine g_istore_n (lv' := [(0, tR a0), (1, tI a1), (2, tI a2), (3, tI p3.1)]) X dX0_perform_42 (by decide) (in_pick [1, 2, 3, 0] rfl) ?_
    refine g_goto (tgt := 61) X dX0_perform_43 (by decide) ?_
    refine g_locs (lv' := [(0, tR a0), (3, tI p3.1)]) (in_pick [0, 3] rfl) ?_
    exact w_X0_perform_61 X a0 p3.1 p3.2 hf
  rw [if_neg hs1] at hf
  by_cases hs2 : a1 = 2
  · rw [if_pos hs2] at hf
    refine g_tabIn (off := 45) (tgt := 46) X 2 hs2 dX0_perform_1 (by decide) (by decide) (by decide +kernel) (by decide) ?_
    refine g_aload_n X dX0_perform_46 0 rfl ?_
    refine g_iload_n X dX0_perform_47 2 rfl ?_
    refine g_callV (n := 1) (av := [tI a2]) (rest := []) (k := 0) X hf (fun p4 => (some (tI p4.1), p4.2)) (fun _ q => m_X0_binds q) (gdV tb_1067 tb_1068 tb_1684 tb_11 tb_1069) rfl (by decide +kernel) rfl (by decide) rfl (by decide) (by decide) rfl (Nat.le_of_ble_eq_true rfl) dX0_perform_48 (fun p4 hf => ?_)
    refine g_istore_n (lv' := [(0, tR a0), (1, tI a1), (2, tI a2), (3, tI p4.1)]) X dX0_perform_51 (by decide) (in_pick [1, 2, 3, 0] rfl) ?_
    refine g_goto (tgt := 61) X dX0_perform_52 (by decide) ?_
    refine g_locs (lv' := [(0, tR a0), (3, tI p4.1)]) (in_pick [0, 3] rfl) ?_
    exact w_X0_perform_61 X a0 p4.1 p4.2 hf
  rw [if_neg hs2] at hf
  cases hf
def f_X1_init  (a0 : Nat) (h : AH) : Option AH :=
  some h
set_option maxRecDepth 20000 in
theorem m_X1_init  {a0 : Nat} {h : AH} {w : AH} (hf : f_X1_init a0 h = some w) : CT yX1_init (wU yX1_init cX1_init 1 none) (rmD 1 0 0) 0 0 [tR (some a0)] h (none, w) := by
  refine CT.of (cc := cX1_init) (nL := 1) (ret := none) (by decide) (by simp [lg_sl, vOf_cat, wOf]) ?_
  intro K X
  refine g_locs (lv' := [(0, tR (some a0))]) (fun q hq => hq) ?_
  unfold f_X1_init at hf
  refine g_aload_n X dX1_init_0 0 rfl ?_
  refine g_objInit X tb_123 tb_27 tb_28 ⟨Nat.le_of_ble_eq_true rfl, Nat.le_of_ble_eq_true rfl⟩ dX1_init_1 ?_
  exact g_vreturn X (zV hf) (by decide) (by decide) dX1_init_4
def f_X1_begin  (a0 : Option Nat) (a1 : Int32) (a2 : Int32) (a3 : Int32) (a4 : Int32) (h : AH) : Option AH :=
  (pI 1 0 h a0 a1).bind fun h1 =>
  (pI 1 1 h1 a0 a2).bind fun h2 =>
  (pI 1 2 h2 a0 a3).bind fun h3 =>
  (pI 1 3 h3 a0 a4).bind fun h4 =>
  some h4
set_option maxRecDepth 20000 in
theorem m_X1_begin  {a0 : Option Nat} {a1 : Int32} {a2 : Int32} {a3 : Int32} {a4 : Int32} {h : AH} {w : AH} (hf : f_X1_begin a0 a1 a2 a3 a4 h = some w) : CT yX1_begin (wU yX1_begin cX1_begin 5 none) (rmD 1 0 0) 0 0 [tR a0, tI a1, tI a2, tI a3, tI a4] h (none, w) := by
  refine CT.of (cc := cX1_begin) (nL := 5) (ret := none) (by decide) (by simp [lg_sl, vOf_cat, wOf]) ?_
  intro K X
  refine g_locs (lv' := [(0, tR a0), (1, tI a1), (2, tI a2), (3, tI a3), (4, tI a4)]) (fun q hq => hq) ?_
  unfold f_X1_begin at hf
  refine g_aload_n X dX1_begin_0 0 rfl ?_
  refine g_iload_n X dX1_begin_1 1 rfl ?_
  refine g_putI X hf (T := TX1) rfl (by decide) (by decide) in_RX1 tyX1 tyX1_ok nmX1 tb_124 rfl rfl rfl dX1_begin_2 (fun h1 hf => ?_)
  refine g_aload_n X dX1_begin_5 0 rfl ?_
  refine g_iload_n X dX1_begin_6 2 rfl ?_
  refine g_putI X hf (T := TX1) rfl (by decide) (by decide) in_RX1 tyX1 tyX1_ok nmX1 tb_127 rfl rfl rfl dX1_begin_7 (fun h2 hf => ?_)
  refine g_aload_n X dX1_begin_10 0 rfl ?_
  refine g_iload_n X dX1_begin_11 3 rfl ?_
  refine g_putI X hf (T := TX1) rfl (by decide) (by decide) in_RX1 tyX1 tyX1_ok nmX1 tb_129 rfl rfl rfl dX1_begin_12 (fun h3 hf => ?_)
  refine g_aload_n X dX1_begin_15 0 rfl ?_
  refine g_iload X dX1_begin_16 4 rfl ?_
  refine g_putI X hf (T := TX1) rfl (by decide) (by decide) in_RX1 tyX1 tyX1_ok nmX1 tb_131 rfl rfl rfl dX1_begin_18 (fun h4 hf => ?_)
  exact g_vreturn X (zV hf) (by decide) (by decide) dX1_begin_21
def f_X9_init  (a0 : Nat) (h : AH) : Option AH :=
  some h
set_option maxRecDepth 20000 in
theorem m_X9_init  {a0 : Nat} {h : AH} {w : AH} (hf : f_X9_init a0 h = some w) : CT yX9_init (wU yX9_init cX9_init 1 none) (rmD 1 0 0) 0 0 [tR (some a0)] h (none, w) := by
  refine CT.of (cc := cX9_init) (nL := 1) (ret := none) (by decide) (by simp [lg_sl, vOf_cat, wOf]) ?_
  intro K X
  refine g_locs (lv' := [(0, tR (some a0))]) (fun q hq => hq) ?_
  unfold f_X9_init at hf
  refine g_aload_n X dX9_init_0 0 rfl ?_
  refine g_objInit X tb_51 tb_27 tb_28 ⟨Nat.le_of_ble_eq_true rfl, Nat.le_of_ble_eq_true rfl⟩ dX9_init_1 ?_
  exact g_vreturn X (zV hf) (by decide) (by decide) dX9_init_4
def f_X5_init  (a0 : Nat) (h : AH) : Option AH :=
  (nA 100 16 (.int 0) 16 h).bind fun h1 =>
  (pR 5 9 h1 (some a0) (some h.1)).bind fun h2 =>
  some h2
set_option maxRecDepth 20000 in
theorem m_X5_init  {a0 : Nat} {h : AH} {w : AH} (hf : f_X5_init a0 h = some w) : CT yX5_init (wU yX5_init cX5_init 1 none) (rmD 1 1 16) 1 16 [tR (some a0)] h (none, w) := by
  refine CT.of (cc := cX5_init) (nL := 1) (ret := none) (by decide) (by simp [lg_sl, vOf_cat, wOf]) ?_
  intro K X
  refine g_locs (lv' := [(0, tR (some a0))]) (fun q hq => hq) ?_
  unfold f_X5_init at hf
  refine g_aload_n X dX5_init_0 0 rfl ?_
  refine g_objInit X tb_68 tb_27 tb_28 ⟨Nat.le_of_ble_eq_true rfl, Nat.le_of_ble_eq_true rfl⟩ dX5_init_1 ?_
  refine g_aload_n X dX5_init_4 0 rfl ?_
  refine g_bipush (v := 16) X dX5_init_5 (by decide) ?_
  refine g_newa (atype := .int) X hf (by decide) rfl rfl (fun _ _ q => q) tb_64 (Nat.le_of_ble_eq_true rfl) (by decide) dX5_init_7 (fun h1 hf => ?_)
  refine g_putFR X hf (T := TX5) rfl (by decide) (by decide) in_RX5 tyX5 tyX5_ok nmX5 tb_93 rfl rfl rfl rfl rfl dX5_init_9 (fun h2 hf => ?_)
  exact g_vreturn X (zV hf) (by decide) (by decide) dX5_init_12
def f_X10_init  (a0 : Nat) (h : AH) : Option AH :=
  (nA 100 16 (.int 0) 16 h).bind fun h1 =>
  (pR 10 2 h1 (some a0) (some h.1)).bind fun h2 =>
  some h2
set_option maxRecDepth 20000 in
theorem m_X10_init  {a0 : Nat} {h : AH} {w : AH} (hf : f_X10_init a0 h = some w) : CT yX10_init (wU yX10_init cX10_init 1 none) (rmD 1 1 16) 1 16 [tR (some a0)] h (none, w) := by
  refine CT.of (cc := cX10_init) (nL := 1) (ret := none) (by decide) (by simp [lg_sl, vOf_cat, wOf]) ?_
  intro K X
  refine g_locs (lv' := [(0, tR (some a0))]) (fun q hq => hq) ?_
  unfold f_X10_init at hf
  refine g_aload_n X dX10_init_0 0 rfl ?_
  refine g_objInit X tb_109 tb_27 tb_28 ⟨Nat.le_of_ble_eq_true rfl, Nat.le_of_ble_eq_true rfl⟩ dX10_init_1 ?_
  refine g_aload_n X dX10_init_4 0 rfl ?_
  refine g_bipush (v := 16) X dX10_init_5 (by decide) ?_
  refine g_newa (atype := .int) X hf (by decide) rfl rfl (fun _ _ q => q) tb_64 (Nat.le_of_ble_eq_true rfl) (by decide) dX10_init_7 (fun h1 hf => ?_)
  refine g_putFR X hf (T := TX10) rfl (by decide) (by decide) in_RX10 tyX10 tyX10_ok nmX10 tb_114 rfl rfl rfl rfl rfl dX10_init_9 (fun h2 hf => ?_)
  exact g_vreturn X (zV hf) (by decide) (by decide) dX10_init_12
def f_X8_init  (a0 : Nat) (h : AH) : Option AH :=
  some h
set_option maxRecDepth 20000 in
theorem m_X8_init  {a0 : Nat} {h : AH} {w : AH} (hf : f_X8_init a0 h = some w) : CT yX8_init (wU yX8_init cX8_init 1 none) (rmD 1 0 0) 0 0 [tR (some a0)] h (none, w) := by
  refine CT.of (cc := cX8_init) (nL := 1) (ret := none) (by decide) (by simp [lg_sl, vOf_cat, wOf]) ?_
  intro K X
  refine g_locs (lv' := [(0, tR (some a0))]) (fun q hq => hq) ?_
  unfold f_X8_init at hf
  refine g_aload_n X dX8_init_0 0 rfl ?_
  refine g_objInit X tb_140 tb_27 tb_28 ⟨Nat.le_of_ble_eq_true rfl, Nat.le_of_ble_eq_true rfl⟩ dX8_init_1 ?_
  exact g_vreturn X (zV hf) (by decide) (by decide) dX8_init_4
def f_X3_init  (a0 : Nat) (h : AH) : Option AH :=
  (pI 3 1 h (some a0) 10).bind fun h1 =>
  (nA 100 320 (.int 0) 320 h1).bind fun h2 =>
  (pR 3 2 h2 (some a0) (some h1.1)).bind fun h3 =>
  (nA 100 4 (.int 0) 4 h3).bind fun h4 =>
  (sI h4 (some h3.1) 0 (-1)).bind fun h5 =>
  (sI h5 (some h3.1) 1 (-1)).bind fun h6 =>
  (sI h6 (some h3.1) 2 (-1)).bind fun h7 =>
  (sI h7 (some h3.1) 3 (-1)).bind fun h8 =>
  (pR 3 4 h8 (some a0) (some h3.1)).bind fun h9 =>
  (nA 100 4 (.int 0) 4 h9).bind fun h10 =>
  (pR 3 5 h10 (some a0) (some h9.1)).bind fun h11 =>
  (nA 100 7 (.int 0) 7 h11).bind fun h12 =>
  (pR 3 6 h12 (some a0) (some h11.1)).bind fun h13 =>
  (nA 100 40 (.int 0) 40 h13).bind fun h14 =>
  (pR 3 7 h14 (some a0) (some h13.1)).bind fun h15 =>
  some h15
set_option maxRecDepth 20000 in
theorem m_X3_init  {a0 : Nat} {h : AH} {w : AH} (hf : f_X3_init a0 h = some w) : CT yX3_init (wU yX3_init cX3_init 1 none) (rmD 1 5 375) 5 375 [tR (some a0)] h (none, w) := by
  refine CT.of (cc := cX3_init) (nL := 1) (ret := none) (by decide) (by simp [lg_sl, vOf_cat, wOf]) ?_
  intro K X
  refine g_locs (lv' := [(0, tR (some a0))]) (fun q hq => hq) ?_
  unfold f_X3_init at hf
  refine g_aload_n X dX3_init_0 0 rfl ?_
  refine g_objInit X tb_188 tb_27 tb_28 ⟨Nat.le_of_ble_eq_true rfl, Nat.le_of_ble_eq_true rfl⟩ dX3_init_1 ?_
  refine g_aload_n X dX3_init_4 0 rfl ?_
  refine g_bipush (v := 10) X dX3_init_5 (by decide) ?_
  refine g_putI X hf (T := TX3) rfl (by decide) (by decide) in_RX3 tyX3 tyX3_ok nmX3 tb_191 rfl rfl rfl dX3_init_7 (fun h1 hf => ?_)
  refine g_aload_n X dX3_init_10 0 rfl ?_
  refine g_sipush (v := 320) X dX3_init_11 (by decide) ?_
  refine g_newa (atype := .int) X hf (by decide) rfl rfl (fun _ _ q => q) tb_64 (Nat.le_of_ble_eq_true rfl) (by decide) dX3_init_14 (fun h2 hf => ?_)
  refine g_putFR X hf (T := TX3) rfl (by decide) (by decide) in_RX3 tyX3 tyX3_ok nmX3 tb_194 rfl rfl rfl rfl rfl dX3_init_16 (fun h3 hf => ?_)
  refine g_aload_n X dX3_init_19 0 rfl ?_
  refine g_iconst (v := 4) X dX3_init_20 (by decide) ?_
  refine g_newa (atype := .int) X hf (by decide) rfl rfl (fun _ _ q => q) tb_64 (Nat.le_of_ble_eq_true rfl) (by decide) dX3_init_21 (fun h4 hf => ?_)
  refine g_dup X dX3_init_23 rfl ?_
  refine g_iconst (v := 0) X dX3_init_24 (by decide) ?_
  refine g_iconst (v := (-1)) X dX3_init_25 (by decide) ?_
  refine g_iastore X hf dX3_init_26 (fun h5 hf => ?_)
  refine g_dup X dX3_init_27 rfl ?_
  refine g_iconst (v := 1) X dX3_init_28 (by decide) ?_
  refine g_iconst (v := (-1)) X dX3_init_29 (by decide) ?_
  refine g_iastore X hf dX3_init_30 (fun h6 hf => ?_)
  refine g_dup X dX3_init_31 rfl ?_
  refine g_iconst (v := 2) X dX3_init_32 (by decide) ?_
  refine g_iconst (v := (-1)) X dX3_init_33 (by decide) ?_
  refine g_iastore X hf dX3_init_34 (fun h7 hf => ?_)
  refine g_dup X dX3_init_35 rfl ?_
  refine g_iconst (v := 3) X dX3_init_36 (by decide) ?_
  refine g_iconst (v := (-1)) X dX3_init_37 (by decide) ?_
  refine g_iastore X hf dX3_init_38 (fun h8 hf => ?_)
  refine g_putFR X hf (T := TX3) rfl (by decide) (by decide) in_RX3 tyX3 tyX3_ok nmX3 tb_197 rfl rfl rfl rfl rfl dX3_init_39 (fun h9 hf => ?_)
  refine g_aload_n X dX3_init_42 0 rfl ?_
  refine g_iconst (v := 4) X dX3_init_43 (by decide) ?_
  refine g_newa (atype := .int) X hf (by decide) rfl rfl (fun _ _ q => q) tb_64 (Nat.le_of_ble_eq_true rfl) (by decide) dX3_init_44 (fun h10 hf => ?_)
  refine g_putFR X hf (T := TX3) rfl (by decide) (by decide) in_RX3 tyX3 tyX3_ok nmX3 tb_199 rfl rfl rfl rfl rfl dX3_init_46 (fun h11 hf => ?_)
  refine g_aload_n X dX3_init_49 0 rfl ?_
  refine g_bipush (v := 7) X dX3_init_50 (by decide) ?_
  refine g_newa (atype := .int) X hf (by decide) rfl rfl (fun _ _ q => q) tb_64 (Nat.le_of_ble_eq_true rfl) (by decide) dX3_init_52 (fun h12 hf => ?_)
  refine g_putFR X hf (T := TX3) rfl (by decide) (by decide) in_RX3 tyX3 tyX3_ok nmX3 tb_201 rfl rfl rfl rfl rfl dX3_init_54 (fun h13 hf => ?_)
  refine g_aload_n X dX3_init_57 0 rfl ?_
  refine g_bipush (v := 40) X dX3_init_58 (by decide) ?_
  refine g_newa (atype := .int) X hf (by decide) rfl rfl (fun _ _ q => q) tb_64 (Nat.le_of_ble_eq_true rfl) (by decide) dX3_init_60 (fun h14 hf => ?_)
  refine g_putFR X hf (T := TX3) rfl (by decide) (by decide) in_RX3 tyX3 tyX3_ok nmX3 tb_202 rfl rfl rfl rfl rfl dX3_init_62 (fun h15 hf => ?_)
  exact g_vreturn X (zV hf) (by decide) (by decide) dX3_init_65
def b_X2_init_246    : Nat → Option Nat → Int32 → AH → Option AH
  | 0 => fun _ _ _ => none
  | n + 1 => fun x0 x1 h =>
    if 4 < x1 then
      some h
    else
      (gR 2 13 h x0).bind fun v1 =>
      (nO 3 8 tyX3 h).bind fun h2 =>
      (f_X3_init h.1 h2).bind fun h3 =>
      (sR h3 v1 x1 (some h.1)).bind fun h4 =>
      b_X2_init_246 n x0 (x1 + 1) h4
set_option maxRecDepth 20000 in
theorem w_X2_init_246 {K : KT} {w : AH}   (X : CX K cX2_init RX2 TB none "<init>" (rmD 2 160 3571) 2 160 3571)  : ∀ (n : Nat) (hn : n ≤ 6) (x0 : Option Nat) (x1 : Int32) (h : AH), b_X2_init_246 n x0 x1 h = some w → GG K (none, w) (160 - n * 6) (3571 - n * 383) 246 [(0, tR x0), (1, tI x1)] [] h := by
  intro n
  induction n with
  | zero =>
    intro hn x0 x1 h hf
    cases (show none = some w from hf)
  | succ n ih =>
    intro hn x0 x1 h hf
    rw [b_X2_init_246] at hf
    refine g_iload_n X dX2_init_246 1 rfl ?_
    refine g_iconst (v := 4) X dX2_init_247 (by decide) ?_
    refine g_icmpgt (tgt := 270) X hf dX2_init_248 (by decide) (fun hf => ?_) (fun hf => ?_)
    · exact g_vreturn X (zV hf) (by omega) (by omega) dX2_init_270
    · refine g_aload_n X dX2_init_251 0 rfl ?_
      refine g_getR X hf (T := TX2) rfl (by decide) (by decide) in_RX2 tb_237 rfl dX2_init_252 (fun v1 hf => ?_)
      refine g_iload_n X dX2_init_255 1 rfl ?_
      refine g_new X hf (T := TX3) rfl (by decide) in_RX3 tyX3_ok tb_40 tb_185 tb_8 (by constructor <;> simp only [rmD] <;> omega) dX2_init_256 (fun h2 hf => ?_)
      refine g_dup X dX2_init_259 rfl ?_
      refine g_callIN (n := 0) (av := []) (rest := [tR (some h.1), tI x1, tR v1]) X hf (fun _ q => m_X3_init q) (gd0 tb_187) rfl (by decide +kernel) tb_8 rfl tb_186 (by decide +kernel) rfl (by decide) (by constructor <;> simp only [rmD] <;> omega) rfl (Nat.le_of_ble_eq_true rfl) dX2_init_260 (fun h3 hf => ?_)
      refine g_aastore X hf dX2_init_263 (fun h4 hf => ?_)
      refine g_iinc (v := (x1 + 1)) (lv' := [(0, tR x0), (1, tI (x1 + 1))]) X dX2_init_264 1 rfl (by rfl) (by decide) (in_pick [1, 0] rfl) ?_
      refine g_goto (tgt := 246) X dX2_init_267 (by decide) ?_
      refine g_widen (k := (160 - n * 6)) (n := (3571 - n * 383)) (by omega) (by omega) ?_
      exact ih (by omega) x0 (x1 + 1) h4 hf
def b_X2_init_219    : Nat → Option Nat → Int32 → AH → Option AH
  | 0 => fun _ _ _ => none
  | n + 1 => fun x0 x1 h =>
    if x1 < 40 then
      (gR 2 11 h x0).bind fun v1 =>
      (nO 8 11 tyX8 h).bind fun h2 =>
      (f_X8_init h.1 h2).bind fun h3 =>
      (sR h3 v1 x1 (some h.1)).bind fun h4 =>
      b_X2_init_219 n x0 (x1 + 1) h4
    else
      b_X2_init_246 6 x0 0 h
set_option maxRecDepth 20000 in
theorem w_X2_init_219 {K : KT} {w : AH}   (X : CX K cX2_init RX2 TB none "<init>" (rmD 2 160 3571) 2 160 3571)  : ∀ (n : Nat) (hn : n ≤ 41) (x0 : Option Nat) (x1 : Int32) (h : AH), b_X2_init_219 n x0 x1 h = some w → GG K (none, w) (124 - n * 1) (1273 - n * 11) 219 [(0, tR x0), (1, tI x1)] [] h := by
  intro n
  induction n with
  | zero =>
    intro hn x0 x1 h hf
    cases (show none = some w from hf)
  | succ n ih =>
    intro hn x0 x1 h hf
    rw [b_X2_init_219] at hf
    refine g_iload_n X dX2_init_219 1 rfl ?_
    refine g_bipush (v := 40) X dX2_init_220 (by decide) ?_
    refine g_icmpge (tgt := 244) X hf dX2_init_222 (by decide) (fun hf => ?_) (fun hf => ?_)
    · refine g_aload_n X dX2_init_225 0 rfl ?_
      refine g_getR X hf (T := TX2) rfl (by decide) (by decide) in_RX2 tb_233 rfl dX2_init_226 (fun v1 hf => ?_)
      refine g_iload_n X dX2_init_229 1 rfl ?_
      refine g_new X hf (T := TX8) rfl (by decide) in_RX8 tyX8_ok tb_39 tb_137 tb_7 (by constructor <;> simp only [rmD] <;> omega) dX2_init_230 (fun h2 hf => ?_)
      refine g_dup X dX2_init_233 rfl ?_
      refine g_callIN (n := 0) (av := []) (rest := [tR (some h.1), tI x1, tR v1]) X hf (fun _ q => m_X8_init q) (gd0 tb_139) rfl (by decide +kernel) tb_7 rfl tb_138 (by decide +kernel) rfl (by decide) (by constructor <;> simp only [rmD] <;> omega) rfl (Nat.le_of_ble_eq_true rfl) dX2_init_234 (fun h3 hf => ?_)
      refine g_aastore X hf dX2_init_237 (fun h4 hf => ?_)
      refine g_iinc (v := (x1 + 1)) (lv' := [(0, tR x0), (1, tI (x1 + 1))]) X dX2_init_238 1 rfl (by rfl) (by decide) (in_pick [1, 0] rfl) ?_
      refine g_goto (tgt := 219) X dX2_init_241 (by decide) ?_
      refine g_widen (k := (124 - n * 1)) (n := (1273 - n * 11)) (by omega) (by omega) ?_
      exact ih (by omega) x0 (x1 + 1) h4 hf
    · refine g_iconst (v := 0) X dX2_init_244 (by decide) ?_
      refine g_istore_n (lv' := [(0, tR x0), (1, tI 0)]) X dX2_init_245 (by decide) (in_pick [1, 0] rfl) ?_
      refine g_widen (k := (160 - 6 * 6)) (n := (3571 - 6 * 383)) (by omega) (by omega) ?_
      exact w_X2_init_246 X 6 (by decide) x0 0 h hf
def b_X2_init_192    : Nat → Option Nat → Int32 → AH → Option AH
  | 0 => fun _ _ _ => none
  | n + 1 => fun x0 x1 h =>
    if x1 < 8 then
      (gR 2 9 h x0).bind fun v1 =>
      (nO 1 4 tyX1 h).bind fun h2 =>
      (f_X1_init h.1 h2).bind fun h3 =>
      (sR h3 v1 x1 (some h.1)).bind fun h4 =>
      b_X2_init_192 n x0 (x1 + 1) h4
    else
      b_X2_init_219 41 x0 0 h
set_option maxRecDepth 20000 in
theorem w_X2_init_192 {K : KT} {w : AH}   (X : CX K cX2_init RX2 TB none "<init>" (rmD 2 160 3571) 2 160 3571)  : ∀ (n : Nat) (hn : n ≤ 9) (x0 : Option Nat) (x1 : Int32) (h : AH), b_X2_init_192 n x0 x1 h = some w → GG K (none, w) (83 - n * 1) (822 - n * 4) 192 [(0, tR x0), (1, tI x1)] [] h := by
  intro n
  induction n with
  | zero =>
    intro hn x0 x1 h hf
    cases (show none = some w from hf)
  | succ n ih =>
    intro hn x0 x1 h hf
    rw [b_X2_init_192] at hf
    refine g_iload_n X dX2_init_192 1 rfl ?_
    refine g_bipush (v := 8) X dX2_init_193 (by decide) ?_
    refine g_icmpge (tgt := 217) X hf dX2_init_195 (by decide) (fun hf => ?_) (fun hf => ?_)
    · refine g_aload_n X dX2_init_198 0 rfl ?_
      refine g_getR X hf (T := TX2) rfl (by decide) (by decide) in_RX2 tb_229 rfl dX2_init_199 (fun v1 hf => ?_)
      refine g_iload_n X dX2_init_202 1 rfl ?_
      refine g_new X hf (T := TX1) rfl (by decide) in_RX1 tyX1_ok tb_38 tb_120 tb_6 (by constructor <;> simp only [rmD] <;> omega) dX2_init_203 (fun h2 hf => ?_)
      refine g_dup X dX2_init_206 rfl ?_
      refine g_callIN (n := 0) (av := []) (rest := [tR (some h.1), tI x1, tR v1]) X hf (fun _ q => m_X1_init q) (gd0 tb_122) rfl (by decide +kernel) tb_6 rfl tb_121 (by decide +kernel) rfl (by decide) (by constructor <;> simp only [rmD] <;> omega) rfl (Nat.le_of_ble_eq_true rfl) dX2_init_207 (fun h3 hf => ?_)
      refine g_aastore X hf dX2_init_210 (fun h4 hf => ?_)
      refine g_iinc (v := (x1 + 1)) (lv' := [(0, tR x0), (1, tI (x1 + 1))]) X dX2_init_211 1 rfl (by rfl) (by decide) (in_pick [1, 0] rfl) ?_
      refine g_goto (tgt := 192) X dX2_init_214 (by decide) ?_
      refine g_widen (k := (83 - n * 1)) (n := (822 - n * 4)) (by omega) (by omega) ?_
      exact ih (by omega) x0 (x1 + 1) h4 hf
    · refine g_iconst (v := 0) X dX2_init_217 (by decide) ?_
      refine g_istore_n (lv' := [(0, tR x0), (1, tI 0)]) X dX2_init_218 (by decide) (in_pick [1, 0] rfl) ?_
      refine g_widen (k := (124 - 41 * 1)) (n := (1273 - 41 * 11)) (by omega) (by omega) ?_
      exact w_X2_init_219 X 41 (by decide) x0 0 h hf
def b_X2_init_165    : Nat → Option Nat → Int32 → AH → Option AH
  | 0 => fun _ _ _ => none
  | n + 1 => fun x0 x1 h =>
    if x1 < 8 then
      (gR 2 7 h x0).bind fun v1 =>
      (nO 10 3 tyX10 h).bind fun h2 =>
      (f_X10_init h.1 h2).bind fun h3 =>
      (sR h3 v1 x1 (some h.1)).bind fun h4 =>
      b_X2_init_165 n x0 (x1 + 1) h4
    else
      b_X2_init_192 9 x0 0 h
set_option maxRecDepth 20000 in
theorem w_X2_init_165 {K : KT} {w : AH}   (X : CX K cX2_init RX2 TB none "<init>" (rmD 2 160 3571) 2 160 3571)  : ∀ (n : Nat) (hn : n ≤ 9) (x0 : Option Nat) (x1 : Int32) (h : AH), b_X2_init_165 n x0 x1 h = some w → GG K (none, w) (74 - n * 2) (786 - n * 19) 165 [(0, tR x0), (1, tI x1)] [] h := by
  intro n
  induction n with
  | zero =>
    intro hn x0 x1 h hf
    cases (show none = some w from hf)
  | succ n ih =>
    intro hn x0 x1 h hf
    rw [b_X2_init_165] at hf
    refine g_iload_n X dX2_init_165 1 rfl ?_
    refine g_bipush (v := 8) X dX2_init_166 (by decide) ?_
    refine g_icmpge (tgt := 190) X hf dX2_init_168 (by decide) (fun hf => ?_) (fun hf => ?_)
    · refine g_aload_n X dX2_init_171 0 rfl ?_
      refine g_getR X hf (T := TX2) rfl (by decide) (by decide) in_RX2 tb_225 rfl dX2_init_172 (fun v1 hf => ?_)
      refine g_iload_n X dX2_init_175 1 rfl ?_
      refine g_new X hf (T := TX10) rfl (by decide) in_RX10 tyX10_ok tb_37 tb_106 tb_5 (by constructor <;> simp only [rmD] <;> omega) dX2_init_176 (fun h2 hf => ?_)
      refine g_dup X dX2_init_179 rfl ?_
      refine g_callIN (n := 0) (av := []) (rest := [tR (some h.1), tI x1, tR v1]) X hf (fun _ q => m_X10_init q) (gd0 tb_108) rfl (by decide +kernel) tb_5 rfl tb_107 (by decide +kernel) rfl (by decide) (by constructor <;> simp only [rmD] <;> omega) rfl (Nat.le_of_ble_eq_true rfl) dX2_init_180 (fun h3 hf => ?_)
      refine g_aastore X hf dX2_init_183 (fun h4 hf => ?_)
      refine g_iinc (v := (x1 + 1)) (lv' := [(0, tR x0), (1, tI (x1 + 1))]) X dX2_init_184 1 rfl (by rfl) (by decide) (in_pick [1, 0] rfl) ?_
      refine g_goto (tgt := 165) X dX2_init_187 (by decide) ?_
      refine g_widen (k := (74 - n * 2)) (n := (786 - n * 19)) (by omega) (by omega) ?_
      exact ih (by omega) x0 (x1 + 1) h4 hf
    · refine g_iconst (v := 0) X dX2_init_190 (by decide) ?_
      refine g_istore_n (lv' := [(0, tR x0), (1, tI 0)]) X dX2_init_191 (by decide) (in_pick [1, 0] rfl) ?_
      refine g_widen (k := (83 - 9 * 1)) (n := (822 - 9 * 4)) (by omega) (by omega) ?_
      exact w_X2_init_192 X 9 (by decide) x0 0 h hf
def b_X2_init_138    : Nat → Option Nat → Int32 → AH → Option AH
  | 0 => fun _ _ _ => none
  | n + 1 => fun x0 x1 h =>
    if x1 < 16 then
      (gR 2 5 h x0).bind fun v1 =>
      (nO 5 10 tyX5 h).bind fun h2 =>
      (f_X5_init h.1 h2).bind fun h3 =>
      (sR h3 v1 x1 (some h.1)).bind fun h4 =>
      b_X2_init_138 n x0 (x1 + 1) h4
    else
      b_X2_init_165 9 x0 0 h
set_option maxRecDepth 20000 in
theorem w_X2_init_138 {K : KT} {w : AH}   (X : CX K cX2_init RX2 TB none "<init>" (rmD 2 160 3571) 2 160 3571)  : ∀ (n : Nat) (hn : n ≤ 17) (x0 : Option Nat) (x1 : Int32) (h : AH), b_X2_init_138 n x0 x1 h = some w → GG K (none, w) (56 - n * 2) (615 - n * 26) 138 [(0, tR x0), (1, tI x1)] [] h := by
  intro n
  induction n with
  | zero =>
    intro hn x0 x1 h hf
    cases (show none = some w from hf)
  | succ n ih =>
    intro hn x0 x1 h hf
    rw [b_X2_init_138] at hf
    refine g_iload_n X dX2_init_138 1 rfl ?_
    refine g_bipush (v := 16) X dX2_init_139 (by decide) ?_
    refine g_icmpge (tgt := 163) X hf dX2_init_141 (by decide) (fun hf => ?_) (fun hf => ?_)
    · refine g_aload_n X dX2_init_144 0 rfl ?_
      refine g_getR X hf (T := TX2) rfl (by decide) (by decide) in_RX2 tb_221 rfl dX2_init_145 (fun v1 hf => ?_)
      refine g_iload_n X dX2_init_148 1 rfl ?_
      refine g_new X hf (T := TX5) rfl (by decide) in_RX5 tyX5_ok tb_36 tb_65 tb_4 (by constructor <;> simp only [rmD] <;> omega) dX2_init_149 (fun h2 hf => ?_)
      refine g_dup X dX2_init_152 rfl ?_
      refine g_callIN (n := 0) (av := []) (rest := [tR (some h.1), tI x1, tR v1]) X hf (fun _ q => m_X5_init q) (gd0 tb_67) rfl (by decide +kernel) tb_4 rfl tb_66 (by decide +kernel) rfl (by decide) (by constructor <;> simp only [rmD] <;> omega) rfl (Nat.le_of_ble_eq_true rfl) dX2_init_153 (fun h3 hf => ?_)
      refine g_aastore X hf dX2_init_156 (fun h4 hf => ?_)
      refine g_iinc (v := (x1 + 1)) (lv' := [(0, tR x0), (1, tI (x1 + 1))]) X dX2_init_157 1 rfl (by rfl) (by decide) (in_pick [1, 0] rfl) ?_
      refine g_goto (tgt := 138) X dX2_init_160 (by decide) ?_
      refine g_widen (k := (56 - n * 2)) (n := (615 - n * 26)) (by omega) (by omega) ?_
      exact ih (by omega) x0 (x1 + 1) h4 hf
    · refine g_iconst (v := 0) X dX2_init_163 (by decide) ?_
      refine g_istore_n (lv' := [(0, tR x0), (1, tI 0)]) X dX2_init_164 (by decide) (in_pick [1, 0] rfl) ?_
      refine g_widen (k := (74 - 9 * 2)) (n := (786 - 9 * 19)) (by omega) (by omega) ?_
      exact w_X2_init_165 X 9 (by decide) x0 0 h hf
def b_X2_init_111    : Nat → Option Nat → Int32 → AH → Option AH
  | 0 => fun _ _ _ => none
  | n + 1 => fun x0 x1 h =>
    if x1 < 8 then
      (gR 2 3 h x0).bind fun v1 =>
      (nO 9 4 tyX9 h).bind fun h2 =>
      (f_X9_init h.1 h2).bind fun h3 =>
      (sR h3 v1 x1 (some h.1)).bind fun h4 =>
      b_X2_init_111 n x0 (x1 + 1) h4
    else
      b_X2_init_138 17 x0 0 h
set_option maxRecDepth 20000 in
theorem w_X2_init_111 {K : KT} {w : AH}   (X : CX K cX2_init RX2 TB none "<init>" (rmD 2 160 3571) 2 160 3571)  : ∀ (n : Nat) (hn : n ≤ 9) (x0 : Option Nat) (x1 : Int32) (h : AH), b_X2_init_111 n x0 x1 h = some w → GG K (none, w) (22 - n * 1) (173 - n * 4) 111 [(0, tR x0), (1, tI x1)] [] h := by
  intro n
  induction n with
  | zero =>
    intro hn x0 x1 h hf
    cases (show none = some w from hf)
  | succ n ih =>
    intro hn x0 x1 h hf
    rw [b_X2_init_111] at hf
    refine g_iload_n X dX2_init_111 1 rfl ?_
    refine g_bipush (v := 8) X dX2_init_112 (by decide) ?_
    refine g_icmpge (tgt := 136) X hf dX2_init_114 (by decide) (fun hf => ?_) (fun hf => ?_)
    · refine g_aload_n X dX2_init_117 0 rfl ?_
      refine g_getR X hf (T := TX2) rfl (by decide) (by decide) in_RX2 tb_217 rfl dX2_init_118 (fun v1 hf => ?_)
      refine g_iload_n X dX2_init_121 1 rfl ?_
      refine g_new X hf (T := TX9) rfl (by decide) in_RX9 tyX9_ok tb_35 tb_48 tb_3 (by constructor <;> simp only [rmD] <;> omega) dX2_init_122 (fun h2 hf => ?_)
      refine g_dup X dX2_init_125 rfl ?_
      refine g_callIN (n := 0) (av := []) (rest := [tR (some h.1), tI x1, tR v1]) X hf (fun _ q => m_X9_init q) (gd0 tb_50) rfl (by decide +kernel) tb_3 rfl tb_49 (by decide +kernel) rfl (by decide) (by constructor <;> simp only [rmD] <;> omega) rfl (Nat.le_of_ble_eq_true rfl) dX2_init_126 (fun h3 hf => ?_)
      refine g_aastore X hf dX2_init_129 (fun h4 hf => ?_)
      refine g_iinc (v := (x1 + 1)) (lv' := [(0, tR x0), (1, tI (x1 + 1))]) X dX2_init_130 1 rfl (by rfl) (by decide) (in_pick [1, 0] rfl) ?_
      refine g_goto (tgt := 111) X dX2_init_133 (by decide) ?_
      refine g_widen (k := (22 - n * 1)) (n := (173 - n * 4)) (by omega) (by omega) ?_
      exact ih (by omega) x0 (x1 + 1) h4 hf
    · refine g_iconst (v := 0) X dX2_init_136 (by decide) ?_
      refine g_istore_n (lv' := [(0, tR x0), (1, tI 0)]) X dX2_init_137 (by decide) (in_pick [1, 0] rfl) ?_
      refine g_widen (k := (56 - 17 * 2)) (n := (615 - 17 * 26)) (by omega) (by omega) ?_
      exact w_X2_init_138 X 17 (by decide) x0 0 h hf
def f_X2_init  (a0 : Nat) (h : AH) : Option AH :=
  (nA 100 20 (.int 0) 20 h).bind fun h1 =>
  (pR 2 1 h1 (some a0) (some h.1)).bind fun h2 =>
  (nA 108 8 .null 8 h2).bind fun h3 =>
  (pR 2 3 h3 (some a0) (some h2.1)).bind fun h4 =>
  (nA 105 16 .null 16 h4).bind fun h5 =>
  (pR 2 5 h5 (some a0) (some h4.1)).bind fun h6 =>
  (nA 109 8 .null 8 h6).bind fun h7 =>
  (pR 2 7 h7 (some a0) (some h6.1)).bind fun h8 =>
  (nA 103 8 .null 8 h8).bind fun h9 =>
  (pR 2 9 h9 (some a0) (some h8.1)).bind fun h10 =>
  (nA 107 40 .null 40 h10).bind fun h11 =>
  (pR 2 11 h11 (some a0) (some h10.1)).bind fun h12 =>
  (nA 104 5 .null 5 h12).bind fun h13 =>
  (pR 2 13 h13 (some a0) (some h12.1)).bind fun h14 =>
  (pI 2 14 h14 (some a0) (-1)).bind fun h15 =>
  (clA h15 (some (h15.2.2 0)) 4).bind fun h16 =>
  if (h16.2.1 h15.1).1 = 100 then
  (pR 2 15 h16 (some a0) (some h15.1)).bind fun h17 =>
  (nM h17).bind fun h18 =>
  (pR 2 16 h18 (some a0) (some h17.1)).bind fun h19 =>
  (nA 100 9 (.int 0) 9 h19).bind fun h20 =>
  (pR 2 17 h20 (some a0) (some h19.1)).bind fun h21 =>
  (nA 100 7 (.int 0) 7 h21).bind fun h22 =>
  (pR 2 19 h22 (some a0) (some h21.1)).bind fun h23 =>
  b_X2_init_111 9 (some a0) 0 h23
  else none
set_option maxRecDepth 20000 in
theorem m_X2_init  {a0 : Nat} {h : AH} {w : AH} (hf : f_X2_init a0 h = some w) : CT yX2_init (wU yX2_init cX2_init 2 none) (rmD 2 160 3571) 160 3571 [tR (some a0)] h (none, w) := by
  refine CT.of (cc := cX2_init) (nL := 2) (ret := none) (by decide) (by simp [lg_sl, vOf_cat, wOf]) ?_
  intro K X
  refine g_locs (lv' := [(0, tR (some a0))]) (fun q hq => hq) ?_
  unfold f_X2_init at hf
  refine g_aload_n X dX2_init_0 0 rfl ?_
  refine g_objInit X tb_34 tb_27 tb_28 ⟨Nat.le_of_ble_eq_true rfl, Nat.le_of_ble_eq_true rfl⟩ dX2_init_1 ?_
  refine g_aload_n X dX2_init_4 0 rfl ?_
  refine g_bipush (v := 20) X dX2_init_5 (by decide) ?_
  refine g_newa (atype := .int) X hf (by decide) rfl rfl (fun _ _ q => q) tb_64 (Nat.le_of_ble_eq_true rfl) (by decide) dX2_init_7 (fun h1 hf => ?_)
  refine g_putFR X hf (T := TX2) rfl (by decide) (by decide) in_RX2 tyX2 tyX2_ok nmX2 tb_213 rfl rfl rfl rfl rfl dX2_init_9 (fun h2 hf => ?_)
  refine g_aload_n X dX2_init_12 0 rfl ?_
  refine g_bipush (v := 8) X dX2_init_13 (by decide) ?_
  refine g_anew X hf (by decide) rfl (by decide) tb_35 (Nat.le_of_ble_eq_true rfl) (by decide) dX2_init_15 (fun h3 hf => ?_)
  refine g_putFR X hf (T := TX2) rfl (by decide) (by decide) in_RX2 tyX2 tyX2_ok nmX2 tb_217 rfl rfl rfl rfl rfl dX2_init_18 (fun h4 hf => ?_)
  refine g_aload_n X dX2_init_21 0 rfl ?_
  refine g_bipush (v := 16) X dX2_init_22 (by decide) ?_
  refine g_anew X hf (by decide) rfl (by decide) tb_36 (Nat.le_of_ble_eq_true rfl) (by decide) dX2_init_24 (fun h5 hf => ?_)
  refine g_putFR X hf (T := TX2) rfl (by decide) (by decide) in_RX2 tyX2 tyX2_ok nmX2 tb_221 rfl rfl rfl rfl rfl dX2_init_27 (fun h6 hf => ?_)
  refine g_aload_n X dX2_init_30 0 rfl ?_
  refine g_bipush (v := 8) X dX2_init_31 (by decide) ?_
  refine g_anew X hf (by decide) rfl (by decide) tb_37 (Nat.le_of_ble_eq_true rfl) (by decide) dX2_init_33 (fun h7 hf => ?_)
  refine g_putFR X hf (T := TX2) rfl (by decide) (by decide) in_RX2 tyX2 tyX2_ok nmX2 tb_225 rfl rfl rfl rfl rfl dX2_init_36 (fun h8 hf => ?_)
  refine g_aload_n X dX2_init_39 0 rfl ?_
  refine g_bipush (v := 8) X dX2_init_40 (by decide) ?_
  refine g_anew X hf (by decide) rfl (by decide) tb_38 (Nat.le_of_ble_eq_true rfl) (by decide) dX2_init_42 (fun h9 hf => ?_)
  refine g_putFR X hf (T := TX2) rfl (by decide) (by decide) in_RX2 tyX2 tyX2_ok nmX2 tb_229 rfl rfl rfl rfl rfl dX2_init_45 (fun h10 hf => ?_)
  refine g_aload_n X dX2_init_48 0 rfl ?_
  refine g_bipush (v := 40) X dX2_init_49 (by decide) ?_
  refine g_anew X hf (by decide) rfl (by decide) tb_39 (Nat.le_of_ble_eq_true rfl) (by decide) dX2_init_51 (fun h11 hf => ?_)
  refine g_putFR X hf (T := TX2) rfl (by decide) (by decide) in_RX2 tyX2 tyX2_ok nmX2 tb_233 rfl rfl rfl rfl rfl dX2_init_54 (fun h12 hf => ?_)
  refine g_aload_n X dX2_init_57 0 rfl ?_
  refine g_iconst (v := 5) X dX2_init_58 (by decide) ?_
  refine g_anew X hf (by decide) rfl (by decide) tb_40 (Nat.le_of_ble_eq_true rfl) (by decide) dX2_init_59 (fun h13 hf => ?_)
  refine g_putFR X hf (T := TX2) rfl (by decide) (by decide) in_RX2 tyX2 tyX2_ok nmX2 tb_237 rfl rfl rfl rfl rfl dX2_init_62 (fun h14 hf => ?_)
  refine g_aload_n X dX2_init_65 0 rfl ?_
  refine g_iconst (v := (-1)) X dX2_init_66 (by decide) ?_
  refine g_putI X hf (T := TX2) rfl (by decide) (by decide) in_RX2 tyX2 tyX2_ok nmX2 tb_239 rfl rfl rfl dX2_init_67 (fun h15 hf => ?_)
  refine g_aload_n X dX2_init_70 0 rfl ?_
  refine g_getsN X dX2_init_71 ?_
  refine g_clone X hf tb_41 tb_42 tb_43 tb_44 tb_45 ⟨Nat.le_of_ble_eq_true rfl, Nat.le_of_ble_eq_true rfl⟩ (by decide) dX2_init_74 (fun h16 hf => ?_)
  by_cases hcc : (h16.2.1 h15.1).1 = 100
  · rw [if_pos hcc] at hf
    refine g_castI X hcc tb_46 dX2_init_77 ?_
    refine g_putFR X hf (T := TX2) rfl (by decide) (by decide) in_RX2 tyX2 tyX2_ok nmX2 tb_241 rfl rfl rfl rfl rfl dX2_init_80 (fun h17 hf => ?_)
    refine g_aload_n X dX2_init_83 0 rfl ?_
    refine g_iconst (v := 2) X dX2_init_84 (by decide) ?_
    refine g_iconst (v := 5) X dX2_init_85 (by decide) ?_
    refine g_mna X hf tb_47 tb_64 (by decide) dX2_init_86 (fun h18 hf => ?_)
    refine g_putFR X hf (T := TX2) rfl (by decide) (by decide) in_RX2 tyX2 tyX2_ok nmX2 tb_243 rfl rfl rfl rfl rfl dX2_init_90 (fun h19 hf => ?_)
    refine g_aload_n X dX2_init_93 0 rfl ?_
    refine g_bipush (v := 9) X dX2_init_94 (by decide) ?_
    refine g_newa (atype := .int) X hf (by decide) rfl rfl (fun _ _ q => q) tb_64 (Nat.le_of_ble_eq_true rfl) (by decide) dX2_init_96 (fun h20 hf => ?_)
    refine g_putFR X hf (T := TX2) rfl (by decide) (by decide) in_RX2 tyX2 tyX2_ok nmX2 tb_245 rfl rfl rfl rfl rfl dX2_init_98 (fun h21 hf => ?_)
    refine g_aload_n X dX2_init_101 0 rfl ?_
    refine g_bipush (v := 7) X dX2_init_102 (by decide) ?_
    refine g_newa (atype := .int) X hf (by decide) rfl rfl (fun _ _ q => q) tb_64 (Nat.le_of_ble_eq_true rfl) (by decide) dX2_init_104 (fun h22 hf => ?_)
    refine g_putFR X hf (T := TX2) rfl (by decide) (by decide) in_RX2 tyX2 tyX2_ok nmX2 tb_249 rfl rfl rfl rfl rfl dX2_init_106 (fun h23 hf => ?_)
    refine g_iconst (v := 0) X dX2_init_109 (by decide) ?_
    refine g_istore_n (lv' := [(0, tR (some a0)), (1, tI 0)]) X dX2_init_110 (by decide) (in_pick [1, 0] rfl) ?_
    refine g_widen (k := (22 - 9 * 1)) (n := (173 - 9 * 4)) (by decide) (by decide) ?_
    exact w_X2_init_111 X 9 (by decide) (some a0) 0 h23 hf
  · rw [if_neg hcc] at hf
    cases hf
def f_X3_become  (a0 : Option Nat) (a1 : Option Nat) (h : AH) : Option AH :=
  (gI 3 0 h a1).bind fun v1 =>
  (pZ 3 0 h a0 v1).bind fun h2 =>
  (gI 3 1 h2 a1).bind fun v3 =>
  (pI 3 1 h2 a0 v3).bind fun h4 =>
  (gI 3 3 h4 a1).bind fun v5 =>
  (pI 3 3 h4 a0 v5).bind fun h6 =>
  (gR 3 2 h6 a1).bind fun v7 =>
  (gR 3 2 h6 a0).bind fun v8 =>
  (gI 3 3 h6 a0).bind fun v9 =>
  (cpA h6 v7 0 v8 0 v9).bind fun h10 =>
  (gR 3 4 h10 a1).bind fun v11 =>
  (gR 3 4 h10 a0).bind fun v12 =>
  (cpA h10 v11 0 v12 0 4).bind fun h13 =>
  (gR 3 5 h13 a1).bind fun v14 =>
  (gR 3 5 h13 a0).bind fun v15 =>
  (cpA h13 v14 0 v15 0 4).bind fun h16 =>
  some h16
set_option maxRecDepth 20000 in
theorem m_X3_become  {a0 : Option Nat} {a1 : Option Nat} {h : AH} {w : AH} (hf : f_X3_become a0 a1 h = some w) : CT yX3_become (wU yX3_become cX3_become 2 none) (rmD 1 0 0) 0 0 [tR a0, tR a1] h (none, w) := by
  refine CT.of (cc := cX3_become) (nL := 2) (ret := none) (by decide) (by simp [lg_sl, vOf_cat, wOf]) ?_
  intro K X
  refine g_locs (lv' := [(0, tR a0), (1, tR a1)]) (fun q hq => hq) ?_
  unfold f_X3_become at hf
  refine g_aload_n X dX3_become_0 0 rfl ?_
  refine g_aload_n X dX3_become_1 1 rfl ?_
  refine g_getI X hf (T := TX3) rfl (by decide) (by decide) in_RX3 tb_189 rfl dX3_become_2 (fun v1 hf => ?_)
  refine g_putZ X hf (T := TX3) rfl (by decide) (by decide) in_RX3 tyX3 tyX3_ok nmX3 tb_189 rfl rfl rfl dX3_become_5 (fun h2 hf => ?_)
  refine g_aload_n X dX3_become_8 0 rfl ?_
  refine g_aload_n X dX3_become_9 1 rfl ?_
  refine g_getI X hf (T := TX3) rfl (by decide) (by decide) in_RX3 tb_191 rfl dX3_become_10 (fun v3 hf => ?_)
  refine g_putI X hf (T := TX3) rfl (by decide) (by decide) in_RX3 tyX3 tyX3_ok nmX3 tb_191 rfl rfl rfl dX3_become_13 (fun h4 hf => ?_)
  refine g_aload_n X dX3_become_16 0 rfl ?_
  refine g_aload_n X dX3_become_17 1 rfl ?_
  refine g_getI X hf (T := TX3) rfl (by decide) (by decide) in_RX3 tb_195 rfl dX3_become_18 (fun v5 hf => ?_)
  refine g_putI X hf (T := TX3) rfl (by decide) (by decide) in_RX3 tyX3 tyX3_ok nmX3 tb_195 rfl rfl rfl dX3_become_21 (fun h6 hf => ?_)
  refine g_aload_n X dX3_become_24 1 rfl ?_
  refine g_getR X hf (T := TX3) rfl (by decide) (by decide) in_RX3 tb_194 rfl dX3_become_25 (fun v7 hf => ?_)
  refine g_iconst (v := 0) X dX3_become_28 (by decide) ?_
  refine g_aload_n X dX3_become_29 0 rfl ?_
  refine g_getR X hf (T := TX3) rfl (by decide) (by decide) in_RX3 tb_194 rfl dX3_become_30 (fun v8 hf => ?_)
  refine g_iconst (v := 0) X dX3_become_33 (by decide) ?_
  refine g_aload_n X dX3_become_34 0 rfl ?_
  refine g_getI X hf (T := TX3) rfl (by decide) (by decide) in_RX3 tb_195 rfl dX3_become_35 (fun v9 hf => ?_)
  refine g_copy X hf tb_768 tb_770 tb_769 tb_19 ⟨Nat.le_of_ble_eq_true rfl, Nat.le_of_ble_eq_true rfl⟩ dX3_become_38 (fun h10 hf => ?_)
  refine g_aload_n X dX3_become_41 1 rfl ?_
  refine g_getR X hf (T := TX3) rfl (by decide) (by decide) in_RX3 tb_197 rfl dX3_become_42 (fun v11 hf => ?_)
  refine g_iconst (v := 0) X dX3_become_45 (by decide) ?_
  refine g_aload_n X dX3_become_46 0 rfl ?_
  refine g_getR X hf (T := TX3) rfl (by decide) (by decide) in_RX3 tb_197 rfl dX3_become_47 (fun v12 hf => ?_)
  refine g_iconst (v := 0) X dX3_become_50 (by decide) ?_
  refine g_iconst (v := 4) X dX3_become_51 (by decide) ?_
  refine g_copy X hf tb_768 tb_770 tb_769 tb_19 ⟨Nat.le_of_ble_eq_true rfl, Nat.le_of_ble_eq_true rfl⟩ dX3_become_52 (fun h13 hf => ?_)
  refine g_aload_n X dX3_become_55 1 rfl ?_
  refine g_getR X hf (T := TX3) rfl (by decide) (by decide) in_RX3 tb_199 rfl dX3_become_56 (fun v14 hf => ?_)
  refine g_iconst (v := 0) X dX3_become_59 (by decide) ?_
  refine g_aload_n X dX3_become_60 0 rfl ?_
  refine g_getR X hf (T := TX3) rfl (by decide) (by decide) in_RX3 tb_199 rfl dX3_become_61 (fun v15 hf => ?_)
  refine g_iconst (v := 0) X dX3_become_64 (by decide) ?_
  refine g_iconst (v := 4) X dX3_become_65 (by decide) ?_
  refine g_copy X hf tb_768 tb_770 tb_769 tb_19 ⟨Nat.le_of_ble_eq_true rfl, Nat.le_of_ble_eq_true rfl⟩ dX3_become_66 (fun h16 hf => ?_)
  exact g_vreturn X (zV hf) (by decide) (by decide) dX3_become_69
def f_X9_begin  (a0 : Option Nat) (a1 : Int32) (a2 : Int32) (h : AH) : Option AH :=
  (pI 9 0 h a0 a1).bind fun h1 =>
  (pI 9 1 h1 a0 a2).bind fun h2 =>
  (pI 9 2 h2 a0 0).bind fun h3 =>
  (pI 9 3 h3 a0 (-1)).bind fun h4 =>
  some h4
set_option maxRecDepth 20000 in
theorem m_X9_begin  {a0 : Option Nat} {a1 : Int32} {a2 : Int32} {h : AH} {w : AH} (hf : f_X9_begin a0 a1 a2 h = some w) : CT yX9_begin (wU yX9_begin cX9_begin 3 none) (rmD 1 0 0) 0 0 [tR a0, tI a1, tI a2] h (none, w) := by
  refine CT.of (cc := cX9_begin) (nL := 3) (ret := none) (by decide) (by simp [lg_sl, vOf_cat, wOf]) ?_
  intro K X
  refine g_locs (lv' := [(0, tR a0), (1, tI a1), (2, tI a2)]) (fun q hq => hq) ?_
  unfold f_X9_begin at hf
  refine g_aload_n X dX9_begin_0 0 rfl ?_
  refine g_iload_n X dX9_begin_1 1 rfl ?_
  refine g_putI X hf (T := TX9) rfl (by decide) (by decide) in_RX9 tyX9 tyX9_ok nmX9 tb_52 rfl rfl rfl dX9_begin_2 (fun h1 hf => ?_)
  refine g_aload_n X dX9_begin_5 0 rfl ?_
  refine g_iload_n X dX9_begin_6 2 rfl ?_
  refine g_putI X hf (T := TX9) rfl (by decide) (by decide) in_RX9 tyX9 tyX9_ok nmX9 tb_54 rfl rfl rfl dX9_begin_7 (fun h2 hf => ?_)
  refine g_aload_n X dX9_begin_10 0 rfl ?_
  refine g_iconst (v := 0) X dX9_begin_11 (by decide) ?_
  refine g_putI X hf (T := TX9) rfl (by decide) (by decide) in_RX9 tyX9 tyX9_ok nmX9 tb_56 rfl rfl rfl dX9_begin_12 (fun h3 hf => ?_)
  refine g_aload_n X dX9_begin_15 0 rfl ?_
  refine g_iconst (v := (-1)) X dX9_begin_16 (by decide) ?_
  refine g_putI X hf (T := TX9) rfl (by decide) (by decide) in_RX9 tyX9 tyX9_ok nmX9 tb_58 rfl rfl rfl dX9_begin_17 (fun h4 hf => ?_)
  exact g_vreturn X (zV hf) (by decide) (by decide) dX9_begin_20
def f_X9_become  (a0 : Option Nat) (a1 : Option Nat) (h : AH) : Option AH :=
  (gI 9 0 h a1).bind fun v1 =>
  (gI 9 1 h a1).bind fun v2 =>
  (ck 9 h a0 (f_X9_begin a0 v1 v2 h)).bind fun h3 =>
  (gI 9 2 h3 a1).bind fun v4 =>
  (pI 9 2 h3 a0 v4).bind fun h5 =>
  (gI 9 3 h5 a1).bind fun v6 =>
  (pI 9 3 h5 a0 v6).bind fun h7 =>
  some h7
set_option maxRecDepth 20000 in
theorem m_X9_become  {a0 : Option Nat} {a1 : Option Nat} {h : AH} {w : AH} (hf : f_X9_become a0 a1 h = some w) : CT yX9_become (wU yX9_become cX9_become 2 none) (rmD 2 0 0) 0 0 [tR a0, tR a1] h (none, w) := by
  refine CT.of (cc := cX9_become) (nL := 2) (ret := none) (by decide) (by simp [lg_sl, vOf_cat, wOf]) ?_
  intro K X
  refine g_locs (lv' := [(0, tR a0), (1, tR a1)]) (fun q hq => hq) ?_
  unfold f_X9_become at hf
  refine g_aload_n X dX9_become_0 0 rfl ?_
  refine g_aload_n X dX9_become_1 1 rfl ?_
  refine g_getI X hf (T := TX9) rfl (by decide) (by decide) in_RX9 tb_52 rfl dX9_become_2 (fun v1 hf => ?_)
  refine g_aload_n X dX9_become_5 1 rfl ?_
  refine g_getI X hf (T := TX9) rfl (by decide) (by decide) in_RX9 tb_54 rfl dX9_become_6 (fun v2 hf => ?_)
  refine g_callV (n := 2) (av := [tI v1, tI v2]) (rest := []) (k := 9) X hf (fun h3 => (none, h3)) (fun _ q => m_X9_begin q) (gdV tb_1107 tb_418 tb_419 tb_3 tb_420) rfl (by decide +kernel) rfl (by decide) rfl (by decide) (by decide) rfl (Nat.le_of_ble_eq_true rfl) dX9_become_9 (fun h3 hf => ?_)
  refine g_aload_n X dX9_become_12 0 rfl ?_
  refine g_aload_n X dX9_become_13 1 rfl ?_
  refine g_getI X hf (T := TX9) rfl (by decide) (by decide) in_RX9 tb_56 rfl dX9_become_14 (fun v4 hf => ?_)
  refine g_putI X hf (T := TX9) rfl (by decide) (by decide) in_RX9 tyX9 tyX9_ok nmX9 tb_56 rfl rfl rfl dX9_become_17 (fun h5 hf => ?_)
  refine g_aload_n X dX9_become_20 0 rfl ?_
  refine g_aload_n X dX9_become_21 1 rfl ?_
  refine g_getI X hf (T := TX9) rfl (by decide) (by decide) in_RX9 tb_58 rfl dX9_become_22 (fun v6 hf => ?_)
  refine g_putI X hf (T := TX9) rfl (by decide) (by decide) in_RX9 tyX9 tyX9_ok nmX9 tb_58 rfl rfl rfl dX9_become_25 (fun h7 hf => ?_)
  exact g_vreturn X (zV hf) (by decide) (by decide) dX9_become_28
def b_X5_begin_49    : Nat → Option Nat → Int32 → AH → Option AH
  | 0 => fun _ _ _ => none
  | n + 1 => fun x0 x5 h =>
    if x5 < 16 then
      (gR 5 9 h x0).bind fun v1 =>
      (sI h v1 x5 0).bind fun h2 =>
      b_X5_begin_49 n x0 (x5 + 1) h2
    else
      some h
set_option maxRecDepth 20000 in
theorem w_X5_begin_49 {K : KT} {w : AH}   (X : CX K cX5_begin RX5 TB none "begin" (rmD 1 0 0) 6 0 0)  : ∀ (n : Nat) (x0 : Option Nat) (x5 : Int32) (h : AH), b_X5_begin_49 n x0 x5 h = some w → GG K (none, w) 0 0 49 [(0, tR x0), (5, tI x5)] [] h := by
  intro n
  induction n with
  | zero =>
    intro x0 x5 h hf
    cases (show none = some w from hf)
  | succ n ih =>
    intro x0 x5 h hf
    rw [b_X5_begin_49] at hf
    refine g_iload X dX5_begin_49 1 rfl ?_
    refine g_bipush (v := 16) X dX5_begin_51 (by decide) ?_
    refine g_icmpge (tgt := 70) X hf dX5_begin_53 (by decide) (fun hf => ?_) (fun hf => ?_)
    · refine g_aload_n X dX5_begin_56 0 rfl ?_
      refine g_getR X hf (T := TX5) rfl (by decide) (by decide) in_RX5 tb_93 rfl dX5_begin_57 (fun v1 hf => ?_)
      refine g_iload X dX5_begin_60 1 rfl ?_
      refine g_iconst (v := 0) X dX5_begin_62 (by decide) ?_
      refine g_iastore X hf dX5_begin_63 (fun h2 hf => ?_)
      refine g_iinc (v := (x5 + 1)) (lv' := [(0, tR x0), (5, tI (x5 + 1))]) X dX5_begin_64 1 rfl (by rfl) (by decide) (in_pick [1, 0] rfl) ?_
      refine g_goto (tgt := 49) X dX5_begin_67 (by decide) ?_
      exact ih x0 (x5 + 1) h2 hf
    · exact g_vreturn X (zV hf) (by decide) (by decide) dX5_begin_70
def f_X5_begin  (a0 : Option Nat) (a1 : Int32) (a2 : Int32) (a3 : Int32) (a4 : Int32) (h : AH) : Option AH :=
  (pI 5 0 h a0 a1).bind fun h1 =>
  (pI 5 1 h1 a0 a2).bind fun h2 =>
  (pI 5 2 h2 a0 a3).bind fun h3 =>
  (pI 5 3 h3 a0 a4).bind fun h4 =>
  (pI 5 4 h4 a0 0).bind fun h5 =>
  (pI 5 5 h5 a0 0).bind fun h6 =>
  (pI 5 6 h6 a0 (-1)).bind fun h7 =>
  (pI 5 7 h7 a0 (-1)).bind fun h8 =>
  (pZ 5 8 h8 a0 0).bind fun h9 =>
  b_X5_begin_49 FU a0 0 h9
set_option maxRecDepth 20000 in
theorem m_X5_begin  {a0 : Option Nat} {a1 : Int32} {a2 : Int32} {a3 : Int32} {a4 : Int32} {h : AH} {w : AH} (hf : f_X5_begin a0 a1 a2 a3 a4 h = some w) : CT yX5_begin (wU yX5_begin cX5_begin 6 none) (rmD 1 0 0) 0 0 [tR a0, tI a1, tI a2, tI a3, tI a4] h (none, w) := by
  refine CT.of (cc := cX5_begin) (nL := 6) (ret := none) (by decide) (by simp [lg_sl, vOf_cat, wOf]) ?_
  intro K X
  refine g_locs (lv' := [(0, tR a0), (1, tI a1), (2, tI a2), (3, tI a3), (4, tI a4)]) (fun q hq => hq) ?_
  unfold f_X5_begin at hf
  refine g_aload_n X dX5_begin_0 0 rfl ?_
  refine g_iload_n X dX5_begin_1 1 rfl ?_
  refine g_putI X hf (T := TX5) rfl (by decide) (by decide) in_RX5 tyX5 tyX5_ok nmX5 tb_69 rfl rfl rfl dX5_begin_2 (fun h1 hf => ?_)
  refine g_aload_n X dX5_begin_5 0 rfl ?_
  refine g_iload_n X dX5_begin_6 2 rfl ?_
  refine g_putI X hf (T := TX5) rfl (by decide) (by decide) in_RX5 tyX5 tyX5_ok nmX5 tb_72 rfl rfl rfl dX5_begin_7 (fun h2 hf => ?_)
  refine g_aload_n X dX5_begin_10 0 rfl ?_
  refine g_iload_n X dX5_begin_11 3 rfl ?_
  refine g_putI X hf (T := TX5) rfl (by decide) (by decide) in_RX5 tyX5 tyX5_ok nmX5 tb_75 rfl rfl rfl dX5_begin_12 (fun h3 hf => ?_)
  refine g_aload_n X dX5_begin_15 0 rfl ?_
  refine g_iload X dX5_begin_16 4 rfl ?_
  refine g_putI X hf (T := TX5) rfl (by decide) (by decide) in_RX5 tyX5 tyX5_ok nmX5 tb_78 rfl rfl rfl dX5_begin_18 (fun h4 hf => ?_)
  refine g_aload_n X dX5_begin_21 0 rfl ?_
  refine g_iconst (v := 0) X dX5_begin_22 (by decide) ?_
  refine g_putI X hf (T := TX5) rfl (by decide) (by decide) in_RX5 tyX5 tyX5_ok nmX5 tb_81 rfl rfl rfl dX5_begin_23 (fun h5 hf => ?_)
  refine g_aload_n X dX5_begin_26 0 rfl ?_
  refine g_iconst (v := 0) X dX5_begin_27 (by decide) ?_
  refine g_putI X hf (T := TX5) rfl (by decide) (by decide) in_RX5 tyX5 tyX5_ok nmX5 tb_83 rfl rfl rfl dX5_begin_28 (fun h6 hf => ?_)
  refine g_aload_n X dX5_begin_31 0 rfl ?_
  refine g_iconst (v := (-1)) X dX5_begin_32 (by decide) ?_
  refine g_putI X hf (T := TX5) rfl (by decide) (by decide) in_RX5 tyX5 tyX5_ok nmX5 tb_85 rfl rfl rfl dX5_begin_33 (fun h7 hf => ?_)
  refine g_aload_n X dX5_begin_36 0 rfl ?_
  refine g_iconst (v := (-1)) X dX5_begin_37 (by decide) ?_
  refine g_putI X hf (T := TX5) rfl (by decide) (by decide) in_RX5 tyX5 tyX5_ok nmX5 tb_88 rfl rfl rfl dX5_begin_38 (fun h8 hf => ?_)
  refine g_aload_n X dX5_begin_41 0 rfl ?_
  refine g_iconst (v := 0) X dX5_begin_42 (by decide) ?_
  refine g_putZ X hf (T := TX5) rfl (by decide) (by decide) in_RX5 tyX5 tyX5_ok nmX5 tb_91 rfl rfl rfl dX5_begin_43 (fun h9 hf => ?_)
  refine g_iconst (v := 0) X dX5_begin_46 (by decide) ?_
  refine g_istore (lv' := [(0, tR a0), (1, tI a1), (2, tI a2), (3, tI a3), (4, tI a4), (5, tI 0)]) X dX5_begin_47 (by decide) (in_pick [1, 2, 3, 4, 5, 0] rfl) ?_
  refine g_locs (lv' := [(0, tR a0), (5, tI 0)]) (in_pick [0, 5] rfl) ?_
  exact w_X5_begin_49 X FU a0 0 h9 hf
def f_X5_become  (a0 : Option Nat) (a1 : Option Nat) (h : AH) : Option AH :=
  (gI 5 0 h a1).bind fun v1 =>
  (gI 5 1 h a1).bind fun v2 =>
  (gI 5 2 h a1).bind fun v3 =>
  (gI 5 3 h a1).bind fun v4 =>
  (ck 5 h a0 (f_X5_begin a0 v1 v2 v3 v4 h)).bind fun h5 =>
  (gI 5 4 h5 a1).bind fun v6 =>
  (pI 5 4 h5 a0 v6).bind fun h7 =>
  (gI 5 5 h7 a1).bind fun v8 =>
  (pI 5 5 h7 a0 v8).bind fun h9 =>
  (gI 5 6 h9 a1).bind fun v10 =>
  (pI 5 6 h9 a0 v10).bind fun h11 =>
  (gI 5 7 h11 a1).bind fun v12 =>
  (pI 5 7 h11 a0 v12).bind fun h13 =>
  (gI 5 8 h13 a1).bind fun v14 =>
  (pZ 5 8 h13 a0 v14).bind fun h15 =>
  (gR 5 9 h15 a1).bind fun v16 =>
  (gR 5 9 h15 a0).bind fun v17 =>
  (cpA h15 v16 0 v17 0 16).bind fun h18 =>
  some h18
set_option maxRecDepth 20000 in
theorem m_X5_become  {a0 : Option Nat} {a1 : Option Nat} {h : AH} {w : AH} (hf : f_X5_become a0 a1 h = some w) : CT yX5_become (wU yX5_become cX5_become 2 none) (rmD 2 0 0) 0 0 [tR a0, tR a1] h (none, w) := by
  refine CT.of (cc := cX5_become) (nL := 2) (ret := none) (by decide) (by simp [lg_sl, vOf_cat, wOf]) ?_
  intro K X
  refine g_locs (lv' := [(0, tR a0), (1, tR a1)]) (fun q hq => hq) ?_
  unfold f_X5_become at hf
  refine g_aload_n X dX5_become_0 0 rfl ?_
  refine g_aload_n X dX5_become_1 1 rfl ?_
  refine g_getI X hf (T := TX5) rfl (by decide) (by decide) in_RX5 tb_69 rfl dX5_become_2 (fun v1 hf => ?_)
  refine g_aload_n X dX5_become_5 1 rfl ?_
  refine g_getI X hf (T := TX5) rfl (by decide) (by decide) in_RX5 tb_72 rfl dX5_become_6 (fun v2 hf => ?_)
  refine g_aload_n X dX5_become_9 1 rfl ?_
  refine g_getI X hf (T := TX5) rfl (by decide) (by decide) in_RX5 tb_75 rfl dX5_become_10 (fun v3 hf => ?_)
  refine g_aload_n X dX5_become_13 1 rfl ?_
  refine g_getI X hf (T := TX5) rfl (by decide) (by decide) in_RX5 tb_78 rfl dX5_become_14 (fun v4 hf => ?_)
  refine g_callV (n := 4) (av := [tI v1, tI v2, tI v3, tI v4]) (rest := []) (k := 5) X hf (fun h5 => (none, h5)) (fun _ q => m_X5_begin q) (gdV tb_1112 tb_442 tb_443 tb_4 tb_444) rfl (by decide +kernel) rfl (by decide) rfl (by decide) (by decide) rfl (Nat.le_of_ble_eq_true rfl) dX5_become_17 (fun h5 hf => ?_)
  refine g_aload_n X dX5_become_20 0 rfl ?_
  refine g_aload_n X dX5_become_21 1 rfl ?_
  refine g_getI X hf (T := TX5) rfl (by decide) (by decide) in_RX5 tb_81 rfl dX5_become_22 (fun v6 hf => ?_)
  refine g_putI X hf (T := TX5) rfl (by decide) (by decide) in_RX5 tyX5 tyX5_ok nmX5 tb_81 rfl rfl rfl dX5_become_25 (fun h7 hf => ?_)
  refine g_aload_n X dX5_become_28 0 rfl ?_
  refine g_aload_n X dX5_become_29 1 rfl ?_
  refine g_getI X hf (T := TX5) rfl (by decide) (by decide) in_RX5 tb_83 rfl dX5_become_30 (fun v8 hf => ?_)
  refine g_putI X hf (T := TX5) rfl (by decide) (by decide) in_RX5 tyX5 tyX5_ok nmX5 tb_83 rfl rfl rfl dX5_become_33 (fun h9 hf => ?_)
  refine g_aload_n X dX5_become_36 0 rfl ?_
  refine g_aload_n X dX5_become_37 1 rfl ?_
  refine g_getI X hf (T := TX5) rfl (by decide) (by decide) in_RX5 tb_85 rfl dX5_become_38 (fun v10 hf => ?_)
  refine g_putI X hf (T := TX5) rfl (by decide) (by decide) in_RX5 tyX5 tyX5_ok nmX5 tb_85 rfl rfl rfl dX5_become_41 (fun h11 hf => ?_)
  refine g_aload_n X dX5_become_44 0 rfl ?_
  refine g_aload_n X dX5_become_45 1 rfl ?_
  refine g_getI X hf (T := TX5) rfl (by decide) (by decide) in_RX5 tb_88 rfl dX5_become_46 (fun v12 hf => ?_)
  refine g_putI X hf (T := TX5) rfl (by decide) (by decide) in_RX5 tyX5 tyX5_ok nmX5 tb_88 rfl rfl rfl dX5_become_49 (fun h13 hf => ?_)
  refine g_aload_n X dX5_become_52 0 rfl ?_
  refine g_aload_n X dX5_become_53 1 rfl ?_
  refine g_getI X hf (T := TX5) rfl (by decide) (by decide) in_RX5 tb_91 rfl dX5_become_54 (fun v14 hf => ?_)
  refine g_putZ X hf (T := TX5) rfl (by decide) (by decide) in_RX5 tyX5 tyX5_ok nmX5 tb_91 rfl rfl rfl dX5_become_57 (fun h15 hf => ?_)
  refine g_aload_n X dX5_become_60 1 rfl ?_
  refine g_getR X hf (T := TX5) rfl (by decide) (by decide) in_RX5 tb_93 rfl dX5_become_61 (fun v16 hf => ?_)
  refine g_iconst (v := 0) X dX5_become_64 (by decide) ?_
  refine g_aload_n X dX5_become_65 0 rfl ?_
  refine g_getR X hf (T := TX5) rfl (by decide) (by decide) in_RX5 tb_93 rfl dX5_become_66 (fun v17 hf => ?_)
  refine g_iconst (v := 0) X dX5_become_69 (by decide) ?_
  refine g_bipush (v := 16) X dX5_become_70 (by decide) ?_
  refine g_copy X hf tb_1113 tb_770 tb_769 tb_19 ⟨Nat.le_of_ble_eq_true rfl, Nat.le_of_ble_eq_true rfl⟩ dX5_become_72 (fun h18 hf => ?_)
  exact g_vreturn X (zV hf) (by decide) (by decide) dX5_become_75
def f_X10_become  (a0 : Option Nat) (a1 : Option Nat) (h : AH) : Option AH :=
  (gI 10 0 h a1).bind fun v1 =>
  (pI 10 0 h a0 v1).bind fun h2 =>
  (gI 10 1 h2 a1).bind fun v3 =>
  (pI 10 1 h2 a0 v3).bind fun h4 =>
  (gR 10 2 h4 a1).bind fun v5 =>
  (gR 10 2 h4 a0).bind fun v6 =>
  (cpA h4 v5 0 v6 0 16).bind fun h7 =>
  some h7
set_option maxRecDepth 20000 in
theorem m_X10_become  {a0 : Option Nat} {a1 : Option Nat} {h : AH} {w : AH} (hf : f_X10_become a0 a1 h = some w) : CT yX10_become (wU yX10_become cX10_become 2 none) (rmD 1 0 0) 0 0 [tR a0, tR a1] h (none, w) := by
  refine CT.of (cc := cX10_become) (nL := 2) (ret := none) (by decide) (by simp [lg_sl, vOf_cat, wOf]) ?_
  intro K X
  refine g_locs (lv' := [(0, tR a0), (1, tR a1)]) (fun q hq => hq) ?_
  unfold f_X10_become at hf
  refine g_aload_n X dX10_become_0 0 rfl ?_
  refine g_aload_n X dX10_become_1 1 rfl ?_
  refine g_getI X hf (T := TX10) rfl (by decide) (by decide) in_RX10 tb_110 rfl dX10_become_2 (fun v1 hf => ?_)
  refine g_putI X hf (T := TX10) rfl (by decide) (by decide) in_RX10 tyX10 tyX10_ok nmX10 tb_110 rfl rfl rfl dX10_become_5 (fun h2 hf => ?_)
  refine g_aload_n X dX10_become_8 0 rfl ?_
  refine g_aload_n X dX10_become_9 1 rfl ?_
  refine g_getI X hf (T := TX10) rfl (by decide) (by decide) in_RX10 tb_112 rfl dX10_become_10 (fun v3 hf => ?_)
  refine g_putI X hf (T := TX10) rfl (by decide) (by decide) in_RX10 tyX10 tyX10_ok nmX10 tb_112 rfl rfl rfl dX10_become_13 (fun h4 hf => ?_)
  refine g_aload_n X dX10_become_16 1 rfl ?_
  refine g_getR X hf (T := TX10) rfl (by decide) (by decide) in_RX10 tb_114 rfl dX10_become_17 (fun v5 hf => ?_)
  refine g_iconst (v := 0) X dX10_become_20 (by decide) ?_
  refine g_aload_n X dX10_become_21 0 rfl ?_
  refine g_getR X hf (T := TX10) rfl (by decide) (by decide) in_RX10 tb_114 rfl dX10_become_22 (fun v6 hf => ?_)
  refine g_iconst (v := 0) X dX10_become_25 (by decide) ?_
  refine g_bipush (v := 16) X dX10_become_26 (by decide) ?_
  refine g_copy X hf tb_1118 tb_770 tb_769 tb_19 ⟨Nat.le_of_ble_eq_true rfl, Nat.le_of_ble_eq_true rfl⟩ dX10_become_28 (fun h7 hf => ?_)
  exact g_vreturn X (zV hf) (by decide) (by decide) dX10_become_31
def f_X8_begin  (a0 : Option Nat) (a1 : Int32) (a2 : Int32) (a3 : Int32) (a4 : Int32) (h : AH) : Option AH :=
  (pI 8 0 h a0 a1).bind fun h1 =>
  (pI 8 1 h1 a0 a2).bind fun h2 =>
  (pI 8 2 h2 a0 a3).bind fun h3 =>
  (pI 8 3 h3 a0 a4).bind fun h4 =>
  (pI 8 4 h4 a0 0).bind fun h5 =>
  (pZ 8 5 h5 a0 0).bind fun h6 =>
  (pI 8 6 h6 a0 0).bind fun h7 =>
  (pI 8 7 h7 a0 0).bind fun h8 =>
  (pI 8 8 h8 a0 (-1)).bind fun h9 =>
  (pI 8 9 h9 a0 0).bind fun h10 =>
  (pI 8 10 h10 a0 0).bind fun h11 =>
  some h11
set_option maxRecDepth 20000 in
theorem m_X8_begin  {a0 : Option Nat} {a1 : Int32} {a2 : Int32} {a3 : Int32} {a4 : Int32} {h : AH} {w : AH} (hf : f_X8_begin a0 a1 a2 a3 a4 h = some w) : CT yX8_begin (wU yX8_begin cX8_begin 5 none) (rmD 1 0 0) 0 0 [tR a0, tI a1, tI a2, tI a3, tI a4] h (none, w) := by
  refine CT.of (cc := cX8_begin) (nL := 5) (ret := none) (by decide) (by simp [lg_sl, vOf_cat, wOf]) ?_
  intro K X
  refine g_locs (lv' := [(0, tR a0), (1, tI a1), (2, tI a2), (3, tI a3), (4, tI a4)]) (fun q hq => hq) ?_
  unfold f_X8_begin at hf
  refine g_aload_n X dX8_begin_0 0 rfl ?_
  refine g_iload_n X dX8_begin_1 1 rfl ?_
  refine g_putI X hf (T := TX8) rfl (by decide) (by decide) in_RX8 tyX8 tyX8_ok nmX8 tb_141 rfl rfl rfl dX8_begin_2 (fun h1 hf => ?_)
  refine g_aload_n X dX8_begin_5 0 rfl ?_
  refine g_iload_n X dX8_begin_6 2 rfl ?_
  refine g_putI X hf (T := TX8) rfl (by decide) (by decide) in_RX8 tyX8 tyX8_ok nmX8 tb_144 rfl rfl rfl dX8_begin_7 (fun h2 hf => ?_)
  refine g_aload_n X dX8_begin_10 0 rfl ?_
  refine g_iload_n X dX8_begin_11 3 rfl ?_
  refine g_putI X hf (T := TX8) rfl (by decide) (by decide) in_RX8 tyX8 tyX8_ok nmX8 tb_148 rfl rfl rfl dX8_begin_12 (fun h3 hf => ?_)
  refine g_aload_n X dX8_begin_15 0 rfl ?_
  refine g_iload X dX8_begin_16 4 rfl ?_
  refine g_putI X hf (T := TX8) rfl (by decide) (by decide) in_RX8 tyX8 tyX8_ok nmX8 tb_152 rfl rfl rfl dX8_begin_18 (fun h4 hf => ?_)
  refine g_aload_n X dX8_begin_21 0 rfl ?_
  refine g_iconst (v := 0) X dX8_begin_22 (by decide) ?_
  refine g_putI X hf (T := TX8) rfl (by decide) (by decide) in_RX8 tyX8 tyX8_ok nmX8 tb_156 rfl rfl rfl dX8_begin_23 (fun h5 hf => ?_)
  refine g_aload_n X dX8_begin_26 0 rfl ?_
  refine g_iconst (v := 0) X dX8_begin_27 (by decide) ?_
  refine g_putZ X hf (T := TX8) rfl (by decide) (by decide) in_RX8 tyX8 tyX8_ok nmX8 tb_159 rfl rfl rfl dX8_begin_28 (fun h6 hf => ?_)
  refine g_aload_n X dX8_begin_31 0 rfl ?_
  refine g_iconst (v := 0) X dX8_begin_32 (by decide) ?_
  refine g_putI X hf (T := TX8) rfl (by decide) (by decide) in_RX8 tyX8 tyX8_ok nmX8 tb_162 rfl rfl rfl dX8_begin_33 (fun h7 hf => ?_)
  refine g_aload_n X dX8_begin_36 0 rfl ?_
  refine g_iconst (v := 0) X dX8_begin_37 (by decide) ?_
  refine g_putI X hf (T := TX8) rfl (by decide) (by decide) in_RX8 tyX8 tyX8_ok nmX8 tb_165 rfl rfl rfl dX8_begin_38 (fun h8 hf => ?_)
  refine g_aload_n X dX8_begin_41 0 rfl ?_
  refine g_iconst (v := (-1)) X dX8_begin_42 (by decide) ?_
  refine g_putI X hf (T := TX8) rfl (by decide) (by decide) in_RX8 tyX8 tyX8_ok nmX8 tb_168 rfl rfl rfl dX8_begin_43 (fun h9 hf => ?_)
  refine g_aload_n X dX8_begin_46 0 rfl ?_
  refine g_iconst (v := 0) X dX8_begin_47 (by decide) ?_
  refine g_putI X hf (T := TX8) rfl (by decide) (by decide) in_RX8 tyX8 tyX8_ok nmX8 tb_170 rfl rfl rfl dX8_begin_48 (fun h10 hf => ?_)
  refine g_aload_n X dX8_begin_51 0 rfl ?_
  refine g_iconst (v := 0) X dX8_begin_52 (by decide) ?_
  refine g_putI X hf (T := TX8) rfl (by decide) (by decide) in_RX8 tyX8 tyX8_ok nmX8 tb_172 rfl rfl rfl dX8_begin_53 (fun h11 hf => ?_)
  exact g_vreturn X (zV hf) (by decide) (by decide) dX8_begin_56
def f_X8_become  (a0 : Option Nat) (a1 : Option Nat) (h : AH) : Option AH :=
  (gI 8 0 h a1).bind fun v1 =>
  (gI 8 1 h a1).bind fun v2 =>
  (gI 8 2 h a1).bind fun v3 =>
  (gI 8 3 h a1).bind fun v4 =>
  (ck 8 h a0 (f_X8_begin a0 v1 v2 v3 v4 h)).bind fun h5 =>
  (gI 8 4 h5 a1).bind fun v6 =>
  (pI 8 4 h5 a0 v6).bind fun h7 =>
  (gI 8 5 h7 a1).bind fun v8 =>
  (pZ 8 5 h7 a0 v8).bind fun h9 =>
  (gI 8 6 h9 a1).bind fun v10 =>
  (pI 8 6 h9 a0 v10).bind fun h11 =>
  (gI 8 7 h11 a1).bind fun v12 =>
  (pI 8 7 h11 a0 v12).bind fun h13 =>
  (gI 8 8 h13 a1).bind fun v14 =>
  (pI 8 8 h13 a0 v14).bind fun h15 =>
  (gI 8 9 h15 a1).bind fun v16 =>
  (pI 8 9 h15 a0 v16).bind fun h17 =>
  (gI 8 10 h17 a1).bind fun v18 =>
  (pI 8 10 h17 a0 v18).bind fun h19 =>
  some h19
set_option maxRecDepth 20000 in
theorem m_X8_become  {a0 : Option Nat} {a1 : Option Nat} {h : AH} {w : AH} (hf : f_X8_become a0 a1 h = some w) : CT yX8_become (wU yX8_become cX8_become 2 none) (rmD 2 0 0) 0 0 [tR a0, tR a1] h (none, w) := by
  refine CT.of (cc := cX8_become) (nL := 2) (ret := none) (by decide) (by simp [lg_sl, vOf_cat, wOf]) ?_
  intro K X
  refine g_locs (lv' := [(0, tR a0), (1, tR a1)]) (fun q hq => hq) ?_
  unfold f_X8_become at hf
  refine g_aload_n X dX8_become_0 0 rfl ?_
  refine g_aload_n X dX8_become_1 1 rfl ?_
  refine g_getI X hf (T := TX8) rfl (by decide) (by decide) in_RX8 tb_141 rfl dX8_become_2 (fun v1 hf => ?_)
  refine g_aload_n X dX8_become_5 1 rfl ?_
  refine g_getI X hf (T := TX8) rfl (by decide) (by decide) in_RX8 tb_144 rfl dX8_become_6 (fun v2 hf => ?_)
  refine g_aload_n X dX8_become_9 1 rfl ?_
  refine g_getI X hf (T := TX8) rfl (by decide) (by decide) in_RX8 tb_148 rfl dX8_become_10 (fun v3 hf => ?_)
  refine g_aload_n X dX8_become_13 1 rfl ?_
  refine g_getI X hf (T := TX8) rfl (by decide) (by decide) in_RX8 tb_152 rfl dX8_become_14 (fun v4 hf => ?_)
  refine g_callV (n := 4) (av := [tI v1, tI v2, tI v3, tI v4]) (rest := []) (k := 8) X hf (fun h5 => (none, h5)) (fun _ q => m_X8_begin q) (gdV tb_1124 tb_565 tb_566 tb_7 tb_567) rfl (by decide +kernel) rfl (by decide) rfl (by decide) (by decide) rfl (Nat.le_of_ble_eq_true rfl) dX8_become_17 (fun h5 hf => ?_)
  refine g_aload_n X dX8_become_20 0 rfl ?_
  refine g_aload_n X dX8_become_21 1 rfl ?_
  refine g_getI X hf (T := TX8) rfl (by decide) (by decide) in_RX8 tb_156 rfl dX8_become_22 (fun v6 hf => ?_)
  refine g_putI X hf (T := TX8) rfl (by decide) (by decide) in_RX8 tyX8 tyX8_ok nmX8 tb_156 rfl rfl rfl dX8_become_25 (fun h7 hf => ?_)
  refine g_aload_n X dX8_become_28 0 rfl ?_
  refine g_aload_n X dX8_become_29 1 rfl ?_
  refine g_getI X hf (T := TX8) rfl (by decide) (by decide) in_RX8 tb_159 rfl dX8_become_30 (fun v8 hf => ?_)
  refine g_putZ X hf (T := TX8) rfl (by decide) (by decide) in_RX8 tyX8 tyX8_ok nmX8 tb_159 rfl rfl rfl dX8_become_33 (fun h9 hf => ?_)
  refine g_aload_n X dX8_become_36 0 rfl ?_
  refine g_aload_n X dX8_become_37 1 rfl ?_
  refine g_getI X hf (T := TX8) rfl (by decide) (by decide) in_RX8 tb_162 rfl dX8_become_38 (fun v10 hf => ?_)
  refine g_putI X hf (T := TX8) rfl (by decide) (by decide) in_RX8 tyX8 tyX8_ok nmX8 tb_162 rfl rfl rfl dX8_become_41 (fun h11 hf => ?_)
  refine g_aload_n X dX8_become_44 0 rfl ?_
  refine g_aload_n X dX8_become_45 1 rfl ?_
  refine g_getI X hf (T := TX8) rfl (by decide) (by decide) in_RX8 tb_165 rfl dX8_become_46 (fun v12 hf => ?_)
  refine g_putI X hf (T := TX8) rfl (by decide) (by decide) in_RX8 tyX8 tyX8_ok nmX8 tb_165 rfl rfl rfl dX8_become_49 (fun h13 hf => ?_)
  refine g_aload_n X dX8_become_52 0 rfl ?_
  refine g_aload_n X dX8_become_53 1 rfl ?_
  refine g_getI X hf (T := TX8) rfl (by decide) (by decide) in_RX8 tb_168 rfl dX8_become_54 (fun v14 hf => ?_)
  refine g_putI X hf (T := TX8) rfl (by decide) (by decide) in_RX8 tyX8 tyX8_ok nmX8 tb_168 rfl rfl rfl dX8_become_57 (fun h15 hf => ?_)
  refine g_aload_n X dX8_become_60 0 rfl ?_
  refine g_aload_n X dX8_become_61 1 rfl ?_
  refine g_getI X hf (T := TX8) rfl (by decide) (by decide) in_RX8 tb_170 rfl dX8_become_62 (fun v16 hf => ?_)
  refine g_putI X hf (T := TX8) rfl (by decide) (by decide) in_RX8 tyX8 tyX8_ok nmX8 tb_170 rfl rfl rfl dX8_become_65 (fun h17 hf => ?_)
  refine g_aload_n X dX8_become_68 0 rfl ?_
  refine g_aload_n X dX8_become_69 1 rfl ?_
  refine g_getI X hf (T := TX8) rfl (by decide) (by decide) in_RX8 tb_172 rfl dX8_become_70 (fun v18 hf => ?_)
  refine g_putI X hf (T := TX8) rfl (by decide) (by decide) in_RX8 tyX8 tyX8_ok nmX8 tb_172 rfl rfl rfl dX8_become_73 (fun h19 hf => ?_)
  exact g_vreturn X (zV hf) (by decide) (by decide) dX8_become_76
def b_X2_becomeNumbered_183    : Nat → Option Nat → Option Nat → Int32 → AH → Option AH
  | 0 => fun _ _ _ _ => none
  | n + 1 => fun x0 x1 x2 h =>
    (gI 2 12 h x0).bind fun v1 =>
    if x2 < v1 then
      (gR 2 11 h x0).bind fun v2 =>
      (aR h v2 x2).bind fun v3 =>
      (gR 2 11 h x1).bind fun v4 =>
      (aR h v4 x2).bind fun v5 =>
      (ck 8 h v3 (f_X8_become v3 v5 h)).bind fun h6 =>
      b_X2_becomeNumbered_183 n x0 x1 (x2 + 1) h6
    else
      some h
set_option maxRecDepth 20000 in
theorem w_X2_becomeNumbered_183 {K : KT} {w : AH}   (X : CX K cX2_becomeNumbered RX2 TB none "becomeNumbered" (rmD 3 0 0) 4 0 0)  : ∀ (n : Nat) (x0 : Option Nat) (x1 : Option Nat) (x2 : Int32) (h : AH), b_X2_becomeNumbered_183 n x0 x1 x2 h = some w → GG K (none, w) 0 0 183 [(0, tR x0), (1, tR x1), (2, tI x2)] [] h := by
  intro n
  induction n with
  | zero =>
    intro x0 x1 x2 h hf
    cases (show none = some w from hf)
  | succ n ih =>
    intro x0 x1 x2 h hf
    rw [b_X2_becomeNumbered_183] at hf
    refine g_iload_n X dX2_becomeNumbered_183 2 rfl ?_
    refine g_aload_n X dX2_becomeNumbered_184 0 rfl ?_
    refine g_getI X hf (T := TX2) rfl (by decide) (by decide) in_RX2 tb_235 rfl dX2_becomeNumbered_185 (fun v1 hf => ?_)
    refine g_icmpge (tgt := 212) X hf dX2_becomeNumbered_188 (by decide) (fun hf => ?_) (fun hf => ?_)
    · refine g_aload_n X dX2_becomeNumbered_191 0 rfl ?_
      refine g_getR X hf (T := TX2) rfl (by decide) (by decide) in_RX2 tb_233 rfl dX2_becomeNumbered_192 (fun v2 hf => ?_)
      refine g_iload_n X dX2_becomeNumbered_195 2 rfl ?_
      refine g_aaload X hf dX2_becomeNumbered_196 (fun v3 hf => ?_)
      refine g_aload_n X dX2_becomeNumbered_197 1 rfl ?_
      refine g_getR X hf (T := TX2) rfl (by decide) (by decide) in_RX2 tb_233 rfl dX2_becomeNumbered_198 (fun v4 hf => ?_)
      refine g_iload_n X dX2_becomeNumbered_201 2 rfl ?_
      refine g_aaload X hf dX2_becomeNumbered_202 (fun v5 hf => ?_)
      refine g_callV (n := 1) (av := [tR v5]) (rest := []) (k := 8) X hf (fun h6 => (none, h6)) (fun _ q => m_X8_become q) (gdV tb_1120 tb_1121 tb_1122 tb_7 tb_1123) rfl (by decide +kernel) rfl (by decide) rfl (by decide) (by decide) rfl (Nat.le_of_ble_eq_true rfl) dX2_becomeNumbered_203 (fun h6 hf => ?_)
      refine g_iinc (v := (x2 + 1)) (lv' := [(0, tR x0), (1, tR x1), (2, tI (x2 + 1))]) X dX2_becomeNumbered_206 2 rfl (by rfl) (by decide) (in_pick [1, 2, 0] rfl) ?_
      refine g_goto (tgt := 183) X dX2_becomeNumbered_209 (by decide) ?_
      exact ih x0 x1 (x2 + 1) h6 hf
    · exact g_vreturn X (zV hf) (by decide) (by decide) dX2_becomeNumbered_212
def b_X2_becomeNumbered_127    : Nat → Option Nat → Option Nat → Int32 → AH → Option AH
  | 0 => fun _ _ _ _ => none
  | n + 1 => fun x0 x1 x2 h =>
    (gI 2 10 h x0).bind fun v1 =>
    if x2 < v1 then
      (gR 2 9 h x1).bind fun v2 =>
      (aR h v2 x2).bind fun v3 =>
      (gR 2 9 h x0).bind fun v4 =>
      (aR h v4 x2).bind fun v5 =>
      (gI 1 0 h v3).bind fun v6 =>
      (gI 1 1 h v3).bind fun v7 =>
      (gI 1 2 h v3).bind fun v8 =>
      (gI 1 3 h v3).bind fun v9 =>
      (ck 1 h v5 (f_X1_begin v5 v6 v7 v8 v9 h)).bind fun h10 =>
      b_X2_becomeNumbered_127 n x0 x1 (x2 + 1) h10
    else
      (gI 2 12 h x1).bind fun v11 =>
      (pI 2 12 h x0 v11).bind fun h12 =>
      b_X2_becomeNumbered_183 FU x0 x1 0 h12
set_option maxRecDepth 20000 in
theorem w_X2_becomeNumbered_127 {K : KT} {w : AH}   (X : CX K cX2_becomeNumbered RX2 TB none "becomeNumbered" (rmD 3 0 0) 4 0 0)  : ∀ (n : Nat) (x0 : Option Nat) (x1 : Option Nat) (x2 : Int32) (h : AH), b_X2_becomeNumbered_127 n x0 x1 x2 h = some w → GG K (none, w) 0 0 127 [(0, tR x0), (1, tR x1), (2, tI x2)] [] h := by
  intro n
  induction n with
  | zero =>
    intro x0 x1 x2 h hf
    cases (show none = some w from hf)
  | succ n ih =>
    intro x0 x1 x2 h hf
    rw [b_X2_becomeNumbered_127] at hf
    refine g_iload_n X dX2_becomeNumbered_127 2 rfl ?_
    refine g_aload_n X dX2_becomeNumbered_128 0 rfl ?_
    refine g_getI X hf (T := TX2) rfl (by decide) (by decide) in_RX2 tb_231 rfl dX2_becomeNumbered_129 (fun v1 hf => ?_)
    refine g_icmpge (tgt := 173) X hf dX2_becomeNumbered_132 (by decide) (fun hf => ?_) (fun hf => ?_)
    · refine g_aload_n X dX2_becomeNumbered_135 1 rfl ?_
      refine g_getR X hf (T := TX2) rfl (by decide) (by decide) in_RX2 tb_229 rfl dX2_becomeNumbered_136 (fun v2 hf => ?_)
      refine g_iload_n X dX2_becomeNumbered_139 2 rfl ?_
      refine g_aaload X hf dX2_becomeNumbered_140 (fun v3 hf => ?_)
      refine g_astore_n (lv' := [(0, tR x0), (1, tR x1), (2, tI x2), (3, tR v3)]) X dX2_becomeNumbered_141 (by decide) (in_pick [1, 2, 3, 0] rfl) ?_
      refine g_aload_n X dX2_becomeNumbered_142 0 rfl ?_
      refine g_getR X hf (T := TX2) rfl (by decide) (by decide) in_RX2 tb_229 rfl dX2_becomeNumbered_143 (fun v4 hf => ?_)
      refine g_iload_n X dX2_becomeNumbered_146 2 rfl ?_
      refine g_aaload X hf dX2_becomeNumbered_147 (fun v5 hf => ?_)
      refine g_aload_n X dX2_becomeNumbered_148 3 rfl ?_
      refine g_getI X hf (T := TX1) rfl (by decide) (by decide) in_RX1 tb_125 rfl dX2_becomeNumbered_149 (fun v6 hf => ?_)
      refine g_aload_n X dX2_becomeNumbered_152 3 rfl ?_
      refine g_getI X hf (T := TX1) rfl (by decide) (by decide) in_RX1 tb_128 rfl dX2_becomeNumbered_153 (fun v7 hf => ?_)
      refine g_aload_n X dX2_becomeNumbered_156 3 rfl ?_
      refine g_getI X hf (T := TX1) rfl (by decide) (by decide) in_RX1 tb_130 rfl dX2_becomeNumbered_157 (fun v8 hf => ?_)
      refine g_aload_n X dX2_becomeNumbered_160 3 rfl ?_
      refine g_getI X hf (T := TX1) rfl (by decide) (by decide) in_RX1 tb_132 rfl dX2_becomeNumbered_161 (fun v9 hf => ?_)
      refine g_callV (n := 4) (av := [tI v6, tI v7, tI v8, tI v9]) (rest := []) (k := 1) X hf (fun h10 => (none, h10)) (fun _ q => m_X1_begin q) (gdV tb_1119 tb_518 tb_519 tb_6 tb_520) rfl (by decide +kernel) rfl (by decide) rfl (by decide) (by decide) rfl (Nat.le_of_ble_eq_true rfl) dX2_becomeNumbered_164 (fun h10 hf => ?_)
      refine g_iinc (v := (x2 + 1)) (lv' := [(0, tR x0), (1, tR x1), (2, tI (x2 + 1)), (3, tR v3)]) X dX2_becomeNumbered_167 2 rfl (by rfl) (by decide) (in_pick [1, 2, 0, 3] rfl) ?_
      refine g_goto (tgt := 127) X dX2_becomeNumbered_170 (by decide) ?_
      refine g_locs (lv' := [(0, tR x0), (1, tR x1), (2, tI (x2 + 1))]) (in_pick [0, 1, 2] rfl) ?_
      exact ih x0 x1 (x2 + 1) h10 hf
    · refine g_aload_n X dX2_becomeNumbered_173 0 rfl ?_
      refine g_aload_n X dX2_becomeNumbered_174 1 rfl ?_
      refine g_getI X hf (T := TX2) rfl (by decide) (by decide) in_RX2 tb_235 rfl dX2_becomeNumbered_175 (fun v11 hf => ?_)
      refine g_putI X hf (T := TX2) rfl (by decide) (by decide) in_RX2 tyX2 tyX2_ok nmX2 tb_235 rfl rfl rfl dX2_becomeNumbered_178 (fun h12 hf => ?_)
      refine g_iconst (v := 0) X dX2_becomeNumbered_181 (by decide) ?_
      refine g_istore_n (lv' := [(0, tR x0), (1, tR x1), (2, tI 0)]) X dX2_becomeNumbered_182 (by decide) (in_pick [1, 2, 0] rfl) ?_
      exact w_X2_becomeNumbered_183 X FU x0 x1 0 h12 hf
def b_X2_becomeNumbered_88    : Nat → Option Nat → Option Nat → Int32 → AH → Option AH
  | 0 => fun _ _ _ _ => none
  | n + 1 => fun x0 x1 x2 h =>
    (gI 2 8 h x0).bind fun v1 =>
    if x2 < v1 then
      (gR 2 7 h x0).bind fun v2 =>
      (aR h v2 x2).bind fun v3 =>
      (gR 2 7 h x1).bind fun v4 =>
      (aR h v4 x2).bind fun v5 =>
      (ck 10 h v3 (f_X10_become v3 v5 h)).bind fun h6 =>
      b_X2_becomeNumbered_88 n x0 x1 (x2 + 1) h6
    else
      (gI 2 10 h x1).bind fun v7 =>
      (pI 2 10 h x0 v7).bind fun h8 =>
      b_X2_becomeNumbered_127 FU x0 x1 0 h8
set_option maxRecDepth 20000 in
theorem w_X2_becomeNumbered_88 {K : KT} {w : AH}   (X : CX K cX2_becomeNumbered RX2 TB none "becomeNumbered" (rmD 3 0 0) 4 0 0)  : ∀ (n : Nat) (x0 : Option Nat) (x1 : Option Nat) (x2 : Int32) (h : AH), b_X2_becomeNumbered_88 n x0 x1 x2 h = some w → GG K (none, w) 0 0 88 [(0, tR x0), (1, tR x1), (2, tI x2)] [] h := by
  intro n
  induction n with
  | zero =>
    intro x0 x1 x2 h hf
    cases (show none = some w from hf)
  | succ n ih =>
    intro x0 x1 x2 h hf
    rw [b_X2_becomeNumbered_88] at hf
    refine g_iload_n X dX2_becomeNumbered_88 2 rfl ?_
    refine g_aload_n X dX2_becomeNumbered_89 0 rfl ?_
    refine g_getI X hf (T := TX2) rfl (by decide) (by decide) in_RX2 tb_227 rfl dX2_becomeNumbered_90 (fun v1 hf => ?_)
    refine g_icmpge (tgt := 117) X hf dX2_becomeNumbered_93 (by decide) (fun hf => ?_) (fun hf => ?_)
    · refine g_aload_n X dX2_becomeNumbered_96 0 rfl ?_
      refine g_getR X hf (T := TX2) rfl (by decide) (by decide) in_RX2 tb_225 rfl dX2_becomeNumbered_97 (fun v2 hf => ?_)
      refine g_iload_n X dX2_becomeNumbered_100 2 rfl ?_
      refine g_aaload X hf dX2_becomeNumbered_101 (fun v3 hf => ?_)
      refine g_aload_n X dX2_becomeNumbered_102 1 rfl ?_
      refine g_getR X hf (T := TX2) rfl (by decide) (by decide) in_RX2 tb_225 rfl dX2_becomeNumbered_103 (fun v4 hf => ?_)
      refine g_iload_n X dX2_becomeNumbered_106 2 rfl ?_
      refine g_aaload X hf dX2_becomeNumbered_107 (fun v5 hf => ?_)
      refine g_callV (n := 1) (av := [tR v5]) (rest := []) (k := 10) X hf (fun h6 => (none, h6)) (fun _ q => m_X10_become q) (gdV tb_1114 tb_1115 tb_1116 tb_5 tb_1117) rfl (by decide +kernel) rfl (by decide) rfl (by decide) (by decide) rfl (Nat.le_of_ble_eq_true rfl) dX2_becomeNumbered_108 (fun h6 hf => ?_)
      refine g_iinc (v := (x2 + 1)) (lv' := [(0, tR x0), (1, tR x1), (2, tI (x2 + 1))]) X dX2_becomeNumbered_111 2 rfl (by rfl) (by decide) (in_pick [1, 2, 0] rfl) ?_
      refine g_goto (tgt := 88) X dX2_becomeNumbered_114 (by decide) ?_
      exact ih x0 x1 (x2 + 1) h6 hf
    · refine g_aload_n X dX2_becomeNumbered_117 0 rfl ?_
      refine g_aload_n X dX2_becomeNumbered_118 1 rfl ?_
      refine g_getI X hf (T := TX2) rfl (by decide) (by decide) in_RX2 tb_231 rfl dX2_becomeNumbered_119 (fun v7 hf => ?_)
      refine g_putI X hf (T := TX2) rfl (by decide) (by decide) in_RX2 tyX2 tyX2_ok nmX2 tb_231 rfl rfl rfl dX2_becomeNumbered_122 (fun h8 hf => ?_)
      refine g_iconst (v := 0) X dX2_becomeNumbered_125 (by decide) ?_
      refine g_istore_n (lv' := [(0, tR x0), (1, tR x1), (2, tI 0)]) X dX2_becomeNumbered_126 (by decide) (in_pick [1, 2, 0] rfl) ?_
      exact w_X2_becomeNumbered_127 X FU x0 x1 0 h8 hf
def b_X2_becomeNumbered_49    : Nat → Option Nat → Option Nat → Int32 → AH → Option AH
  | 0 => fun _ _ _ _ => none
  | n + 1 => fun x0 x1 x2 h =>
    (gI 2 6 h x0).bind fun v1 =>
    if x2 < v1 then
      (gR 2 5 h x0).bind fun v2 =>
      (aR h v2 x2).bind fun v3 =>
      (gR 2 5 h x1).bind fun v4 =>
      (aR h v4 x2).bind fun v5 =>
      (ck 5 h v3 (f_X5_become v3 v5 h)).bind fun h6 =>
      b_X2_becomeNumbered_49 n x0 x1 (x2 + 1) h6
    else
      (gI 2 8 h x1).bind fun v7 =>
      (pI 2 8 h x0 v7).bind fun h8 =>
      b_X2_becomeNumbered_88 FU x0 x1 0 h8
set_option maxRecDepth 20000 in
theorem w_X2_becomeNumbered_49 {K : KT} {w : AH}   (X : CX K cX2_becomeNumbered RX2 TB none "becomeNumbered" (rmD 3 0 0) 4 0 0)  : ∀ (n : Nat) (x0 : Option Nat) (x1 : Option Nat) (x2 : Int32) (h : AH), b_X2_becomeNumbered_49 n x0 x1 x2 h = some w → GG K (none, w) 0 0 49 [(0, tR x0), (1, tR x1), (2, tI x2)] [] h := by
  intro n
  induction n with
  | zero =>
    intro x0 x1 x2 h hf
    cases (show none = some w from hf)
  | succ n ih =>
    intro x0 x1 x2 h hf
    rw [b_X2_becomeNumbered_49] at hf
    refine g_iload_n X dX2_becomeNumbered_49 2 rfl ?_
    refine g_aload_n X dX2_becomeNumbered_50 0 rfl ?_
    refine g_getI X hf (T := TX2) rfl (by decide) (by decide) in_RX2 tb_223 rfl dX2_becomeNumbered_51 (fun v1 hf => ?_)
    refine g_icmpge (tgt := 78) X hf dX2_becomeNumbered_54 (by decide) (fun hf => ?_) (fun hf => ?_)
    · refine g_aload_n X dX2_becomeNumbered_57 0 rfl ?_
      refine g_getR X hf (T := TX2) rfl (by decide) (by decide) in_RX2 tb_221 rfl dX2_becomeNumbered_58 (fun v2 hf => ?_)
      refine g_iload_n X dX2_becomeNumbered_61 2 rfl ?_
      refine g_aaload X hf dX2_becomeNumbered_62 (fun v3 hf => ?_)
      refine g_aload_n X dX2_becomeNumbered_63 1 rfl ?_
      refine g_getR X hf (T := TX2) rfl (by decide) (by decide) in_RX2 tb_221 rfl dX2_becomeNumbered_64 (fun v4 hf => ?_)
      refine g_iload_n X dX2_becomeNumbered_67 2 rfl ?_
      refine g_aaload X hf dX2_becomeNumbered_68 (fun v5 hf => ?_)
      refine g_callV (n := 1) (av := [tR v5]) (rest := []) (k := 5) X hf (fun h6 => (none, h6)) (fun _ q => m_X5_become q) (gdV tb_1108 tb_1109 tb_1110 tb_4 tb_1111) rfl (by decide +kernel) rfl (by decide) rfl (by decide) (by decide) rfl (Nat.le_of_ble_eq_true rfl) dX2_becomeNumbered_69 (fun h6 hf => ?_)
      refine g_iinc (v := (x2 + 1)) (lv' := [(0, tR x0), (1, tR x1), (2, tI (x2 + 1))]) X dX2_becomeNumbered_72 2 rfl (by rfl) (by decide) (in_pick [1, 2, 0] rfl) ?_
      refine g_goto (tgt := 49) X dX2_becomeNumbered_75 (by decide) ?_
      exact ih x0 x1 (x2 + 1) h6 hf
    · refine g_aload_n X dX2_becomeNumbered_78 0 rfl ?_
      refine g_aload_n X dX2_becomeNumbered_79 1 rfl ?_
      refine g_getI X hf (T := TX2) rfl (by decide) (by decide) in_RX2 tb_227 rfl dX2_becomeNumbered_80 (fun v7 hf => ?_)
      refine g_putI X hf (T := TX2) rfl (by decide) (by decide) in_RX2 tyX2 tyX2_ok nmX2 tb_227 rfl rfl rfl dX2_becomeNumbered_83 (fun h8 hf => ?_)
      refine g_iconst (v := 0) X dX2_becomeNumbered_86 (by decide) ?_
      refine g_istore_n (lv' := [(0, tR x0), (1, tR x1), (2, tI 0)]) X dX2_becomeNumbered_87 (by decide) (in_pick [1, 2, 0] rfl) ?_
      exact w_X2_becomeNumbered_88 X FU x0 x1 0 h8 hf
def b_X2_becomeNumbered_10    : Nat → Option Nat → Option Nat → Int32 → AH → Option AH
  | 0 => fun _ _ _ _ => none
  | n + 1 => fun x0 x1 x2 h =>
    (gI 2 4 h x0).bind fun v1 =>
    if x2 < v1 then
      (gR 2 3 h x0).bind fun v2 =>
      (aR h v2 x2).bind fun v3 =>
      (gR 2 3 h x1).bind fun v4 =>
      (aR h v4 x2).bind fun v5 =>
      (ck 9 h v3 (f_X9_become v3 v5 h)).bind fun h6 =>
      b_X2_becomeNumbered_10 n x0 x1 (x2 + 1) h6
    else
      (gI 2 6 h x1).bind fun v7 =>
      (pI 2 6 h x0 v7).bind fun h8 =>
      b_X2_becomeNumbered_49 FU x0 x1 0 h8
set_option maxRecDepth 20000 in
theorem w_X2_becomeNumbered_10 {K : KT} {w : AH}   (X : CX K cX2_becomeNumbered RX2 TB none "becomeNumbered" (rmD 3 0 0) 4 0 0)  : ∀ (n : Nat) (x0 : Option Nat) (x1 : Option Nat) (x2 : Int32) (h : AH), b_X2_becomeNumbered_10 n x0 x1 x2 h = some w → GG K (none, w) 0 0 10 [(0, tR x0), (1, tR x1), (2, tI x2)] [] h := by
  intro n
  induction n with
  | zero =>
    intro x0 x1 x2 h hf
    cases (show none = some w from hf)
  | succ n ih =>
    intro x0 x1 x2 h hf
    rw [b_X2_becomeNumbered_10] at hf
    refine g_iload_n X dX2_becomeNumbered_10 2 rfl ?_
    refine g_aload_n X dX2_becomeNumbered_11 0 rfl ?_
    refine g_getI X hf (T := TX2) rfl (by decide) (by decide) in_RX2 tb_219 rfl dX2_becomeNumbered_12 (fun v1 hf => ?_)
    refine g_icmpge (tgt := 39) X hf dX2_becomeNumbered_15 (by decide) (fun hf => ?_) (fun hf => ?_)
    · refine g_aload_n X dX2_becomeNumbered_18 0 rfl ?_
      refine g_getR X hf (T := TX2) rfl (by decide) (by decide) in_RX2 tb_217 rfl dX2_becomeNumbered_19 (fun v2 hf => ?_)
      refine g_iload_n X dX2_becomeNumbered_22 2 rfl ?_
      refine g_aaload X hf dX2_becomeNumbered_23 (fun v3 hf => ?_)
      refine g_aload_n X dX2_becomeNumbered_24 1 rfl ?_
      refine g_getR X hf (T := TX2) rfl (by decide) (by decide) in_RX2 tb_217 rfl dX2_becomeNumbered_25 (fun v4 hf => ?_)
      refine g_iload_n X dX2_becomeNumbered_28 2 rfl ?_
      refine g_aaload X hf dX2_becomeNumbered_29 (fun v5 hf => ?_)
      refine g_callV (n := 1) (av := [tR v5]) (rest := []) (k := 9) X hf (fun h6 => (none, h6)) (fun _ q => m_X9_become q) (gdV tb_1103 tb_1104 tb_1105 tb_3 tb_1106) rfl (by decide +kernel) rfl (by decide) rfl (by decide) (by decide) rfl (Nat.le_of_ble_eq_true rfl) dX2_becomeNumbered_30 (fun h6 hf => ?_)
      refine g_iinc (v := (x2 + 1)) (lv' := [(0, tR x0), (1, tR x1), (2, tI (x2 + 1))]) X dX2_becomeNumbered_33 2 rfl (by rfl) (by decide) (in_pick [1, 2, 0] rfl) ?_
      refine g_goto (tgt := 10) X dX2_becomeNumbered_36 (by decide) ?_
      exact ih x0 x1 (x2 + 1) h6 hf
    · refine g_aload_n X dX2_becomeNumbered_39 0 rfl ?_
      refine g_aload_n X dX2_becomeNumbered_40 1 rfl ?_
      refine g_getI X hf (T := TX2) rfl (by decide) (by decide) in_RX2 tb_223 rfl dX2_becomeNumbered_41 (fun v7 hf => ?_)
      refine g_putI X hf (T := TX2) rfl (by decide) (by decide) in_RX2 tyX2 tyX2_ok nmX2 tb_223 rfl rfl rfl dX2_becomeNumbered_44 (fun h8 hf => ?_)
      refine g_iconst (v := 0) X dX2_becomeNumbered_47 (by decide) ?_
      refine g_istore_n (lv' := [(0, tR x0), (1, tR x1), (2, tI 0)]) X dX2_becomeNumbered_48 (by decide) (in_pick [1, 2, 0] rfl) ?_
      exact w_X2_becomeNumbered_49 X FU x0 x1 0 h8 hf
def f_X2_becomeNumbered  (a0 : Option Nat) (a1 : Option Nat) (h : AH) : Option AH :=
  (gI 2 4 h a1).bind fun v1 =>
  (pI 2 4 h a0 v1).bind fun h2 =>
  b_X2_becomeNumbered_10 FU a0 a1 0 h2
set_option maxRecDepth 20000 in
theorem m_X2_becomeNumbered  {a0 : Option Nat} {a1 : Option Nat} {h : AH} {w : AH} (hf : f_X2_becomeNumbered a0 a1 h = some w) : CT yX2_becomeNumbered (wU yX2_becomeNumbered cX2_becomeNumbered 4 none) (rmD 3 0 0) 0 0 [tR a0, tR a1] h (none, w) := by
  refine CT.of (cc := cX2_becomeNumbered) (nL := 4) (ret := none) (by decide) (by simp [lg_sl, vOf_cat, wOf]) ?_
  intro K X
  refine g_locs (lv' := [(0, tR a0), (1, tR a1)]) (fun q hq => hq) ?_
  unfold f_X2_becomeNumbered at hf
  refine g_aload_n X dX2_becomeNumbered_0 0 rfl ?_
  refine g_aload_n X dX2_becomeNumbered_1 1 rfl ?_
  refine g_getI X hf (T := TX2) rfl (by decide) (by decide) in_RX2 tb_219 rfl dX2_becomeNumbered_2 (fun v1 hf => ?_)
  refine g_putI X hf (T := TX2) rfl (by decide) (by decide) in_RX2 tyX2 tyX2_ok nmX2 tb_219 rfl rfl rfl dX2_becomeNumbered_5 (fun h2 hf => ?_)
  refine g_iconst (v := 0) X dX2_becomeNumbered_8 (by decide) ?_
  refine g_istore_n (lv' := [(0, tR a0), (1, tR a1), (2, tI 0)]) X dX2_becomeNumbered_9 (by decide) (in_pick [1, 2, 0] rfl) ?_
  exact w_X2_becomeNumbered_10 X FU a0 a1 0 h2 hf
def b_X2_become_109    : Nat → Option Nat → Option Nat → Int32 → AH → Option AH
  | 0 => fun _ _ _ _ => none
  | n + 1 => fun x0 x1 x2 h =>
    if x2 < 4 then
      (gR 2 13 h x0).bind fun v1 =>
      (aR h v1 x2).bind fun v2 =>
      (gR 2 13 h x1).bind fun v3 =>
      (aR h v3 x2).bind fun v4 =>
      (ck 3 h v2 (f_X3_become v2 v4 h)).bind fun h5 =>
      b_X2_become_109 n x0 x1 (x2 + 1) h5
    else
      (ck 2 h x0 (f_X2_becomeNumbered x0 x1 h)).bind fun h6 =>
      some h6
set_option maxRecDepth 20000 in
theorem w_X2_become_109 {K : KT} {w : AH}   (X : CX K cX2_become RX2 TB none "become" (rmD 4 0 0) 3 0 0)  : ∀ (n : Nat) (x0 : Option Nat) (x1 : Option Nat) (x2 : Int32) (h : AH), b_X2_become_109 n x0 x1 x2 h = some w → GG K (none, w) 0 0 109 [(0, tR x0), (1, tR x1), (2, tI x2)] [] h := by
  intro n
  induction n with
  | zero =>
    intro x0 x1 x2 h hf
    cases (show none = some w from hf)
  | succ n ih =>
    intro x0 x1 x2 h hf
    rw [b_X2_become_109] at hf
    refine g_iload_n X dX2_become_109 2 rfl ?_
    refine g_iconst (v := 4) X dX2_become_110 (by decide) ?_
    refine g_icmpge (tgt := 135) X hf dX2_become_111 (by decide) (fun hf => ?_) (fun hf => ?_)
    · refine g_aload_n X dX2_become_114 0 rfl ?_
      refine g_getR X hf (T := TX2) rfl (by decide) (by decide) in_RX2 tb_237 rfl dX2_become_115 (fun v1 hf => ?_)
      refine g_iload_n X dX2_become_118 2 rfl ?_
      refine g_aaload X hf dX2_become_119 (fun v2 hf => ?_)
      refine g_aload_n X dX2_become_120 1 rfl ?_
      refine g_getR X hf (T := TX2) rfl (by decide) (by decide) in_RX2 tb_237 rfl dX2_become_121 (fun v3 hf => ?_)
      refine g_iload_n X dX2_become_124 2 rfl ?_
      refine g_aaload X hf dX2_become_125 (fun v4 hf => ?_)
      refine g_callV (n := 1) (av := [tR v4]) (rest := []) (k := 3) X hf (fun h5 => (none, h5)) (fun _ q => m_X3_become q) (gdV tb_1099 tb_765 tb_766 tb_8 tb_767) rfl (by decide +kernel) rfl (by decide) rfl (by decide) (by decide) rfl (Nat.le_of_ble_eq_true rfl) dX2_become_126 (fun h5 hf => ?_)
      refine g_iinc (v := (x2 + 1)) (lv' := [(0, tR x0), (1, tR x1), (2, tI (x2 + 1))]) X dX2_become_129 2 rfl (by rfl) (by decide) (in_pick [1, 2, 0] rfl) ?_
      refine g_goto (tgt := 109) X dX2_become_132 (by decide) ?_
      exact ih x0 x1 (x2 + 1) h5 hf
    · refine g_aload_n X dX2_become_135 0 rfl ?_
      refine g_aload_n X dX2_become_136 1 rfl ?_
      refine g_callV (n := 1) (av := [tR x1]) (rest := []) (k := 2) X hf (fun h6 => (none, h6)) (fun _ q => m_X2_becomeNumbered q) (gdV tb_1100 tb_1101 tb_1686 tb_2 tb_1102) rfl (by decide +kernel) rfl (by decide) rfl (by decide) (by decide) rfl (Nat.le_of_ble_eq_true rfl) dX2_become_137 (fun h6 hf => ?_)
      exact g_vreturn X (zV hf) (by decide) (by decide) dX2_become_140
def b_X2_become_55    : Nat → Option Nat → Option Nat → Int32 → AH → Option AH
  | 0 => fun _ _ _ _ => none
  | n + 1 => fun x0 x1 x2 h =>
    if x2 < 2 then
      (gR 2 16 h x1).bind fun v1 =>
      (aR h v1 x2).bind fun v2 =>
      (gR 2 16 h x0).bind fun v3 =>
      (aR h v3 x2).bind fun v4 =>
      (cpA h v2 0 v4 0 5).bind fun h5 =>
      b_X2_become_55 n x0 x1 (x2 + 1) h5
    else
      (gI 2 18 h x1).bind fun v6 =>
      (pI 2 18 h x0 v6).bind fun h7 =>
      (gR 2 17 h7 x1).bind fun v8 =>
      (gR 2 17 h7 x0).bind fun v9 =>
      (cpA h7 v8 0 v9 0 9).bind fun h10 =>
      b_X2_become_109 FU x0 x1 0 h10
set_option maxRecDepth 20000 in
theorem w_X2_become_55 {K : KT} {w : AH}   (X : CX K cX2_become RX2 TB none "become" (rmD 4 0 0) 3 0 0)  : ∀ (n : Nat) (x0 : Option Nat) (x1 : Option Nat) (x2 : Int32) (h : AH), b_X2_become_55 n x0 x1 x2 h = some w → GG K (none, w) 0 0 55 [(0, tR x0), (1, tR x1), (2, tI x2)] [] h := by
  intro n
  induction n with
  | zero =>
    intro x0 x1 x2 h hf
    cases (show none = some w from hf)
  | succ n ih =>
    intro x0 x1 x2 h hf
    rw [b_X2_become_55] at hf
    refine g_iload_n X dX2_become_55 2 rfl ?_
    refine g_iconst (v := 2) X dX2_become_56 (by decide) ?_
    refine g_icmpge (tgt := 84) X hf dX2_become_57 (by decide) (fun hf => ?_) (fun hf => ?_)
    · refine g_aload_n X dX2_become_60 1 rfl ?_
      refine g_getR X hf (T := TX2) rfl (by decide) (by decide) in_RX2 tb_243 rfl dX2_become_61 (fun v1 hf => ?_)
      refine g_iload_n X dX2_become_64 2 rfl ?_
      refine g_aaload X hf dX2_become_65 (fun v2 hf => ?_)
      refine g_iconst (v := 0) X dX2_become_66 (by decide) ?_
      refine g_aload_n X dX2_become_67 0 rfl ?_
      refine g_getR X hf (T := TX2) rfl (by decide) (by decide) in_RX2 tb_243 rfl dX2_become_68 (fun v3 hf => ?_)
      refine g_iload_n X dX2_become_71 2 rfl ?_
      refine g_aaload X hf dX2_become_72 (fun v4 hf => ?_)
      refine g_iconst (v := 0) X dX2_become_73 (by decide) ?_
      refine g_iconst (v := 5) X dX2_become_74 (by decide) ?_
      refine g_copy X hf tb_1098 tb_770 tb_769 tb_19 ⟨Nat.le_of_ble_eq_true rfl, Nat.le_of_ble_eq_true rfl⟩ dX2_become_75 (fun h5 hf => ?_)
      refine g_iinc (v := (x2 + 1)) (lv' := [(0, tR x0), (1, tR x1), (2, tI (x2 + 1))]) X dX2_become_78 2 rfl (by rfl) (by decide) (in_pick [1, 2, 0] rfl) ?_
      refine g_goto (tgt := 55) X dX2_become_81 (by decide) ?_
      exact ih x0 x1 (x2 + 1) h5 hf
    · refine g_aload_n X dX2_become_84 0 rfl ?_
      refine g_aload_n X dX2_become_85 1 rfl ?_
      refine g_getI X hf (T := TX2) rfl (by decide) (by decide) in_RX2 tb_247 rfl dX2_become_86 (fun v6 hf => ?_)
      refine g_putI X hf (T := TX2) rfl (by decide) (by decide) in_RX2 tyX2 tyX2_ok nmX2 tb_247 rfl rfl rfl dX2_become_89 (fun h7 hf => ?_)
      refine g_aload_n X dX2_become_92 1 rfl ?_
      refine g_getR X hf (T := TX2) rfl (by decide) (by decide) in_RX2 tb_245 rfl dX2_become_93 (fun v8 hf => ?_)
      refine g_iconst (v := 0) X dX2_become_96 (by decide) ?_
      refine g_aload_n X dX2_become_97 0 rfl ?_
      refine g_getR X hf (T := TX2) rfl (by decide) (by decide) in_RX2 tb_245 rfl dX2_become_98 (fun v9 hf => ?_)
      refine g_iconst (v := 0) X dX2_become_101 (by decide) ?_
      refine g_bipush (v := 9) X dX2_become_102 (by decide) ?_
      refine g_copy X hf tb_1098 tb_770 tb_769 tb_19 ⟨Nat.le_of_ble_eq_true rfl, Nat.le_of_ble_eq_true rfl⟩ dX2_become_104 (fun h10 hf => ?_)
      refine g_iconst (v := 0) X dX2_become_107 (by decide) ?_
      refine g_istore_n (lv' := [(0, tR x0), (1, tR x1), (2, tI 0)]) X dX2_become_108 (by decide) (in_pick [1, 2, 0] rfl) ?_
      exact w_X2_become_109 X FU x0 x1 0 h10 hf
def f_X2_become  (a0 : Option Nat) (a1 : Option Nat) (h : AH) : Option AH :=
  (gI 2 0 h a1).bind fun v1 =>
  (pI 2 0 h a0 v1).bind fun h2 =>
  (gI 2 2 h2 a1).bind fun v3 =>
  (pI 2 2 h2 a0 v3).bind fun h4 =>
  (gR 2 1 h4 a1).bind fun v5 =>
  (gR 2 1 h4 a0).bind fun v6 =>
  (cpA h4 v5 0 v6 0 20).bind fun h7 =>
  (gI 2 14 h7 a1).bind fun v8 =>
  (pI 2 14 h7 a0 v8).bind fun h9 =>
  (gR 2 15 h9 a1).bind fun v10 =>
  (gR 2 15 h9 a0).bind fun v11 =>
  (cpA h9 v10 0 v11 0 4).bind fun h12 =>
  b_X2_become_55 FU a0 a1 0 h12
set_option maxRecDepth 20000 in
theorem m_X2_become  {a0 : Option Nat} {a1 : Option Nat} {h : AH} {w : AH} (hf : f_X2_become a0 a1 h = some w) : CT yX2_become (wU yX2_become cX2_become 3 none) (rmD 4 0 0) 0 0 [tR a0, tR a1] h (none, w) := by
  refine CT.of (cc := cX2_become) (nL := 3) (ret := none) (by decide) (by simp [lg_sl, vOf_cat, wOf]) ?_
  intro K X
  refine g_locs (lv' := [(0, tR a0), (1, tR a1)]) (fun q hq => hq) ?_
  unfold f_X2_become at hf
  refine g_aload_n X dX2_become_0 0 rfl ?_
  refine g_aload_n X dX2_become_1 1 rfl ?_
  refine g_getI X hf (T := TX2) rfl (by decide) (by decide) in_RX2 tb_211 rfl dX2_become_2 (fun v1 hf => ?_)
  refine g_putI X hf (T := TX2) rfl (by decide) (by decide) in_RX2 tyX2 tyX2_ok nmX2 tb_211 rfl rfl rfl dX2_become_5 (fun h2 hf => ?_)
  refine g_aload_n X dX2_become_8 0 rfl ?_
  refine g_aload_n X dX2_become_9 1 rfl ?_
  refine g_getI X hf (T := TX2) rfl (by decide) (by decide) in_RX2 tb_215 rfl dX2_become_10 (fun v3 hf => ?_)
  refine g_putI X hf (T := TX2) rfl (by decide) (by decide) in_RX2 tyX2 tyX2_ok nmX2 tb_215 rfl rfl rfl dX2_become_13 (fun h4 hf => ?_)
  refine g_aload_n X dX2_become_16 1 rfl ?_
  refine g_getR X hf (T := TX2) rfl (by decide) (by decide) in_RX2 tb_213 rfl dX2_become_17 (fun v5 hf => ?_)
  refine g_iconst (v := 0) X dX2_become_20 (by decide) ?_
  refine g_aload_n X dX2_become_21 0 rfl ?_
  refine g_getR X hf (T := TX2) rfl (by decide) (by decide) in_RX2 tb_213 rfl dX2_become_22 (fun v6 hf => ?_)
  refine g_iconst (v := 0) X dX2_become_25 (by decide) ?_
  refine g_bipush (v := 20) X dX2_become_26 (by decide) ?_
  refine g_copy X hf tb_1098 tb_770 tb_769 tb_19 ⟨Nat.le_of_ble_eq_true rfl, Nat.le_of_ble_eq_true rfl⟩ dX2_become_28 (fun h7 hf => ?_)
  refine g_aload_n X dX2_become_31 0 rfl ?_
  refine g_aload_n X dX2_become_32 1 rfl ?_
  refine g_getI X hf (T := TX2) rfl (by decide) (by decide) in_RX2 tb_239 rfl dX2_become_33 (fun v8 hf => ?_)
  refine g_putI X hf (T := TX2) rfl (by decide) (by decide) in_RX2 tyX2 tyX2_ok nmX2 tb_239 rfl rfl rfl dX2_become_36 (fun h9 hf => ?_)
  refine g_aload_n X dX2_become_39 1 rfl ?_
  refine g_getR X hf (T := TX2) rfl (by decide) (by decide) in_RX2 tb_241 rfl dX2_become_40 (fun v10 hf => ?_)
  refine g_iconst (v := 0) X dX2_become_43 (by decide) ?_
  refine g_aload_n X dX2_become_44 0 rfl ?_
  refine g_getR X hf (T := TX2) rfl (by decide) (by decide) in_RX2 tb_241 rfl dX2_become_45 (fun v11 hf => ?_)
  refine g_iconst (v := 0) X dX2_become_48 (by decide) ?_
  refine g_iconst (v := 4) X dX2_become_49 (by decide) ?_
  refine g_copy X hf tb_1098 tb_770 tb_769 tb_19 ⟨Nat.le_of_ble_eq_true rfl, Nat.le_of_ble_eq_true rfl⟩ dX2_become_50 (fun h12 hf => ?_)
  refine g_iconst (v := 0) X dX2_become_53 (by decide) ?_
  refine g_istore_n (lv' := [(0, tR a0), (1, tR a1), (2, tI 0)]) X dX2_become_54 (by decide) (in_pick [1, 2, 0] rfl) ?_
  exact w_X2_become_55 X FU a0 a1 0 h12 hf
def f_X2_hasWard  (a0 : Option Nat) (a1 : Int32) (h : AH) : Option Int32 :=
  if a1 < 0 then
    some 0
  else
    (gI 2 4 h a0).bind fun v1 =>
    if a1 < v1 then
      some 1
    else
      some 0
set_option maxRecDepth 20000 in
theorem m_X2_hasWard  {a0 : Option Nat} {a1 : Int32} {h : AH} {w : Int32} (hf : f_X2_hasWard a0 a1 h = some w) : CT yX2_hasWard (wU yX2_hasWard cX2_hasWard 2 (some .boolean)) (rmD 1 0 0) 0 0 [tR a0, tI a1] h (some (tI w), h) := by
  refine CT.of (cc := cX2_hasWard) (nL := 2) (ret := (some .boolean)) (by decide) (by simp [lg_sl, vOf_cat, wOf]) ?_
  intro K X
  refine g_locs (lv' := [(0, tR a0), (1, tI a1)]) (fun q hq => hq) ?_
  unfold f_X2_hasWard at hf
  refine g_iload_n X dX2_hasWard_0 1 rfl ?_
  refine g_iflt (tgt := 16) X hf dX2_hasWard_1 (by decide) (fun hf => ?_) (fun hf => ?_)
  · refine g_iconst (v := 0) X dX2_hasWard_16 (by decide) ?_
    exact g_zreturn X (zP hf) (by decide) (by decide) (by decide) dX2_hasWard_17
  · refine g_iload_n X dX2_hasWard_4 1 rfl ?_
    refine g_aload_n X dX2_hasWard_5 0 rfl ?_
    refine g_getI X hf (T := TX2) rfl (by decide) (by decide) in_RX2 tb_219 rfl dX2_hasWard_6 (fun v1 hf => ?_)
    refine g_icmpge (tgt := 16) X hf dX2_hasWard_9 (by decide) (fun hf => ?_) (fun hf => ?_)
    · refine g_iconst (v := 1) X dX2_hasWard_12 (by decide) ?_
      refine g_goto (tgt := 17) X dX2_hasWard_13 (by decide) ?_
      exact g_zreturn X (zP hf) (by decide) (by decide) (by decide) dX2_hasWard_17
    · refine g_iconst (v := 0) X dX2_hasWard_16 (by decide) ?_
      exact g_zreturn X (zP hf) (by decide) (by decide) (by decide) dX2_hasWard_17
def f_X2_hasMan  (a0 : Option Nat) (a1 : Int32) (h : AH) : Option Int32 :=
  if a1 < 0 then
    some 0
  else
    (gI 2 6 h a0).bind fun v1 =>
    if a1 < v1 then
      some 1
    else
      some 0
set_option maxRecDepth 20000 in
theorem m_X2_hasMan  {a0 : Option Nat} {a1 : Int32} {h : AH} {w : Int32} (hf : f_X2_hasMan a0 a1 h = some w) : CT yX2_hasMan (wU yX2_hasMan cX2_hasMan 2 (some .boolean)) (rmD 1 0 0) 0 0 [tR a0, tI a1] h (some (tI w), h) := by
  refine CT.of (cc := cX2_hasMan) (nL := 2) (ret := (some .boolean)) (by decide) (by simp [lg_sl, vOf_cat, wOf]) ?_
  intro K X
  refine g_locs (lv' := [(0, tR a0), (1, tI a1)]) (fun q hq => hq) ?_
  unfold f_X2_hasMan at hf
  refine g_iload_n X dX2_hasMan_0 1 rfl ?_
  refine g_iflt (tgt := 16) X hf dX2_hasMan_1 (by decide) (fun hf => ?_) (fun hf => ?_)
  · refine g_iconst (v := 0) X dX2_hasMan_16 (by decide) ?_
    exact g_zreturn X (zP hf) (by decide) (by decide) (by decide) dX2_hasMan_17
  · refine g_iload_n X dX2_hasMan_4 1 rfl ?_
    refine g_aload_n X dX2_hasMan_5 0 rfl ?_
    refine g_getI X hf (T := TX2) rfl (by decide) (by decide) in_RX2 tb_223 rfl dX2_hasMan_6 (fun v1 hf => ?_)
    refine g_icmpge (tgt := 16) X hf dX2_hasMan_9 (by decide) (fun hf => ?_) (fun hf => ?_)
    · refine g_iconst (v := 1) X dX2_hasMan_12 (by decide) ?_
      refine g_goto (tgt := 17) X dX2_hasMan_13 (by decide) ?_
      exact g_zreturn X (zP hf) (by decide) (by decide) (by decide) dX2_hasMan_17
    · refine g_iconst (v := 0) X dX2_hasMan_16 (by decide) ?_
      exact g_zreturn X (zP hf) (by decide) (by decide) (by decide) dX2_hasMan_17
def f_X2_hasBargain  (a0 : Option Nat) (a1 : Int32) (h : AH) : Option Int32 :=
  if a1 < 0 then
    some 0
  else
    (gI 2 10 h a0).bind fun v1 =>
    if a1 < v1 then
      some 1
    else
      some 0
set_option maxRecDepth 20000 in
theorem m_X2_hasBargain  {a0 : Option Nat} {a1 : Int32} {h : AH} {w : Int32} (hf : f_X2_hasBargain a0 a1 h = some w) : CT yX2_hasBargain (wU yX2_hasBargain cX2_hasBargain 2 (some .boolean)) (rmD 1 0 0) 0 0 [tR a0, tI a1] h (some (tI w), h) := by
  refine CT.of (cc := cX2_hasBargain) (nL := 2) (ret := (some .boolean)) (by decide) (by simp [lg_sl, vOf_cat, wOf]) ?_
  intro K X
  refine g_locs (lv' := [(0, tR a0), (1, tI a1)]) (fun q hq => hq) ?_
  unfold f_X2_hasBargain at hf
  refine g_iload_n X dX2_hasBargain_0 1 rfl ?_
  refine g_iflt (tgt := 16) X hf dX2_hasBargain_1 (by decide) (fun hf => ?_) (fun hf => ?_)
  · refine g_iconst (v := 0) X dX2_hasBargain_16 (by decide) ?_
    exact g_zreturn X (zP hf) (by decide) (by decide) (by decide) dX2_hasBargain_17
  · refine g_iload_n X dX2_hasBargain_4 1 rfl ?_
    refine g_aload_n X dX2_hasBargain_5 0 rfl ?_
    refine g_getI X hf (T := TX2) rfl (by decide) (by decide) in_RX2 tb_231 rfl dX2_hasBargain_6 (fun v1 hf => ?_)
    refine g_icmpge (tgt := 16) X hf dX2_hasBargain_9 (by decide) (fun hf => ?_) (fun hf => ?_)
    · refine g_iconst (v := 1) X dX2_hasBargain_12 (by decide) ?_
      refine g_goto (tgt := 17) X dX2_hasBargain_13 (by decide) ?_
      exact g_zreturn X (zP hf) (by decide) (by decide) (by decide) dX2_hasBargain_17
    · refine g_iconst (v := 0) X dX2_hasBargain_16 (by decide) ?_
      exact g_zreturn X (zP hf) (by decide) (by decide) (by decide) dX2_hasBargain_17
def f_X2_hasSherd  (a0 : Option Nat) (a1 : Int32) (h : AH) : Option Int32 :=
  if a1 < 0 then
    some 0
  else
    (gI 2 12 h a0).bind fun v1 =>
    if a1 < v1 then
      some 1
    else
      some 0
set_option maxRecDepth 20000 in
theorem m_X2_hasSherd  {a0 : Option Nat} {a1 : Int32} {h : AH} {w : Int32} (hf : f_X2_hasSherd a0 a1 h = some w) : CT yX2_hasSherd (wU yX2_hasSherd cX2_hasSherd 2 (some .boolean)) (rmD 1 0 0) 0 0 [tR a0, tI a1] h (some (tI w), h) := by
  refine CT.of (cc := cX2_hasSherd) (nL := 2) (ret := (some .boolean)) (by decide) (by simp [lg_sl, vOf_cat, wOf]) ?_
  intro K X
  refine g_locs (lv' := [(0, tR a0), (1, tI a1)]) (fun q hq => hq) ?_
  unfold f_X2_hasSherd at hf
  refine g_iload_n X dX2_hasSherd_0 1 rfl ?_
  refine g_iflt (tgt := 16) X hf dX2_hasSherd_1 (by decide) (fun hf => ?_) (fun hf => ?_)
  · refine g_iconst (v := 0) X dX2_hasSherd_16 (by decide) ?_
    exact g_zreturn X (zP hf) (by decide) (by decide) (by decide) dX2_hasSherd_17
  · refine g_iload_n X dX2_hasSherd_4 1 rfl ?_
    refine g_aload_n X dX2_hasSherd_5 0 rfl ?_
    refine g_getI X hf (T := TX2) rfl (by decide) (by decide) in_RX2 tb_235 rfl dX2_hasSherd_6 (fun v1 hf => ?_)
    refine g_icmpge (tgt := 16) X hf dX2_hasSherd_9 (by decide) (fun hf => ?_) (fun hf => ?_)
    · refine g_iconst (v := 1) X dX2_hasSherd_12 (by decide) ?_
      refine g_goto (tgt := 17) X dX2_hasSherd_13 (by decide) ?_
      exact g_zreturn X (zP hf) (by decide) (by decide) (by decide) dX2_hasSherd_17
    · refine g_iconst (v := 0) X dX2_hasSherd_16 (by decide) ?_
      exact g_zreturn X (zP hf) (by decide) (by decide) (by decide) dX2_hasSherd_17
def f_X2_areTwoMen  (a0 : Option Nat) (a1 : Int32) (a2 : Int32) (h : AH) : Option Int32 :=
  (ck 2 h a0 (f_X2_hasMan a0 a1 h)).bind fun v1 =>
  if v1 = 0 then
    some 0
  else
    (ck 2 h a0 (f_X2_hasMan a0 a2 h)).bind fun v2 =>
    if v2 = 0 then
      some 0
    else
      if a1 = a2 then
        some 0
      else
        some 1
set_option maxRecDepth 20000 in
theorem m_X2_areTwoMen  {a0 : Option Nat} {a1 : Int32} {a2 : Int32} {h : AH} {w : Int32} (hf : f_X2_areTwoMen a0 a1 a2 h = some w) : CT yX2_areTwoMen (wU yX2_areTwoMen cX2_areTwoMen 3 (some .boolean)) (rmD 2 0 0) 0 0 [tR a0, tI a1, tI a2] h (some (tI w), h) := by
  refine CT.of (cc := cX2_areTwoMen) (nL := 3) (ret := (some .boolean)) (by decide) (by simp [lg_sl, vOf_cat, wOf]) ?_
  intro K X
  refine g_locs (lv' := [(0, tR a0), (1, tI a1), (2, tI a2)]) (fun q hq => hq) ?_
  unfold f_X2_areTwoMen at hf
  refine g_aload_n X dX2_areTwoMen_0 0 rfl ?_
  refine g_iload_n X dX2_areTwoMen_1 1 rfl ?_
  refine g_callV (n := 1) (av := [tI a1]) (rest := []) (k := 2) X hf (fun v1 => (some (tI v1), h)) (fun _ q => m_X2_hasMan q) (gdV tb_469 tb_458 tb_459 tb_2 tb_460) rfl (by decide +kernel) rfl (by decide) rfl (by decide) (by decide) rfl (Nat.le_of_ble_eq_true rfl) dX2_areTwoMen_2 (fun v1 hf => ?_)
  refine g_ifeq (tgt := 25) X hf dX2_areTwoMen_5 (by decide) (fun hf => ?_) (fun hf => ?_)
  · refine g_iconst (v := 0) X dX2_areTwoMen_25 (by decide) ?_
    exact g_zreturn X (zP hf) (by decide) (by decide) (by decide) dX2_areTwoMen_26
  · refine g_aload_n X dX2_areTwoMen_8 0 rfl ?_
    refine g_iload_n X dX2_areTwoMen_9 2 rfl ?_
    refine g_callV (n := 1) (av := [tI a2]) (rest := []) (k := 2) X hf (fun v2 => (some (tI v2), h)) (fun _ q => m_X2_hasMan q) (gdV tb_469 tb_458 tb_459 tb_2 tb_460) rfl (by decide +kernel) rfl (by decide) rfl (by decide) (by decide) rfl (Nat.le_of_ble_eq_true rfl) dX2_areTwoMen_10 (fun v2 hf => ?_)
    refine g_ifeq (tgt := 25) X hf dX2_areTwoMen_13 (by decide) (fun hf => ?_) (fun hf => ?_)
    · refine g_iconst (v := 0) X dX2_areTwoMen_25 (by decide) ?_
      exact g_zreturn X (zP hf) (by decide) (by decide) (by decide) dX2_areTwoMen_26
    · refine g_iload_n X dX2_areTwoMen_16 1 rfl ?_
      refine g_iload_n X dX2_areTwoMen_17 2 rfl ?_
      refine g_icmpeq (tgt := 25) X hf dX2_areTwoMen_18 (by decide) (fun hf => ?_) (fun hf => ?_)
      · refine g_iconst (v := 0) X dX2_areTwoMen_25 (by decide) ?_
        exact g_zreturn X (zP hf) (by decide) (by decide) (by decide) dX2_areTwoMen_26
      · refine g_iconst (v := 1) X dX2_areTwoMen_21 (by decide) ?_
        refine g_goto (tgt := 26) X dX2_areTwoMen_22 (by decide) ?_
        exact g_zreturn X (zP hf) (by decide) (by decide) (by decide) dX2_areTwoMen_26
def f_X2_lawNow  (a0 : Option Nat) (h : AH) : Option (Option Nat) :=
  (gR 2 13 h a0).bind fun v1 =>
  (gI 2 14 h a0).bind fun v2 =>
  if v2 < 0 then
    (aR h v1 4).bind fun v3 =>
    some v3
  else
    (gI 2 14 h a0).bind fun v4 =>
    (aR h v1 v4).bind fun v5 =>
    some v5
set_option maxRecDepth 20000 in
theorem m_X2_lawNow  {a0 : Option Nat} {h : AH} {w : (Option Nat)} (hf : f_X2_lawNow a0 h = some w) : CT yX2_lawNow (wU yX2_lawNow cX2_lawNow 1 (some (.object "SherdCity$Law"))) (rmD 1 0 0) 0 0 [tR a0] h (some (tR w), h) := by
  refine CT.of (cc := cX2_lawNow) (nL := 1) (ret := (some (.object "SherdCity$Law"))) (by decide) (by simp [lg_sl, vOf_cat, wOf]) ?_
  intro K X
  refine g_locs (lv' := [(0, tR a0)]) (fun q hq => hq) ?_
  unfold f_X2_lawNow at hf
  refine g_aload_n X dX2_lawNow_0 0 rfl ?_
  refine g_getR X hf (T := TX2) rfl (by decide) (by decide) in_RX2 tb_237 rfl dX2_lawNow_1 (fun v1 hf => ?_)
  refine g_aload_n X dX2_lawNow_4 0 rfl ?_
  refine g_getI X hf (T := TX2) rfl (by decide) (by decide) in_RX2 tb_239 rfl dX2_lawNow_5 (fun v2 hf => ?_)
  refine g_ifge (tgt := 15) X hf dX2_lawNow_8 (by decide) (fun hf => ?_) (fun hf => ?_)
  · refine g_iconst (v := 4) X dX2_lawNow_11 (by decide) ?_
    refine g_goto (tgt := 19) X dX2_lawNow_12 (by decide) ?_
    refine g_aaload X hf dX2_lawNow_19 (fun v3 hf => ?_)
    exact g_areturn (Or.inl ⟨_, rfl⟩) X (zPR hf) (by decide) (by decide) dX2_lawNow_20
  · refine g_aload_n X dX2_lawNow_15 0 rfl ?_
    refine g_getI X hf (T := TX2) rfl (by decide) (by decide) in_RX2 tb_239 rfl dX2_lawNow_16 (fun v4 hf => ?_)
    refine g_aaload X hf dX2_lawNow_19 (fun v5 hf => ?_)
    exact g_areturn (Or.inl ⟨_, rfl⟩) X (zPR hf) (by decide) (by decide) dX2_lawNow_20
def b_X11_lettersApart_94  (k43 : Int32 → Option Nat → Int32 → Int32 → Int32 → AH → Option (Int32 × AH)) (k66 : Int32 → Option Nat → Int32 → Int32 → Int32 → Int32 → Int32 → Int32 → AH → Option (Int32 × AH)) (x1 : Int32) (x2 : Option Nat) (x3 : Int32) (x4 : Int32) (x5 : Int32) (x7 : Int32) (x8 : Int32) (s0 : Int32) (h : AH) : Option (Int32 × AH) :=
  (aI h x2 x8).bind fun v1 =>
  (aI h x2 x8).bind fun v2 =>
  (aI h x2 (x8 - 1)).bind fun v3 =>
  (sI h x2 x8 (mMin s0 ((mMin v2 v3) + 1))).bind fun h4 =>
  k66 x1 x2 x3 x4 x5 v1 (x7 / 27) (x8 + 1) h4
set_option maxRecDepth 20000 in
theorem w_X11_lettersApart_94 {K : KT} {w : (Int32 × AH)} {k43 : Int32 → Option Nat → Int32 → Int32 → Int32 → AH → Option (Int32 × AH)} {k66 : Int32 → Option Nat → Int32 → Int32 → Int32 → Int32 → Int32 → Int32 → AH → Option (Int32 × AH)}  (X : CX K cX11_lettersApart RX11 TB (some .int) "lettersApart" (rmD 1 0 0) 11 0 0) (hk43 : ∀ (x1 : Int32) (x2 : Option Nat) (x3 : Int32) (x4 : Int32) (x5 : Int32) (h : AH), k43 x1 x2 x3 x4 x5 h = some w → GG K (some (tI w.1), w.2) 0 0 43 [(1, tI x1), (2, tR x2), (3, tI x3), (4, tI x4), (5, tI x5)] [] h) (hk66 : ∀ (x1 : Int32) (x2 : Option Nat) (x3 : Int32) (x4 : Int32) (x5 : Int32) (x6 : Int32) (x7 : Int32) (x8 : Int32) (h : AH), k66 x1 x2 x3 x4 x5 x6 x7 x8 h = some w → GG K (some (tI w.1), w.2) 0 0 66 [(1, tI x1), (2, tR x2), (3, tI x3), (4, tI x4), (5, tI x5), (6, tI x6), (7, tI x7), (8, tI x8)] [] h) (x1 : Int32) (x2 : Option Nat) (x3 : Int32) (x4 : Int32) (x5 : Int32) (x7 : Int32) (x8 : Int32) (s0 : Int32) (h : AH) (hf : b_X11_lettersApart_94 k43 k66 x1 x2 x3 x4 x5 x7 x8 s0 h = some w) : GG K (some (tI w.1), w.2) 0 0 94 [(1, tI x1), (2, tR x2), (3, tI x3), (4, tI x4), (5, tI x5), (7, tI x7), (8, tI x8)] [tI s0] h := by
  unfold b_X11_lettersApart_94 at hf
  refine g_istore (lv' := [(1, tI x1), (2, tR x2), (3, tI x3), (4, tI x4), (5, tI x5), (7, tI x7), (8, tI x8), (9, tI s0)]) X dX11_lettersApart_94 (by decide) (in_pick [1, 2, 3, 4, 5, 6, 7, 0] rfl) ?_
  refine g_aload_n X dX11_lettersApart_96 1 rfl ?_
  refine g_iload X dX11_lettersApart_97 6 rfl ?_
  refine g_iaload X hf dX11_lettersApart_99 (fun v1 hf => ?_)
  refine g_istore (lv' := [(1, tI x1), (2, tR x2), (3, tI x3), (4, tI x4), (5, tI x5), (6, tI v1), (7, tI x7), (8, tI x8), (9, tI s0)]) X dX11_lettersApart_100 (by decide) (in_pick [1, 2, 3, 4, 5, 0, 6, 7, 8] rfl) ?_
  refine g_aload_n X dX11_lettersApart_102 1 rfl ?_
  refine g_iload X dX11_lettersApart_103 7 rfl ?_
  refine g_iaload X hf dX11_lettersApart_105 (fun v2 hf => ?_)
  refine g_aload_n X dX11_lettersApart_106 1 rfl ?_
  refine g_iload X dX11_lettersApart_107 7 rfl ?_
  refine g_iconst (v := 1) X dX11_lettersApart_109 (by decide) ?_
  refine g_isub X dX11_lettersApart_110 ?_
  refine g_iaload X hf dX11_lettersApart_111 (fun v3 hf => ?_)
  refine g_mmin X tb_450 tb_451 tb_13 tb_452 ⟨Nat.le_of_ble_eq_true rfl, Nat.le_of_ble_eq_true rfl⟩ ⟨Nat.le_of_ble_eq_true rfl, Nat.le_of_ble_eq_true rfl⟩ dX11_lettersApart_112 ?_
  refine g_iconst (v := 1) X dX11_lettersApart_115 (by decide) ?_
  refine g_iadd X dX11_lettersApart_116 ?_
  refine g_istore (lv' := [(1, tI x1), (2, tR x2), (3, tI x3), (4, tI x4), (5, tI x5), (6, tI v1), (7, tI x7), (8, tI x8), (9, tI s0), (10, tI ((mMin v2 v3) + 1))]) X dX11_lettersApart_117 (by decide) (in_pick [1, 2, 3, 4, 5, 6, 7, 8, 9, 0] rfl) ?_
  refine g_aload_n X dX11_lettersApart_119 1 rfl ?_
  refine g_iload X dX11_lettersApart_120 7 rfl ?_
  refine g_iload X dX11_lettersApart_122 8 rfl ?_
  refine g_iload X dX11_lettersApart_124 9 rfl ?_
  refine g_mmin X tb_450 tb_451 tb_13 tb_452 ⟨Nat.le_of_ble_eq_true rfl, Nat.le_of_ble_eq_true rfl⟩ ⟨Nat.le_of_ble_eq_true rfl, Nat.le_of_ble_eq_true rfl⟩ dX11_lettersApart_126 ?_
  refine g_iastore X hf dX11_lettersApart_129 (fun h4 hf => ?_)
  refine g_iload X dX11_lettersApart_130 6 rfl ?_
  refine g_bipush (v := 27) X dX11_lettersApart_132 (by decide) ?_
  refine g_idivc X dX11_lettersApart_134 (by decide) ?_
  refine g_istore (lv' := [(1, tI x1), (2, tR x2), (3, tI x3), (4, tI x4), (5, tI x5), (6, tI v1), (7, tI (x7 / 27)), (8, tI x8), (9, tI s0), (10, tI ((mMin v2 v3) + 1))]) X dX11_lettersApart_135 (by decide) (in_pick [1, 2, 3, 4, 5, 6, 0, 7, 8, 9] rfl) ?_
  refine g_iinc (v := (x8 + 1)) (lv' := [(1, tI x1), (2, tR x2), (3, tI x3), (4, tI x4), (5, tI x5), (6, tI v1), (7, tI (x7 / 27)), (8, tI (x8 + 1)), (9, tI s0), (10, tI ((mMin v2 v3) + 1))]) X dX11_lettersApart_137 7 rfl (by rfl) (by decide) (in_pick [1, 2, 3, 4, 5, 6, 7, 0, 8, 9] rfl) ?_
  refine g_goto (tgt := 66) X dX11_lettersApart_140 (by decide) ?_
  refine g_locs (lv' := [(1, tI x1), (2, tR x2), (3, tI x3), (4, tI x4), (5, tI x5), (6, tI v1), (7, tI (x7 / 27)), (8, tI (x8 + 1))]) (in_pick [0, 1, 2, 3, 4, 5, 6, 7] rfl) ?_
  exact hk66 x1 x2 x3 x4 x5 v1 (x7 / 27) (x8 + 1) h4 hf
def b_X11_lettersApart_66  (k43 : Int32 → Option Nat → Int32 → Int32 → Int32 → AH → Option (Int32 × AH))  : Nat → Int32 → Option Nat → Int32 → Int32 → Int32 → Int32 → Int32 → Int32 → AH → Option (Int32 × AH)
  | 0 => fun _ _ _ _ _ _ _ _ _ => none
  | n + 1 => fun x1 x2 x3 x4 x5 x6 x7 x8 h =>
    if x3 < x8 then
      k43 x1 x2 x3 x4 (x5 / 27) h
    else
      if (iRem x5 27) = (iRem x7 27) then
        b_X11_lettersApart_94 k43 (b_X11_lettersApart_66 k43 n) x1 x2 x3 x4 x5 x7 x8 x6 h
      else
        b_X11_lettersApart_94 k43 (b_X11_lettersApart_66 k43 n) x1 x2 x3 x4 x5 x7 x8 (x6 + 1) h
set_option maxRecDepth 20000 in
theorem w_X11_lettersApart_66 {K : KT} {w : (Int32 × AH)} {k43 : Int32 → Option Nat → Int32 → Int32 → Int32 → AH → Option (Int32 × AH)}  (X : CX K cX11_lettersApart RX11 TB (some .int) "lettersApart" (rmD 1 0 0) 11 0 0) (hk43 : ∀ (x1 : Int32) (x2 : Option Nat) (x3 : Int32) (x4 : Int32) (x5 : Int32) (h : AH), k43 x1 x2 x3 x4 x5 h = some w → GG K (some (tI w.1), w.2) 0 0 43 [(1, tI x1), (2, tR x2), (3, tI x3), (4, tI x4), (5, tI x5)] [] h) : ∀ (n : Nat) (x1 : Int32) (x2 : Option Nat) (x3 : Int32) (x4 : Int32) (x5 : Int32) (x6 : Int32) (x7 : Int32) (x8 : Int32) (h : AH), b_X11_lettersApart_66 k43 n x1 x2 x3 x4 x5 x6 x7 x8 h = some w → GG K (some (tI w.1), w.2) 0 0 66 [(1, tI x1), (2, tR x2), (3, tI x3), (4, tI x4), (5, tI x5), (6, tI x6), (7, tI x7), (8, tI x8)] [] h := by
  intro n
  induction n with
  | zero =>
    intro x1 x2 x3 x4 x5 x6 x7 x8 h hf
    cases (show none = some w from hf)
  | succ n ih =>
    intro x1 x2 x3 x4 x5 x6 x7 x8 h hf
    rw [b_X11_lettersApart_66] at hf
    refine g_iload X dX11_lettersApart_66 7 rfl ?_
    refine g_iload_n X dX11_lettersApart_68 2 rfl ?_
    refine g_icmpgt (tgt := 143) X hf dX11_lettersApart_69 (by decide) (fun hf => ?_) (fun hf => ?_)
    · refine g_iload X dX11_lettersApart_143 4 rfl ?_
      refine g_bipush (v := 27) X dX11_lettersApart_145 (by decide) ?_
      refine g_idivc X dX11_lettersApart_147 (by decide) ?_
      refine g_istore (lv' := [(1, tI x1), (2, tR x2), (3, tI x3), (4, tI x4), (5, tI (x5 / 27)), (6, tI x6), (7, tI x7), (8, tI x8)]) X dX11_lettersApart_148 (by decide) (in_pick [1, 2, 3, 4, 0, 5, 6, 7] rfl) ?_
      refine g_goto (tgt := 43) X dX11_lettersApart_150 (by decide) ?_
      refine g_locs (lv' := [(1, tI x1), (2, tR x2), (3, tI x3), (4, tI x4), (5, tI (x5 / 27))]) (in_pick [0, 1, 2, 3, 4] rfl) ?_
      exact hk43 x1 x2 x3 x4 (x5 / 27) h hf
    · refine g_iload X dX11_lettersApart_72 4 rfl ?_
      refine g_bipush (v := 27) X dX11_lettersApart_74 (by decide) ?_
      refine g_iremc X dX11_lettersApart_76 (by decide) ?_
      refine g_iload X dX11_lettersApart_77 6 rfl ?_
      refine g_bipush (v := 27) X dX11_lettersApart_79 (by decide) ?_
      refine g_iremc X dX11_lettersApart_81 (by decide) ?_
      refine g_icmpne (tgt := 90) X hf dX11_lettersApart_82 (by decide) (fun hf => ?_) (fun hf => ?_)
      · refine g_iload X dX11_lettersApart_85 5 rfl ?_
        refine g_goto (tgt := 94) X dX11_lettersApart_87 (by decide) ?_
        refine g_locs (lv' := [(1, tI x1), (2, tR x2), (3, tI x3), (4, tI x4), (5, tI x5), (7, tI x7), (8, tI x8)]) (in_pick [0, 1, 2, 3, 4, 6, 7] rfl) ?_
        exact w_X11_lettersApart_94 X hk43 ih x1 x2 x3 x4 x5 x7 x8 x6 h hf
      · refine g_iload X dX11_lettersApart_90 5 rfl ?_
        refine g_iconst (v := 1) X dX11_lettersApart_92 (by decide) ?_
        refine g_iadd X dX11_lettersApart_93 ?_
        refine g_locs (lv' := [(1, tI x1), (2, tR x2), (3, tI x3), (4, tI x4), (5, tI x5), (7, tI x7), (8, tI x8)]) (in_pick [0, 1, 2, 3, 4, 6, 7] rfl) ?_
        exact w_X11_lettersApart_94 X hk43 ih x1 x2 x3 x4 x5 x7 x8 (x6 + 1) h hf
def b_X11_lettersApart_43    : Nat → Int32 → Option Nat → Int32 → Int32 → Int32 → AH → Option (Int32 × AH)
  | 0 => fun _ _ _ _ _ _ => none
  | n + 1 => fun x1 x2 x3 x4 x5 h =>
    if 0 < x5 then
      (sI h x2 0 (x4 + 1)).bind fun h1 =>
      b_X11_lettersApart_66 (b_X11_lettersApart_43 n) FU x1 x2 x3 (x4 + 1) x5 x4 x1 1 h1
    else
      (aI h x2 x3).bind fun v2 =>
      some (v2, h)
set_option maxRecDepth 20000 in
theorem w_X11_lettersApart_43 {K : KT} {w : (Int32 × AH)}   (X : CX K cX11_lettersApart RX11 TB (some .int) "lettersApart" (rmD 1 0 0) 11 0 0)  : ∀ (n : Nat) (x1 : Int32) (x2 : Option Nat) (x3 : Int32) (x4 : Int32) (x5 : Int32) (h : AH), b_X11_lettersApart_43 n x1 x2 x3 x4 x5 h = some w → GG K (some (tI w.1), w.2) 0 0 43 [(1, tI x1), (2, tR x2), (3, tI x3), (4, tI x4), (5, tI x5)] [] h := by
  intro n
  induction n with
  | zero =>
    intro x1 x2 x3 x4 x5 h hf
    cases (show none = some w from hf)
  | succ n ih =>
    intro x1 x2 x3 x4 x5 h hf
    rw [b_X11_lettersApart_43] at hf
    refine g_iload X dX11_lettersApart_43 4 rfl ?_
    refine g_ifle (tgt := 153) X hf dX11_lettersApart_45 (by decide) (fun hf => ?_) (fun hf => ?_)
    · refine g_iload X dX11_lettersApart_48 3 rfl ?_
      refine g_istore (lv' := [(1, tI x1), (2, tR x2), (3, tI x3), (4, tI x4), (5, tI x5), (6, tI x4)]) X dX11_lettersApart_50 (by decide) (in_pick [1, 2, 3, 4, 5, 0] rfl) ?_
      refine g_iinc (v := (x4 + 1)) (lv' := [(1, tI x1), (2, tR x2), (3, tI x3), (4, tI (x4 + 1)), (5, tI x5), (6, tI x4)]) X dX11_lettersApart_52 3 rfl (by rfl) (by decide) (in_pick [1, 2, 3, 0, 4, 5] rfl) ?_
      refine g_aload_n X dX11_lettersApart_55 1 rfl ?_
      refine g_iconst (v := 0) X dX11_lettersApart_56 (by decide) ?_
      refine g_iload X dX11_lettersApart_57 3 rfl ?_
      refine g_iastore X hf dX11_lettersApart_59 (fun h1 hf => ?_)
      refine g_iload_n X dX11_lettersApart_60 0 rfl ?_
      refine g_istore (lv' := [(1, tI x1), (2, tR x2), (3, tI x3), (4, tI (x4 + 1)), (5, tI x5), (6, tI x4), (7, tI x1)]) X dX11_lettersApart_61 (by decide) (in_pick [1, 2, 3, 4, 5, 6, 0] rfl) ?_
      refine g_iconst (v := 1) X dX11_lettersApart_63 (by decide) ?_
      refine g_istore (lv' := [(1, tI x1), (2, tR x2), (3, tI x3), (4, tI (x4 + 1)), (5, tI x5), (6, tI x4), (7, tI x1), (8, tI 1)]) X dX11_lettersApart_64 (by decide) (in_pick [1, 2, 3, 4, 5, 6, 7, 0] rfl) ?_
      exact w_X11_lettersApart_66 X ih FU x1 x2 x3 (x4 + 1) x5 x4 x1 1 h1 hf
    · refine g_aload_n X dX11_lettersApart_153 1 rfl ?_
      refine g_iload_n X dX11_lettersApart_154 2 rfl ?_
      refine g_iaload X hf dX11_lettersApart_155 (fun v2 hf => ?_)
      exact g_ireturn X (zW hf) (by decide) (by decide) dX11_lettersApart_156
def b_X11_lettersApart_37   (x0 : Int32) (x1 : Int32) (x2 : Option Nat) (x3 : Int32) (h : AH) : Option (Int32 × AH) :=
  b_X11_lettersApart_43 FU x1 x2 x3 0 x0 h
set_option maxRecDepth 20000 in
theorem w_X11_lettersApart_37 {K : KT} {w : (Int32 × AH)}   (X : CX K cX11_lettersApart RX11 TB (some .int) "lettersApart" (rmD 1 0 0) 11 0 0)  (x0 : Int32) (x1 : Int32) (x2 : Option Nat) (x3 : Int32) (h : AH) (hf : b_X11_lettersApart_37 x0 x1 x2 x3 h = some w) : GG K (some (tI w.1), w.2) 0 0 37 [(0, tI x0), (1, tI x1), (2, tR x2), (3, tI x3)] [] h := by
  unfold b_X11_lettersApart_37 at hf
  refine g_iconst (v := 0) X dX11_lettersApart_37 (by decide) ?_
  refine g_istore (lv' := [(0, tI x0), (1, tI x1), (2, tR x2), (3, tI x3), (4, tI 0)]) X dX11_lettersApart_38 (by decide) (in_pick [1, 2, 3, 4, 0] rfl) ?_
  refine g_iload_n X dX11_lettersApart_40 0 rfl ?_
  refine g_istore (lv' := [(0, tI x0), (1, tI x1), (2, tR x2), (3, tI x3), (4, tI 0), (5, tI x0)]) X dX11_lettersApart_41 (by decide) (in_pick [1, 2, 3, 4, 5, 0] rfl) ?_
  refine g_locs (lv' := [(1, tI x1), (2, tR x2), (3, tI x3), (4, tI 0), (5, tI x0)]) (in_pick [1, 2, 3, 4, 5] rfl) ?_
  exact w_X11_lettersApart_43 X FU x1 x2 x3 0 x0 h hf
def b_X11_lettersApart_9    : Nat → Int32 → Int32 → Option Nat → Int32 → Int32 → AH → Option (Int32 × AH)
  | 0 => fun _ _ _ _ _ _ => none
  | n + 1 => fun x0 x1 x2 x3 x4 h =>
    if 0 < x4 then
      if x3 < 6 then
        (sI h x2 (x3 + 1) (x3 + 1)).bind fun h1 =>
        b_X11_lettersApart_9 n x0 x1 x2 (x3 + 1) (x4 / 27) h1
      else
        b_X11_lettersApart_37 x0 x1 x2 x3 h
    else
      b_X11_lettersApart_37 x0 x1 x2 x3 h
set_option maxRecDepth 20000 in
theorem w_X11_lettersApart_9 {K : KT} {w : (Int32 × AH)}   (X : CX K cX11_lettersApart RX11 TB (some .int) "lettersApart" (rmD 1 0 0) 11 0 0)  : ∀ (n : Nat) (x0 : Int32) (x1 : Int32) (x2 : Option Nat) (x3 : Int32) (x4 : Int32) (h : AH), b_X11_lettersApart_9 n x0 x1 x2 x3 x4 h = some w → GG K (some (tI w.1), w.2) 0 0 9 [(0, tI x0), (1, tI x1), (2, tR x2), (3, tI x3), (4, tI x4)] [] h := by
  intro n
  induction n with
  | zero =>
    intro x0 x1 x2 x3 x4 h hf
    cases (show none = some w from hf)
  | succ n ih =>
    intro x0 x1 x2 x3 x4 h hf
    rw [b_X11_lettersApart_9] at hf
    refine g_iload X dX11_lettersApart_9 4 rfl ?_
    refine g_ifle (tgt := 37) X hf dX11_lettersApart_11 (by decide) (fun hf => ?_) (fun hf => ?_)
    · refine g_iload_n X dX11_lettersApart_14 3 rfl ?_
      refine g_bipush (v := 6) X dX11_lettersApart_15 (by decide) ?_
      refine g_icmpge (tgt := 37) X hf dX11_lettersApart_17 (by decide) (fun hf => ?_) (fun hf => ?_)
      · refine g_iinc (v := (x3 + 1)) (lv' := [(0, tI x0), (1, tI x1), (2, tR x2), (3, tI (x3 + 1)), (4, tI x4)]) X dX11_lettersApart_20 3 rfl (by rfl) (by decide) (in_pick [1, 2, 3, 0, 4] rfl) ?_
        refine g_aload_n X dX11_lettersApart_23 2 rfl ?_
        refine g_iload_n X dX11_lettersApart_24 3 rfl ?_
        refine g_iload_n X dX11_lettersApart_25 3 rfl ?_
        refine g_iastore X hf dX11_lettersApart_26 (fun h1 hf => ?_)
        refine g_iload X dX11_lettersApart_27 4 rfl ?_
        refine g_bipush (v := 27) X dX11_lettersApart_29 (by decide) ?_
        refine g_idivc X dX11_lettersApart_31 (by decide) ?_
        refine g_istore (lv' := [(0, tI x0), (1, tI x1), (2, tR x2), (3, tI (x3 + 1)), (4, tI (x4 / 27))]) X dX11_lettersApart_32 (by decide) (in_pick [1, 2, 3, 4, 0] rfl) ?_
        refine g_goto (tgt := 9) X dX11_lettersApart_34 (by decide) ?_
        exact ih x0 x1 x2 (x3 + 1) (x4 / 27) h1 hf
      · refine g_locs (lv' := [(0, tI x0), (1, tI x1), (2, tR x2), (3, tI x3)]) (in_pick [0, 1, 2, 3] rfl) ?_
        exact w_X11_lettersApart_37 X x0 x1 x2 x3 h hf
    · refine g_locs (lv' := [(0, tI x0), (1, tI x1), (2, tR x2), (3, tI x3)]) (in_pick [0, 1, 2, 3] rfl) ?_
      exact w_X11_lettersApart_37 X x0 x1 x2 x3 h hf
def f_X11_lettersApart  (a0 : Int32) (a1 : Int32) (a2 : Option Nat) (h : AH) : Option (Int32 × AH) :=
  (sI h a2 0 0).bind fun h1 =>
  b_X11_lettersApart_9 FU a0 a1 a2 0 a1 h1
set_option maxRecDepth 20000 in
theorem m_X11_lettersApart  {a0 : Int32} {a1 : Int32} {a2 : Option Nat} {h : AH} {w : (Int32 × AH)} (hf : f_X11_lettersApart a0 a1 a2 h = some w) : CT yX11_lettersApart (wU yX11_lettersApart cX11_lettersApart 11 (some .int)) (rmD 1 0 0) 0 0 [tI a0, tI a1, tR a2] h (some (tI w.1), w.2) := by
  refine CT.of (cc := cX11_lettersApart) (nL := 11) (ret := (some .int)) (by decide) (by simp [lg_sl, vOf_cat, wOf]) ?_
  intro K X
  refine g_locs (lv' := [(0, tI a0), (1, tI a1), (2, tR a2)]) (fun q hq => hq) ?_
  unfold f_X11_lettersApart at hf
  refine g_iconst (v := 0) X dX11_lettersApart_0 (by decide) ?_
  refine g_istore_n (lv' := [(0, tI a0), (1, tI a1), (2, tR a2), (3, tI 0)]) X dX11_lettersApart_1 (by decide) (in_pick [1, 2, 3, 0] rfl) ?_
  refine g_aload_n X dX11_lettersApart_2 2 rfl ?_
  refine g_iconst (v := 0) X dX11_lettersApart_3 (by decide) ?_
  refine g_iconst (v := 0) X dX11_lettersApart_4 (by decide) ?_
  refine g_iastore X hf dX11_lettersApart_5 (fun h1 hf => ?_)
  refine g_iload_n X dX11_lettersApart_6 1 rfl ?_
  refine g_istore (lv' := [(0, tI a0), (1, tI a1), (2, tR a2), (3, tI 0), (4, tI a1)]) X dX11_lettersApart_7 (by decide) (in_pick [1, 2, 3, 4, 0] rfl) ?_
  exact w_X11_lettersApart_9 X FU a0 a1 a2 0 a1 h1 hf
def b_X2_mean_48   (x0 : Option Nat) (x1 : Option Nat) (x2 : Option Nat) (x3 : Int32) (x4 : Int32) (s0 : Int32) (h : AH) : Option AH :=
  if x4 = 0 then
    some h
  else
    if s0 = 0 then
      some h
    else
      (gI 8 0 h x1).bind fun v1 =>
      (gI 5 2 h x2).bind fun v2 =>
      if v1 = v2 then
        (gI 8 9 h x1).bind fun v3 =>
        (pI 8 9 h x1 (v3 ||| (1 <<< (x3 &&& 31)))).bind fun h4 =>
        some h4
      else
        (gI 8 0 h x1).bind fun v5 =>
        (gI 5 2 h x2).bind fun v6 =>
        (gR 2 19 h x0).bind fun v7 =>
        (f_X11_lettersApart v5 v6 v7 h).bind fun p8 =>
        if 1 < p8.1 then
          some p8.2
        else
          (gI 8 10 p8.2 x1).bind fun v9 =>
          (pI 8 10 p8.2 x1 (v9 ||| (1 <<< (x3 &&& 31)))).bind fun h10 =>
          some h10
set_option maxRecDepth 20000 in
theorem w_X2_mean_48 {K : KT} {w : AH}   (X : CX K cX2_mean RX2 TB none "mean" (rmD 2 0 0) 6 0 0)  (x0 : Option Nat) (x1 : Option Nat) (x2 : Option Nat) (x3 : Int32) (x4 : Int32) (s0 : Int32) (h : AH) (hf : b_X2_mean_48 x0 x1 x2 x3 x4 s0 h = some w) : GG K (none, w) 0 0 48 [(0, tR x0), (1, tR x1), (2, tR x2), (3, tI x3), (4, tI x4)] [tI s0] h := by
  unfold b_X2_mean_48 at hf
  refine g_istore (lv' := [(0, tR x0), (1, tR x1), (2, tR x2), (3, tI x3), (4, tI x4), (5, tI s0)]) X dX2_mean_48 (by decide) (in_pick [1, 2, 3, 4, 5, 0] rfl) ?_
  refine g_iload X dX2_mean_50 4 rfl ?_
  refine g_ifeq (tgt := 60) X hf dX2_mean_52 (by decide) (fun hf => ?_) (fun hf => ?_)
  · exact g_vreturn X (zV hf) (by decide) (by decide) dX2_mean_60
  · refine g_iload X dX2_mean_55 5 rfl ?_
    refine g_ifne (tgt := 61) X hf dX2_mean_57 (by decide) (fun hf => ?_) (fun hf => ?_)
    · exact g_vreturn X (zV hf) (by decide) (by decide) dX2_mean_60
    · refine g_aload_n X dX2_mean_61 1 rfl ?_
      refine g_getI X hf (T := TX8) rfl (by decide) (by decide) in_RX8 tb_142 rfl dX2_mean_62 (fun v1 hf => ?_)
      refine g_aload_n X dX2_mean_65 2 rfl ?_
      refine g_getI X hf (T := TX5) rfl (by decide) (by decide) in_RX5 tb_76 rfl dX2_mean_66 (fun v2 hf => ?_)
      refine g_icmpne (tgt := 87) X hf dX2_mean_69 (by decide) (fun hf => ?_) (fun hf => ?_)
      · refine g_aload_n X dX2_mean_72 1 rfl ?_
        refine g_dup X dX2_mean_73 rfl ?_
        refine g_getI X hf (T := TX8) rfl (by decide) (by decide) in_RX8 tb_171 rfl dX2_mean_74 (fun v3 hf => ?_)
        refine g_iconst (v := 1) X dX2_mean_77 (by decide) ?_
        refine g_iload_n X dX2_mean_78 3 rfl ?_
        refine g_ishl X dX2_mean_79 ?_
        refine g_ior X dX2_mean_80 ?_
        refine g_putI X hf (T := TX8) rfl (by decide) (by decide) in_RX8 tyX8 tyX8_ok nmX8 tb_171 rfl rfl rfl dX2_mean_81 (fun h4 hf => ?_)
        refine g_goto (tgt := 118) X dX2_mean_84 (by decide) ?_
        exact g_vreturn X (zV hf) (by decide) (by decide) dX2_mean_118
      · refine g_aload_n X dX2_mean_87 1 rfl ?_
        refine g_getI X hf (T := TX8) rfl (by decide) (by decide) in_RX8 tb_142 rfl dX2_mean_88 (fun v5 hf => ?_)
        refine g_aload_n X dX2_mean_91 2 rfl ?_
        refine g_getI X hf (T := TX5) rfl (by decide) (by decide) in_RX5 tb_76 rfl dX2_mean_92 (fun v6 hf => ?_)
        refine g_aload_n X dX2_mean_95 0 rfl ?_
        refine g_getR X hf (T := TX2) rfl (by decide) (by decide) in_RX2 tb_249 rfl dX2_mean_96 (fun v7 hf => ?_)
        refine g_callSN (n := 3) (av := [tI v5, tI v6, tR v7]) (rest := []) X hf (fun p8 => (some (tI p8.1), p8.2)) (fun _ q => m_X11_lettersApart q) (gd0 tb_449) rfl (by decide +kernel) tb_1 tb_448 (by decide +kernel) rfl (by decide) (by decide) rfl (Nat.le_of_ble_eq_true rfl) dX2_mean_99 (fun p8 hf => ?_)
        refine g_iconst (v := 1) X dX2_mean_102 (by decide) ?_
        refine g_icmpgt (tgt := 118) X hf dX2_mean_103 (by decide) (fun hf => ?_) (fun hf => ?_)
        · exact g_vreturn X (zV hf) (by decide) (by decide) dX2_mean_118
        · refine g_aload_n X dX2_mean_106 1 rfl ?_
          refine g_dup X dX2_mean_107 rfl ?_
          refine g_getI X hf (T := TX8) rfl (by decide) (by decide) in_RX8 tb_173 rfl dX2_mean_108 (fun v9 hf => ?_)
          refine g_iconst (v := 1) X dX2_mean_111 (by decide) ?_
          refine g_iload_n X dX2_mean_112 3 rfl ?_
          refine g_ishl X dX2_mean_113 ?_
          refine g_ior X dX2_mean_114 ?_
          refine g_putI X hf (T := TX8) rfl (by decide) (by decide) in_RX8 tyX8 tyX8_ok nmX8 tb_173 rfl rfl rfl dX2_mean_115 (fun h10 hf => ?_)
          exact g_vreturn X (zV hf) (by decide) (by decide) dX2_mean_118
def b_X2_mean_23   (x0 : Option Nat) (x1 : Option Nat) (x2 : Option Nat) (x3 : Int32) (s0 : Int32) (h : AH) : Option AH :=
  (gI 8 2 h x1).bind fun v1 =>
  if v1 < 0 then
    b_X2_mean_48 x0 x1 x2 x3 s0 1 h
  else
    (gI 8 2 h x1).bind fun v2 =>
    (gI 5 0 h x2).bind fun v3 =>
    if v2 = v3 then
      b_X2_mean_48 x0 x1 x2 x3 s0 1 h
    else
      b_X2_mean_48 x0 x1 x2 x3 s0 0 h
set_option maxRecDepth 20000 in
theorem w_X2_mean_23 {K : KT} {w : AH}   (X : CX K cX2_mean RX2 TB none "mean" (rmD 2 0 0) 6 0 0)  (x0 : Option Nat) (x1 : Option Nat) (x2 : Option Nat) (x3 : Int32) (s0 : Int32) (h : AH) (hf : b_X2_mean_23 x0 x1 x2 x3 s0 h = some w) : GG K (none, w) 0 0 23 [(0, tR x0), (1, tR x1), (2, tR x2), (3, tI x3)] [tI s0] h := by
  unfold b_X2_mean_23 at hf
  refine g_istore (lv' := [(0, tR x0), (1, tR x1), (2, tR x2), (3, tI x3), (4, tI s0)]) X dX2_mean_23 (by decide) (in_pick [1, 2, 3, 4, 0] rfl) ?_
  refine g_aload_n X dX2_mean_25 1 rfl ?_
  refine g_getI X hf (T := TX8) rfl (by decide) (by decide) in_RX8 tb_150 rfl dX2_mean_26 (fun v1 hf => ?_)
  refine g_iflt (tgt := 43) X hf dX2_mean_29 (by decide) (fun hf => ?_) (fun hf => ?_)
  · refine g_iconst (v := 1) X dX2_mean_43 (by decide) ?_
    refine g_goto (tgt := 48) X dX2_mean_44 (by decide) ?_
    exact w_X2_mean_48 X x0 x1 x2 x3 s0 1 h hf
  · refine g_aload_n X dX2_mean_32 1 rfl ?_
    refine g_getI X hf (T := TX8) rfl (by decide) (by decide) in_RX8 tb_150 rfl dX2_mean_33 (fun v2 hf => ?_)
    refine g_aload_n X dX2_mean_36 2 rfl ?_
    refine g_getI X hf (T := TX5) rfl (by decide) (by decide) in_RX5 tb_70 rfl dX2_mean_37 (fun v3 hf => ?_)
    refine g_icmpne (tgt := 47) X hf dX2_mean_40 (by decide) (fun hf => ?_) (fun hf => ?_)
    · refine g_iconst (v := 1) X dX2_mean_43 (by decide) ?_
      refine g_goto (tgt := 48) X dX2_mean_44 (by decide) ?_
      exact w_X2_mean_48 X x0 x1 x2 x3 s0 1 h hf
    · refine g_iconst (v := 0) X dX2_mean_47 (by decide) ?_
      exact w_X2_mean_48 X x0 x1 x2 x3 s0 0 h hf
def f_X2_mean  (a0 : Option Nat) (a1 : Option Nat) (a2 : Option Nat) (a3 : Int32) (h : AH) : Option AH :=
  (gI 8 1 h a1).bind fun v1 =>
  if v1 = 0 then
    b_X2_mean_23 a0 a1 a2 a3 1 h
  else
    (gI 8 1 h a1).bind fun v2 =>
    (gI 5 3 h a2).bind fun v3 =>
    if v2 = v3 then
      b_X2_mean_23 a0 a1 a2 a3 1 h
    else
      b_X2_mean_23 a0 a1 a2 a3 0 h
set_option maxRecDepth 20000 in
theorem m_X2_mean  {a0 : Option Nat} {a1 : Option Nat} {a2 : Option Nat} {a3 : Int32} {h : AH} {w : AH} (hf : f_X2_mean a0 a1 a2 a3 h = some w) : CT yX2_mean (wU yX2_mean cX2_mean 6 none) (rmD 2 0 0) 0 0 [tR a0, tR a1, tR a2, tI a3] h (none, w) := by
  refine CT.of (cc := cX2_mean) (nL := 6) (ret := none) (by decide) (by simp [lg_sl, vOf_cat, wOf]) ?_
  intro K X
  refine g_locs (lv' := [(0, tR a0), (1, tR a1), (2, tR a2), (3, tI a3)]) (fun q hq => hq) ?_
  unfold f_X2_mean at hf
  refine g_aload_n X dX2_mean_0 1 rfl ?_
  refine g_getI X hf (T := TX8) rfl (by decide) (by decide) in_RX8 tb_146 rfl dX2_mean_1 (fun v1 hf => ?_)
  refine g_ifeq (tgt := 18) X hf dX2_mean_4 (by decide) (fun hf => ?_) (fun hf => ?_)
  · refine g_iconst (v := 1) X dX2_mean_18 (by decide) ?_
    refine g_goto (tgt := 23) X dX2_mean_19 (by decide) ?_
    exact w_X2_mean_23 X a0 a1 a2 a3 1 h hf
  · refine g_aload_n X dX2_mean_7 1 rfl ?_
    refine g_getI X hf (T := TX8) rfl (by decide) (by decide) in_RX8 tb_146 rfl dX2_mean_8 (fun v2 hf => ?_)
    refine g_aload_n X dX2_mean_11 2 rfl ?_
    refine g_getI X hf (T := TX5) rfl (by decide) (by decide) in_RX5 tb_79 rfl dX2_mean_12 (fun v3 hf => ?_)
    refine g_icmpne (tgt := 22) X hf dX2_mean_15 (by decide) (fun hf => ?_) (fun hf => ?_)
    · refine g_iconst (v := 1) X dX2_mean_18 (by decide) ?_
      refine g_goto (tgt := 23) X dX2_mean_19 (by decide) ?_
      exact w_X2_mean_23 X a0 a1 a2 a3 1 h hf
    · refine g_iconst (v := 0) X dX2_mean_22 (by decide) ?_
      exact w_X2_mean_23 X a0 a1 a2 a3 0 h hf
