def b_X11_fewestClubs_6    : Nat → Option Nat → Int32 → Option Nat → Int32 → Int32 → AH → Option (Int32 × AH)
  | 0 => fun _ _ _ _ _ _ => none
  | n + 1 => fun x0 x1 x2 x3 x4 h =>
    (gR 11 0 h x0).bind fun v1 =>
    (gI 2 6 h v1).bind fun v2 =>
    if x4 < v2 then
      (ck 11 h x0 (f_X11_turnFor x0 x4 x1 x2 h)).bind fun p3 =>
      if p3.1 < 0 then
        b_X11_fewestClubs_6 n x0 x1 x2 x3 (x4 + 1) p3.2
      else
        (f_J6_bitCount_0f7a4 p3.1 p3.2).bind fun v4 =>
        b_X11_fewestClubs_6 n x0 x1 x2 (mMin x3 v4) (x4 + 1) p3.2
    else
      some (x3, h)
set_option maxRecDepth 20000 in
theorem w_X11_fewestClubs_6 {K : KT} {w : (Int32 × AH)}   (X : CX K cX11_fewestClubs RX11 TB (some .int) "fewestClubs" (rmD 7 0 0) 6 0 0)  : ∀ (n : Nat) (x0 : Option Nat) (x1 : Int32) (x2 : Option Nat) (x3 : Int32) (x4 : Int32) (h : AH), b_X11_fewestClubs_6 n x0 x1 x2 x3 x4 h = some w → GG K (some (tI w.1), w.2) 0 0 6 [(0, tR x0), (1, tI x1), (2, tR x2), (3, tI x3), (4, tI x4)] [] h := by
  intro n
  induction n with
  | zero =>
    intro x0 x1 x2 x3 x4 h hf
    cases (show none = some w from hf)
  | succ n ih =>
    intro x0 x1 x2 x3 x4 h hf
    rw [b_X11_fewestClubs_6] at hf
    refine g_iload X dX11_fewestClubs_6 4 rfl ?_
    refine g_aload_n X dX11_fewestClubs_8 0 rfl ?_
    refine g_getR X hf (T := TX11) rfl (by decide) (by decide) in_RX11 tb_350 rfl dX11_fewestClubs_9 (fun v1 hf => ?_)
    refine g_getI X hf (T := TX2) rfl (by decide) (by decide) in_RX2 tb_224 rfl dX11_fewestClubs_12 (fun v2 hf => ?_)
    refine g_icmpge (tgt := 49) X hf dX11_fewestClubs_15 (by decide) (fun hf => ?_) (fun hf => ?_)
    · refine g_aload_n X dX11_fewestClubs_18 0 rfl ?_
      refine g_iload X dX11_fewestClubs_19 4 rfl ?_
      refine g_iload_n X dX11_fewestClubs_21 1 rfl ?_
      refine g_aload_n X dX11_fewestClubs_22 2 rfl ?_
      refine g_callV (n := 3) (av := [tI x4, tI x1, tR x2]) (rest := []) (k := 11) X hf (fun p3 => (some (tI p3.1), p3.2)) (fun _ q => m_X11_turnFor q) (gdV tb_909 tb_910 tb_1670 tb_1 tb_911) rfl (by decide +kernel) rfl (by decide) rfl (by decide) (by decide) rfl (Nat.le_of_ble_eq_true rfl) dX11_fewestClubs_23 (fun p3 hf => ?_)
      refine g_istore (lv' := [(0, tR x0), (1, tI x1), (2, tR x2), (3, tI x3), (4, tI x4), (5, tI p3.1)]) X dX11_fewestClubs_26 (by decide) (in_pick [1, 2, 3, 4, 5, 0] rfl) ?_
      refine g_iload X dX11_fewestClubs_28 5 rfl ?_
      refine g_iflt (tgt := 43) X hf dX11_fewestClubs_30 (by decide) (fun hf => ?_) (fun hf => ?_)
      · refine g_iinc (v := (x4 + 1)) (lv' := [(0, tR x0), (1, tI x1), (2, tR x2), (3, tI x3), (4, tI (x4 + 1)), (5, tI p3.1)]) X dX11_fewestClubs_43 4 rfl (by rfl) (by decide) (in_pick [1, 2, 3, 4, 0, 5] rfl) ?_
        refine g_goto (tgt := 6) X dX11_fewestClubs_46 (by decide) ?_
        refine g_locs (lv' := [(0, tR x0), (1, tI x1), (2, tR x2), (3, tI x3), (4, tI (x4 + 1))]) (in_pick [0, 1, 2, 3, 4] rfl) ?_
        exact ih x0 x1 x2 x3 (x4 + 1) p3.2 hf
      · refine g_iload_n X dX11_fewestClubs_33 3 rfl ?_
        refine g_iload X dX11_fewestClubs_34 5 rfl ?_
        refine g_callS (n := 1) (av := [tI p3.1]) (rest := [tI x3]) X hf (fun v4 => (some (tI v4), p3.2)) (fun _ q => m_J6_bitCount_0f7a4 q) (gdS tb_926 tb_612 tb_14 tb_613) rfl (by decide +kernel) rfl (by decide) (by decide) rfl (Nat.le_of_ble_eq_true rfl) dX11_fewestClubs_36 (fun v4 hf => ?_)
        refine g_mmin X tb_450 tb_451 tb_13 tb_452 ⟨Nat.le_of_ble_eq_true rfl, Nat.le_of_ble_eq_true rfl⟩ ⟨Nat.le_of_ble_eq_true rfl, Nat.le_of_ble_eq_true rfl⟩ dX11_fewestClubs_39 ?_
        refine g_istore_n (lv' := [(0, tR x0), (1, tI x1), (2, tR x2), (3, tI (mMin x3 v4)), (4, tI x4), (5, tI p3.1)]) X dX11_fewestClubs_42 (by decide) (in_pick [1, 2, 3, 0, 4, 5] rfl) ?_
        refine g_iinc (v := (x4 + 1)) (lv' := [(0, tR x0), (1, tI x1), (2, tR x2), (3, tI (mMin x3 v4)), (4, tI (x4 + 1)), (5, tI p3.1)]) X dX11_fewestClubs_43 4 rfl (by rfl) (by decide) (in_pick [1, 2, 3, 4, 0, 5] rfl) ?_
        refine g_goto (tgt := 6) X dX11_fewestClubs_46 (by decide) ?_
        refine g_locs (lv' := [(0, tR x0), (1, tI x1), (2, tR x2), (3, tI (mMin x3 v4)), (4, tI (x4 + 1))]) (in_pick [0, 1, 2, 3, 4] rfl) ?_
        exact ih x0 x1 x2 (mMin x3 v4) (x4 + 1) p3.2 hf
    · refine g_iload_n X dX11_fewestClubs_49 3 rfl ?_
      exact g_ireturn X (zW hf) (by decide) (by decide) dX11_fewestClubs_50
def f_X11_fewestClubs  (a0 : Option Nat) (a1 : Int32) (a2 : Option Nat) (h : AH) : Option (Int32 × AH) :=
  b_X11_fewestClubs_6 FU a0 a1 a2 7 0 h
set_option maxRecDepth 20000 in
theorem m_X11_fewestClubs  {a0 : Option Nat} {a1 : Int32} {a2 : Option Nat} {h : AH} {w : (Int32 × AH)} (hf : f_X11_fewestClubs a0 a1 a2 h = some w) : CT yX11_fewestClubs (wU yX11_fewestClubs cX11_fewestClubs 6 (some .int)) (rmD 7 0 0) 0 0 [tR a0, tI a1, tR a2] h (some (tI w.1), w.2) := by
  refine CT.of (cc := cX11_fewestClubs) (nL := 6) (ret := (some .int)) (by decide) (by simp [lg_sl, vOf_cat, wOf]) ?_
  intro K X
  refine g_locs (lv' := [(0, tR a0), (1, tI a1), (2, tR a2)]) (fun q hq => hq) ?_
  unfold f_X11_fewestClubs at hf
  refine g_bipush (v := 7) X dX11_fewestClubs_0 (by decide) ?_
  refine g_istore_n (lv' := [(0, tR a0), (1, tI a1), (2, tR a2), (3, tI 7)]) X dX11_fewestClubs_2 (by decide) (in_pick [1, 2, 3, 0] rfl) ?_
  refine g_iconst (v := 0) X dX11_fewestClubs_3 (by decide) ?_
  refine g_istore (lv' := [(0, tR a0), (1, tI a1), (2, tR a2), (3, tI 7), (4, tI 0)]) X dX11_fewestClubs_4 (by decide) (in_pick [1, 2, 3, 4, 0] rfl) ?_
  exact w_X11_fewestClubs_6 X FU a0 a1 a2 7 0 h hf
def b_X11_best_24    : Nat → Option Nat → Int32 → Int32 → Int32 → Int32 → AH → Option (Int32 × AH)
  | 0 => fun _ _ _ _ _ _ => none
  | n + 1 => fun x0 x1 x2 x3 x4 h =>
    if x4 < 4 then
      (gR 11 0 h x0).bind fun v1 =>
      (gR 2 13 h v1).bind fun v2 =>
      (aR h v2 x4).bind fun v3 =>
      (gI 3 0 h v3).bind fun v4 =>
      if v4 = 0 then
        b_X11_best_24 n x0 x1 x2 x3 (x4 + 1) h
      else
        (gR 11 0 h x0).bind fun v5 =>
        (gR 2 13 h v5).bind fun v6 =>
        (aR h v6 x4).bind fun v7 =>
        (ck 11 h x0 (f_X11_fewestClubs x0 x1 v7 h)).bind fun p8 =>
        if x3 < p8.1 then
          b_X11_best_24 n x0 x1 x4 p8.1 (x4 + 1) p8.2
        else
          b_X11_best_24 n x0 x1 x2 x3 (x4 + 1) p8.2
    else
      some (x2, h)
set_option maxRecDepth 20000 in
theorem w_X11_best_24 {K : KT} {w : (Int32 × AH)}   (X : CX K cX11_best RX11 TB (some .int) "best" (rmD 8 0 0) 6 0 0)  : ∀ (n : Nat) (x0 : Option Nat) (x1 : Int32) (x2 : Int32) (x3 : Int32) (x4 : Int32) (h : AH), b_X11_best_24 n x0 x1 x2 x3 x4 h = some w → GG K (some (tI w.1), w.2) 0 0 24 [(0, tR x0), (1, tI x1), (2, tI x2), (3, tI x3), (4, tI x4)] [] h := by
  intro n
  induction n with
  | zero =>
    intro x0 x1 x2 x3 x4 h hf
    cases (show none = some w from hf)
  | succ n ih =>
    intro x0 x1 x2 x3 x4 h hf
    rw [b_X11_best_24] at hf
    refine g_iload X dX11_best_24 4 rfl ?_
    refine g_iconst (v := 4) X dX11_best_26 (by decide) ?_
    refine g_icmpge (tgt := 81) X hf dX11_best_27 (by decide) (fun hf => ?_) (fun hf => ?_)
    · refine g_aload_n X dX11_best_30 0 rfl ?_
      refine g_getR X hf (T := TX11) rfl (by decide) (by decide) in_RX11 tb_350 rfl dX11_best_31 (fun v1 hf => ?_)
      refine g_getR X hf (T := TX2) rfl (by decide) (by decide) in_RX2 tb_238 rfl dX11_best_34 (fun v2 hf => ?_)
      refine g_iload X dX11_best_37 4 rfl ?_
      refine g_aaload X hf dX11_best_39 (fun v3 hf => ?_)
      refine g_getI X hf (T := TX3) rfl (by decide) (by decide) in_RX3 tb_190 rfl dX11_best_40 (fun v4 hf => ?_)
      refine g_ifeq (tgt := 75) X hf dX11_best_43 (by decide) (fun hf => ?_) (fun hf => ?_)
      · refine g_iinc (v := (x4 + 1)) (lv' := [(0, tR x0), (1, tI x1), (2, tI x2), (3, tI x3), (4, tI (x4 + 1))]) X dX11_best_75 4 rfl (by rfl) (by decide) (in_pick [1, 2, 3, 4, 0] rfl) ?_
        refine g_goto (tgt := 24) X dX11_best_78 (by decide) ?_
        exact ih x0 x1 x2 x3 (x4 + 1) h hf
      · refine g_aload_n X dX11_best_46 0 rfl ?_
        refine g_iload_n X dX11_best_47 1 rfl ?_
        refine g_aload_n X dX11_best_48 0 rfl ?_
        refine g_getR X hf (T := TX11) rfl (by decide) (by decide) in_RX11 tb_350 rfl dX11_best_49 (fun v5 hf => ?_)
        refine g_getR X hf (T := TX2) rfl (by decide) (by decide) in_RX2 tb_238 rfl dX11_best_52 (fun v6 hf => ?_)
        refine g_iload X dX11_best_55 4 rfl ?_
        refine g_aaload X hf dX11_best_57 (fun v7 hf => ?_)
        refine g_callV (n := 2) (av := [tI x1, tR v7]) (rest := []) (k := 11) X hf (fun p8 => (some (tI p8.1), p8.2)) (fun _ q => m_X11_fewestClubs q) (gdV tb_943 tb_944 tb_1674 tb_1 tb_945) rfl (by decide +kernel) rfl (by decide) rfl (by decide) (by decide) rfl (Nat.le_of_ble_eq_true rfl) dX11_best_58 (fun p8 hf => ?_)
        refine g_istore (lv' := [(0, tR x0), (1, tI x1), (2, tI x2), (3, tI x3), (4, tI x4), (5, tI p8.1)]) X dX11_best_61 (by decide) (in_pick [1, 2, 3, 4, 5, 0] rfl) ?_
        refine g_iload X dX11_best_63 5 rfl ?_
        refine g_iload_n X dX11_best_65 3 rfl ?_
        refine g_icmple (tgt := 75) X hf dX11_best_66 (by decide) (fun hf => ?_) (fun hf => ?_)
        · refine g_iload X dX11_best_69 5 rfl ?_
          refine g_istore_n (lv' := [(0, tR x0), (1, tI x1), (2, tI x2), (3, tI p8.1), (4, tI x4), (5, tI p8.1)]) X dX11_best_71 (by decide) (in_pick [1, 2, 3, 0, 4, 5] rfl) ?_
          refine g_iload X dX11_best_72 4 rfl ?_
          refine g_istore_n (lv' := [(0, tR x0), (1, tI x1), (2, tI x4), (3, tI p8.1), (4, tI x4), (5, tI p8.1)]) X dX11_best_74 (by decide) (in_pick [1, 2, 0, 3, 4, 5] rfl) ?_
          refine g_iinc (v := (x4 + 1)) (lv' := [(0, tR x0), (1, tI x1), (2, tI x4), (3, tI p8.1), (4, tI (x4 + 1)), (5, tI p8.1)]) X dX11_best_75 4 rfl (by rfl) (by decide) (in_pick [1, 2, 3, 4, 0, 5] rfl) ?_
          refine g_goto (tgt := 24) X dX11_best_78 (by decide) ?_
          refine g_locs (lv' := [(0, tR x0), (1, tI x1), (2, tI x4), (3, tI p8.1), (4, tI (x4 + 1))]) (in_pick [0, 1, 2, 3, 4] rfl) ?_
          exact ih x0 x1 x4 p8.1 (x4 + 1) p8.2 hf
        · refine g_iinc (v := (x4 + 1)) (lv' := [(0, tR x0), (1, tI x1), (2, tI x2), (3, tI x3), (4, tI (x4 + 1)), (5, tI p8.1)]) X dX11_best_75 4 rfl (by rfl) (by decide) (in_pick [1, 2, 3, 4, 0, 5] rfl) ?_
          refine g_goto (tgt := 24) X dX11_best_78 (by decide) ?_
          refine g_locs (lv' := [(0, tR x0), (1, tI x1), (2, tI x2), (3, tI x3), (4, tI (x4 + 1))]) (in_pick [0, 1, 2, 3, 4] rfl) ?_
          exact ih x0 x1 x2 x3 (x4 + 1) p8.2 hf
    · refine g_iload_n X dX11_best_81 2 rfl ?_
      exact g_ireturn X (zW hf) (by decide) (by decide) dX11_best_82
def f_X11_best  (a0 : Option Nat) (a1 : Int32) (h : AH) : Option (Int32 × AH) :=
  (f_X11_isDay a1 h).bind fun v1 =>
  if v1 = 0 then
    some ((-1), h)
  else
    (ck 11 h a0 (f_X11_drawCasts a0 a1 (-1) 0 h)).bind fun h2 =>
    b_X11_best_24 FU a0 a1 (-3) (-1) 0 h2
set_option maxRecDepth 20000 in
theorem m_X11_best  {a0 : Option Nat} {a1 : Int32} {h : AH} {w : (Int32 × AH)} (hf : f_X11_best a0 a1 h = some w) : CT yX11_best (wU yX11_best cX11_best 6 (some .int)) (rmD 8 0 0) 0 0 [tR a0, tI a1] h (some (tI w.1), w.2) := by
  refine CT.of (cc := cX11_best) (nL := 6) (ret := (some .int)) (by decide) (by simp [lg_sl, vOf_cat, wOf]) ?_
  intro K X
  refine g_locs (lv' := [(0, tR a0), (1, tI a1)]) (fun q hq => hq) ?_
  unfold f_X11_best at hf
  refine g_iload_n X dX11_best_0 1 rfl ?_
  refine g_callS (n := 1) (av := [tI a1]) (rest := []) X hf (fun v1 => (some (tI v1), h)) (fun _ q => m_X11_isDay q) (gdS tb_406 tb_407 tb_1 tb_408) rfl (by decide +kernel) rfl (by decide) (by decide) rfl (Nat.le_of_ble_eq_true rfl) dX11_best_1 (fun v1 hf => ?_)
  refine g_ifne (tgt := 9) X hf dX11_best_4 (by decide) (fun hf => ?_) (fun hf => ?_)
  · refine g_iconst (v := (-1)) X dX11_best_7 (by decide) ?_
    exact g_ireturn X (zW hf) (by decide) (by decide) dX11_best_8
  · refine g_aload_n X dX11_best_9 0 rfl ?_
    refine g_iload_n X dX11_best_10 1 rfl ?_
    refine g_iconst (v := (-1)) X dX11_best_11 (by decide) ?_
    refine g_iconst (v := 0) X dX11_best_12 (by decide) ?_
    refine g_callV (n := 3) (av := [tI a1, tI (-1), tI 0]) (rest := []) (k := 11) X hf (fun h2 => (none, h2)) (fun _ q => m_X11_drawCasts q) (gdV tb_576 tb_577 tb_1650 tb_1 tb_578) rfl (by decide +kernel) rfl (by decide) rfl (by decide) (by decide) rfl (Nat.le_of_ble_eq_true rfl) dX11_best_13 (fun h2 hf => ?_)
    refine g_bipush (v := (-3)) X dX11_best_16 (by decide) ?_
    refine g_istore_n (lv' := [(0, tR a0), (1, tI a1), (2, tI (-3))]) X dX11_best_18 (by decide) (in_pick [1, 2, 0] rfl) ?_
    refine g_iconst (v := (-1)) X dX11_best_19 (by decide) ?_
    refine g_istore_n (lv' := [(0, tR a0), (1, tI a1), (2, tI (-3)), (3, tI (-1))]) X dX11_best_20 (by decide) (in_pick [1, 2, 3, 0] rfl) ?_
    refine g_iconst (v := 0) X dX11_best_21 (by decide) ?_
    refine g_istore (lv' := [(0, tR a0), (1, tI a1), (2, tI (-3)), (3, tI (-1)), (4, tI 0)]) X dX11_best_22 (by decide) (in_pick [1, 2, 3, 4, 0] rfl) ?_
    exact w_X11_best_24 X FU a0 a1 (-3) (-1) 0 h2 hf
def b_X11_heap_15    : Nat → Option Nat → Int32 → Int32 → AH → Option (Int32 × AH)
  | 0 => fun _ _ _ _ => none
  | n + 1 => fun x0 x1 x2 h =>
    (gR 11 0 h x0).bind fun v1 =>
    (gI 2 18 h v1).bind fun v2 =>
    if x2 < v2 then
      (gR 11 0 h x0).bind fun v3 =>
      (gR 2 17 h v3).bind fun v4 =>
      (aI h v4 x2).bind fun v5 =>
      if v5 = x1 then
        some ((-4), h)
      else
        b_X11_heap_15 n x0 x1 (x2 + 1) h
    else
      (gR 11 0 h x0).bind fun v6 =>
      (gI 2 18 h v6).bind fun v7 =>
      if v7 < 9 then
        (gR 11 0 h x0).bind fun v8 =>
        (gR 2 17 h v8).bind fun v9 =>
        (gR 11 0 h x0).bind fun v10 =>
        (gI 2 18 h v10).bind fun v11 =>
        (sI h v9 v11 x1).bind fun h12 =>
        (gR 11 0 h12 x0).bind fun v13 =>
        (gI 2 18 h12 v13).bind fun v14 =>
        (pI 2 18 h12 v13 (v14 + 1)).bind fun h15 =>
        (gR 11 0 h15 x0).bind fun v16 =>
        (gI 2 18 h15 v16).bind fun v17 =>
        some (v17, h15)
      else
        some ((-2), h)
set_option maxRecDepth 20000 in
theorem w_X11_heap_15 {K : KT} {w : (Int32 × AH)}   (X : CX K cX11_heap RX11 TB (some .int) "heap" (rmD 2 0 0) 3 0 0)  : ∀ (n : Nat) (x0 : Option Nat) (x1 : Int32) (x2 : Int32) (h : AH), b_X11_heap_15 n x0 x1 x2 h = some w → GG K (some (tI w.1), w.2) 0 0 15 [(0, tR x0), (1, tI x1), (2, tI x2)] [] h := by
  intro n
  induction n with
  | zero =>
    intro x0 x1 x2 h hf
    cases (show none = some w from hf)
  | succ n ih =>
    intro x0 x1 x2 h hf
    rw [b_X11_heap_15] at hf
    refine g_iload_n X dX11_heap_15 2 rfl ?_
    refine g_aload_n X dX11_heap_16 0 rfl ?_
    refine g_getR X hf (T := TX11) rfl (by decide) (by decide) in_RX11 tb_350 rfl dX11_heap_17 (fun v1 hf => ?_)
    refine g_getI X hf (T := TX2) rfl (by decide) (by decide) in_RX2 tb_248 rfl dX11_heap_20 (fun v2 hf => ?_)
    refine g_icmpge (tgt := 48) X hf dX11_heap_23 (by decide) (fun hf => ?_) (fun hf => ?_)
    · refine g_aload_n X dX11_heap_26 0 rfl ?_
      refine g_getR X hf (T := TX11) rfl (by decide) (by decide) in_RX11 tb_350 rfl dX11_heap_27 (fun v3 hf => ?_)
      refine g_getR X hf (T := TX2) rfl (by decide) (by decide) in_RX2 tb_246 rfl dX11_heap_30 (fun v4 hf => ?_)
      refine g_iload_n X dX11_heap_33 2 rfl ?_
      refine g_iaload X hf dX11_heap_34 (fun v5 hf => ?_)
      refine g_iload_n X dX11_heap_35 1 rfl ?_
      refine g_icmpne (tgt := 42) X hf dX11_heap_36 (by decide) (fun hf => ?_) (fun hf => ?_)
      · refine g_bipush (v := (-4)) X dX11_heap_39 (by decide) ?_
        exact g_ireturn X (zW hf) (by decide) (by decide) dX11_heap_41
      · refine g_iinc (v := (x2 + 1)) (lv' := [(0, tR x0), (1, tI x1), (2, tI (x2 + 1))]) X dX11_heap_42 2 rfl (by rfl) (by decide) (in_pick [1, 2, 0] rfl) ?_
        refine g_goto (tgt := 15) X dX11_heap_45 (by decide) ?_
        exact ih x0 x1 (x2 + 1) h hf
    · refine g_aload_n X dX11_heap_48 0 rfl ?_
      refine g_getR X hf (T := TX11) rfl (by decide) (by decide) in_RX11 tb_350 rfl dX11_heap_49 (fun v6 hf => ?_)
      refine g_getI X hf (T := TX2) rfl (by decide) (by decide) in_RX2 tb_248 rfl dX11_heap_52 (fun v7 hf => ?_)
      refine g_bipush (v := 9) X dX11_heap_55 (by decide) ?_
      refine g_icmplt (tgt := 63) X hf dX11_heap_57 (by decide) (fun hf => ?_) (fun hf => ?_)
      · refine g_aload_n X dX11_heap_63 0 rfl ?_
        refine g_getR X hf (T := TX11) rfl (by decide) (by decide) in_RX11 tb_350 rfl dX11_heap_64 (fun v8 hf => ?_)
        refine g_getR X hf (T := TX2) rfl (by decide) (by decide) in_RX2 tb_246 rfl dX11_heap_67 (fun v9 hf => ?_)
        refine g_aload_n X dX11_heap_70 0 rfl ?_
        refine g_getR X hf (T := TX11) rfl (by decide) (by decide) in_RX11 tb_350 rfl dX11_heap_71 (fun v10 hf => ?_)
        refine g_getI X hf (T := TX2) rfl (by decide) (by decide) in_RX2 tb_248 rfl dX11_heap_74 (fun v11 hf => ?_)
        refine g_iload_n X dX11_heap_77 1 rfl ?_
        refine g_iastore X hf dX11_heap_78 (fun h12 hf => ?_)
        refine g_aload_n X dX11_heap_79 0 rfl ?_
        refine g_getR X hf (T := TX11) rfl (by decide) (by decide) in_RX11 tb_350 rfl dX11_heap_80 (fun v13 hf => ?_)
        refine g_dup X dX11_heap_83 rfl ?_
        refine g_getI X hf (T := TX2) rfl (by decide) (by decide) in_RX2 tb_248 rfl dX11_heap_84 (fun v14 hf => ?_)
        refine g_iconst (v := 1) X dX11_heap_87 (by decide) ?_
        refine g_iadd X dX11_heap_88 ?_
        refine g_putI X hf (T := TX2) rfl (by decide) (by decide) in_RX2 tyX2 tyX2_ok nmX2 tb_248 rfl rfl rfl dX11_heap_89 (fun h15 hf => ?_)
        refine g_aload_n X dX11_heap_92 0 rfl ?_
        refine g_getR X hf (T := TX11) rfl (by decide) (by decide) in_RX11 tb_350 rfl dX11_heap_93 (fun v16 hf => ?_)
        refine g_getI X hf (T := TX2) rfl (by decide) (by decide) in_RX2 tb_248 rfl dX11_heap_96 (fun v17 hf => ?_)
        exact g_ireturn X (zW hf) (by decide) (by decide) dX11_heap_99
      · refine g_bipush (v := (-2)) X dX11_heap_60 (by decide) ?_
        exact g_ireturn X (zW hf) (by decide) (by decide) dX11_heap_62
def f_X11_heap  (a0 : Option Nat) (a1 : Int32) (h : AH) : Option (Int32 × AH) :=
  (gR 11 0 h a0).bind fun v1 =>
  (ck 2 h v1 (f_X2_hasSherd v1 a1 h)).bind fun v2 =>
  if v2 = 0 then
    some ((-1), h)
  else
    b_X11_heap_15 FU a0 a1 0 h
set_option maxRecDepth 20000 in
theorem m_X11_heap  {a0 : Option Nat} {a1 : Int32} {h : AH} {w : (Int32 × AH)} (hf : f_X11_heap a0 a1 h = some w) : CT yX11_heap (wU yX11_heap cX11_heap 3 (some .int)) (rmD 2 0 0) 0 0 [tR a0, tI a1] h (some (tI w.1), w.2) := by
  refine CT.of (cc := cX11_heap) (nL := 3) (ret := (some .int)) (by decide) (by simp [lg_sl, vOf_cat, wOf]) ?_
  intro K X
  refine g_locs (lv' := [(0, tR a0), (1, tI a1)]) (fun q hq => hq) ?_
  unfold f_X11_heap at hf
  refine g_aload_n X dX11_heap_0 0 rfl ?_
  refine g_getR X hf (T := TX11) rfl (by decide) (by decide) in_RX11 tb_350 rfl dX11_heap_1 (fun v1 hf => ?_)
  refine g_iload_n X dX11_heap_4 1 rfl ?_
  refine g_callV (n := 1) (av := [tI a1]) (rest := []) (k := 2) X hf (fun v2 => (some (tI v2), h)) (fun _ q => m_X2_hasSherd q) (gdV tb_595 tb_596 tb_597 tb_2 tb_598) rfl (by decide +kernel) rfl (by decide) rfl (by decide) (by decide) rfl (Nat.le_of_ble_eq_true rfl) dX11_heap_5 (fun v2 hf => ?_)
  refine g_ifne (tgt := 13) X hf dX11_heap_8 (by decide) (fun hf => ?_) (fun hf => ?_)
  · refine g_iconst (v := (-1)) X dX11_heap_11 (by decide) ?_
    exact g_ireturn X (zW hf) (by decide) (by decide) dX11_heap_12
  · refine g_iconst (v := 0) X dX11_heap_13 (by decide) ?_
    refine g_istore_n (lv' := [(0, tR a0), (1, tI a1), (2, tI 0)]) X dX11_heap_14 (by decide) (in_pick [1, 2, 0] rfl) ?_
    exact w_X11_heap_15 X FU a0 a1 0 h hf
def f_X11_clear  (a0 : Option Nat) (h : AH) : Option (Int32 × AH) :=
  (gR 11 0 h a0).bind fun v1 =>
  (gI 2 18 h v1).bind fun v2 =>
  (gR 11 0 h a0).bind fun v3 =>
  (pI 2 18 h v3 0).bind fun h4 =>
  some (v2, h4)
set_option maxRecDepth 20000 in
theorem m_X11_clear  {a0 : Option Nat} {h : AH} {w : (Int32 × AH)} (hf : f_X11_clear a0 h = some w) : CT yX11_clear (wU yX11_clear cX11_clear 2 (some .int)) (rmD 1 0 0) 0 0 [tR a0] h (some (tI w.1), w.2) := by
  refine CT.of (cc := cX11_clear) (nL := 2) (ret := (some .int)) (by decide) (by simp [lg_sl, vOf_cat, wOf]) ?_
  intro K X
  refine g_locs (lv' := [(0, tR a0)]) (fun q hq => hq) ?_
  unfold f_X11_clear at hf
  refine g_aload_n X dX11_clear_0 0 rfl ?_
  refine g_getR X hf (T := TX11) rfl (by decide) (by decide) in_RX11 tb_350 rfl dX11_clear_1 (fun v1 hf => ?_)
  refine g_getI X hf (T := TX2) rfl (by decide) (by decide) in_RX2 tb_248 rfl dX11_clear_4 (fun v2 hf => ?_)
  refine g_istore_n (lv' := [(0, tR a0), (1, tI v2)]) X dX11_clear_7 (by decide) (in_pick [1, 0] rfl) ?_
  refine g_aload_n X dX11_clear_8 0 rfl ?_
  refine g_getR X hf (T := TX11) rfl (by decide) (by decide) in_RX11 tb_350 rfl dX11_clear_9 (fun v3 hf => ?_)
  refine g_iconst (v := 0) X dX11_clear_12 (by decide) ?_
  refine g_putI X hf (T := TX2) rfl (by decide) (by decide) in_RX2 tyX2 tyX2_ok nmX2 tb_248 rfl rfl rfl dX11_clear_13 (fun h4 hf => ?_)
  refine g_iload_n X dX11_clear_16 1 rfl ?_
  exact g_ireturn X (zW hf) (by decide) (by decide) dX11_clear_17
def f_X11_alike  (a0 : Option Nat) (a1 : Int32) (a2 : Int32) (h : AH) : Option Int32 :=
  (gR 11 0 h a0).bind fun v1 =>
  (ck 2 h v1 (f_X2_hasSherd v1 a1 h)).bind fun v2 =>
  if v2 = 0 then
    some (-1)
  else
    (gR 11 0 h a0).bind fun v3 =>
    (ck 2 h v3 (f_X2_hasSherd v3 a2 h)).bind fun v4 =>
    if v4 = 0 then
      some (-1)
    else
      (gR 11 0 h a0).bind fun v5 =>
      (ck 2 h v5 (f_X2_areAlike v5 a1 a2 h)).bind fun v6 =>
      (f_X11_asAnswer v6 h).bind fun v7 =>
      some v7
set_option maxRecDepth 20000 in
theorem m_X11_alike  {a0 : Option Nat} {a1 : Int32} {a2 : Int32} {h : AH} {w : Int32} (hf : f_X11_alike a0 a1 a2 h = some w) : CT yX11_alike (wU yX11_alike cX11_alike 3 (some .int)) (rmD 2 0 0) 0 0 [tR a0, tI a1, tI a2] h (some (tI w), h) := by
  refine CT.of (cc := cX11_alike) (nL := 3) (ret := (some .int)) (by decide) (by simp [lg_sl, vOf_cat, wOf]) ?_
  intro K X
  refine g_locs (lv' := [(0, tR a0), (1, tI a1), (2, tI a2)]) (fun q hq => hq) ?_
  unfold f_X11_alike at hf
  refine g_aload_n X dX11_alike_0 0 rfl ?_
  refine g_getR X hf (T := TX11) rfl (by decide) (by decide) in_RX11 tb_350 rfl dX11_alike_1 (fun v1 hf => ?_)
  refine g_iload_n X dX11_alike_4 1 rfl ?_
  refine g_callV (n := 1) (av := [tI a1]) (rest := []) (k := 2) X hf (fun v2 => (some (tI v2), h)) (fun _ q => m_X2_hasSherd q) (gdV tb_595 tb_596 tb_597 tb_2 tb_598) rfl (by decide +kernel) rfl (by decide) rfl (by decide) (by decide) rfl (Nat.le_of_ble_eq_true rfl) dX11_alike_5 (fun v2 hf => ?_)
  refine g_ifeq (tgt := 22) X hf dX11_alike_8 (by decide) (fun hf => ?_) (fun hf => ?_)
  · refine g_iconst (v := (-1)) X dX11_alike_22 (by decide) ?_
    exact g_ireturn X (zP hf) (by decide) (by decide) dX11_alike_23
  · refine g_aload_n X dX11_alike_11 0 rfl ?_
    refine g_getR X hf (T := TX11) rfl (by decide) (by decide) in_RX11 tb_350 rfl dX11_alike_12 (fun v3 hf => ?_)
    refine g_iload_n X dX11_alike_15 2 rfl ?_
    refine g_callV (n := 1) (av := [tI a2]) (rest := []) (k := 2) X hf (fun v4 => (some (tI v4), h)) (fun _ q => m_X2_hasSherd q) (gdV tb_595 tb_596 tb_597 tb_2 tb_598) rfl (by decide +kernel) rfl (by decide) rfl (by decide) (by decide) rfl (Nat.le_of_ble_eq_true rfl) dX11_alike_16 (fun v4 hf => ?_)
    refine g_ifne (tgt := 24) X hf dX11_alike_19 (by decide) (fun hf => ?_) (fun hf => ?_)
    · refine g_iconst (v := (-1)) X dX11_alike_22 (by decide) ?_
      exact g_ireturn X (zP hf) (by decide) (by decide) dX11_alike_23
    · refine g_aload_n X dX11_alike_24 0 rfl ?_
      refine g_getR X hf (T := TX11) rfl (by decide) (by decide) in_RX11 tb_350 rfl dX11_alike_25 (fun v5 hf => ?_)
      refine g_iload_n X dX11_alike_28 1 rfl ?_
      refine g_iload_n X dX11_alike_29 2 rfl ?_
      refine g_callV (n := 2) (av := [tI a1, tI a2]) (rest := []) (k := 2) X hf (fun v6 => (some (tI v6), h)) (fun _ q => m_X2_areAlike q) (gdV tb_958 tb_959 tb_960 tb_2 tb_961) rfl (by decide +kernel) rfl (by decide) rfl (by decide) (by decide) rfl (Nat.le_of_ble_eq_true rfl) dX11_alike_30 (fun v6 hf => ?_)
      refine g_callS (n := 1) (av := [tI v6]) (rest := []) X hf (fun v7 => (some (tI v7), h)) (fun _ q => m_X11_asAnswer q) (gdS tb_507 tb_508 tb_1 tb_509) rfl (by decide +kernel) rfl (by decide) (by decide) rfl (Nat.le_of_ble_eq_true rfl) dX11_alike_33 (fun v7 hf => ?_)
      exact g_ireturn X (zP hf) (by decide) (by decide) dX11_alike_36
def b_X11_partsRest_40 (kr : Option Nat → Option Nat → Option Nat → Int32 → Int32 → Int32 → Int32 → AH → Option (Int32 × AH)) (k11 : Option Nat → Option Nat → Option Nat → Int32 → Int32 → Int32 → Int32 → Int32 → AH → Option (Int32 × AH)) (x0 : Option Nat) (x1 : Option Nat) (x2 : Option Nat) (x3 : Int32) (x4 : Int32) (x5 : Int32) (x6 : Int32) (x7 : Int32) (s0 : Int32) (h : AH) : Option (Int32 × AH) :=
  (aI h x0 x4).bind fun v1 =>
  if (s0 &&& (v1 ^^^ (-1))) = 0 then
    (sI h x2 x4 x7).bind fun h2 =>
    (sI h2 x1 x7 (s0 ||| (1 <<< (x4 &&& 31)))).bind fun h3 =>
    (kr x0 x1 x2 x3 (x4 + 1) (mMax x5 (x7 + 1)) x6 h3).bind fun p4 =>
    if p4.1 = 0 then
      (sI p4.2 x1 x7 s0).bind fun h5 =>
      k11 x0 x1 x2 x3 x4 x5 x6 (x7 + 1) h5
    else
      some (1, p4.2)
  else
    k11 x0 x1 x2 x3 x4 x5 x6 (x7 + 1) h
set_option maxRecDepth 20000 in
theorem w_X11_partsRest_40 {K : KT} {w : (Int32 × AH)} {k11 : Option Nat → Option Nat → Option Nat → Int32 → Int32 → Int32 → Int32 → Int32 → AH → Option (Int32 × AH)} {dd : Nat} {kr : Option Nat → Option Nat → Option Nat → Int32 → Int32 → Int32 → Int32 → AH → Option (Int32 × AH)} (hdd : 0 ≤ dd) (hkr : ∀ {b0 : Option Nat} {b1 : Option Nat} {b2 : Option Nat} {b3 : Int32} {b4 : Int32} {b5 : Int32} {b6 : Int32} {h : AH} {v : (Int32 × AH)}, kr b0 b1 b2 b3 b4 b5 b6 h = some v → CT yX11_partsRest (wU yX11_partsRest cX11_partsRest 9 (some .boolean)) (rmD dd 0 0) 0 0 [tR b0, tR b1, tR b2, tI b3, tI b4, tI b5, tI b6] h (some (tI v.1), v.2)) (X : CX K cX11_partsRest RX11 TB (some .boolean) "partsRest" (rmD (dd + 1) 0 0) 9 0 0) (hk11 : ∀ (x0 : Option Nat) (x1 : Option Nat) (x2 : Option Nat) (x3 : Int32) (x4 : Int32) (x5 : Int32) (x6 : Int32) (x7 : Int32) (h : AH), k11 x0 x1 x2 x3 x4 x5 x6 x7 h = some w → GG K (some (tI w.1), w.2) 0 0 11 [(0, tR x0), (1, tR x1), (2, tR x2), (3, tI x3), (4, tI x4), (5, tI x5), (6, tI x6), (7, tI x7)] [] h) (x0 : Option Nat) (x1 : Option Nat) (x2 : Option Nat) (x3 : Int32) (x4 : Int32) (x5 : Int32) (x6 : Int32) (x7 : Int32) (s0 : Int32) (h : AH) (hf : b_X11_partsRest_40 kr k11 x0 x1 x2 x3 x4 x5 x6 x7 s0 h = some w) : GG K (some (tI w.1), w.2) 0 0 40 [(0, tR x0), (1, tR x1), (2, tR x2), (3, tI x3), (4, tI x4), (5, tI x5), (6, tI x6), (7, tI x7)] [tI s0] h := by
  unfold b_X11_partsRest_40 at hf
  refine g_istore (lv' := [(0, tR x0), (1, tR x1), (2, tR x2), (3, tI x3), (4, tI x4), (5, tI x5), (6, tI x6), (7, tI x7), (8, tI s0)]) X dX11_partsRest_40 (by decide) (in_pick [1, 2, 3, 4, 5, 6, 7, 8, 0] rfl) ?_
  refine g_iload X dX11_partsRest_42 8 rfl ?_
  refine g_aload_n X dX11_partsRest_44 0 rfl ?_
  refine g_iload X dX11_partsRest_45 4 rfl ?_
  refine g_iaload X hf dX11_partsRest_47 (fun v1 hf => ?_)
  refine g_iconst (v := (-1)) X dX11_partsRest_48 (by decide) ?_
  refine g_ixor X dX11_partsRest_49 ?_
  refine g_iand X dX11_partsRest_50 ?_
  refine g_ifne (tgt := 104) X hf dX11_partsRest_51 (by decide) (fun hf => ?_) (fun hf => ?_)
  · refine g_aload_n X dX11_partsRest_54 2 rfl ?_
    refine g_iload X dX11_partsRest_55 4 rfl ?_
    refine g_iload X dX11_partsRest_57 7 rfl ?_
    refine g_iastore X hf dX11_partsRest_59 (fun h2 hf => ?_)
    refine g_aload_n X dX11_partsRest_60 1 rfl ?_
    refine g_iload X dX11_partsRest_61 7 rfl ?_
    refine g_iload X dX11_partsRest_63 8 rfl ?_
    refine g_iconst (v := 1) X dX11_partsRest_65 (by decide) ?_
    refine g_iload X dX11_partsRest_66 4 rfl ?_
    refine g_ishl X dX11_partsRest_68 ?_
    refine g_ior X dX11_partsRest_69 ?_
    refine g_iastore X hf dX11_partsRest_70 (fun h3 hf => ?_)
    refine g_aload_n X dX11_partsRest_71 0 rfl ?_
    refine g_aload_n X dX11_partsRest_72 1 rfl ?_
    refine g_aload_n X dX11_partsRest_73 2 rfl ?_
    refine g_iload_n X dX11_partsRest_74 3 rfl ?_
    refine g_iload X dX11_partsRest_75 4 rfl ?_
    refine g_iconst (v := 1) X dX11_partsRest_77 (by decide) ?_
    refine g_iadd X dX11_partsRest_78 ?_
    refine g_iload X dX11_partsRest_79 5 rfl ?_
    refine g_iload X dX11_partsRest_81 7 rfl ?_
    refine g_iconst (v := 1) X dX11_partsRest_83 (by decide) ?_
    refine g_iadd X dX11_partsRest_84 ?_
    refine g_mmax X tb_972 tb_492 tb_13 tb_493 ⟨Nat.le_of_ble_eq_true rfl, Nat.le_of_ble_eq_true rfl⟩ ⟨Nat.le_of_ble_eq_true rfl, Nat.le_of_ble_eq_true rfl⟩ dX11_partsRest_85 ?_
    refine g_iload X dX11_partsRest_88 6 rfl ?_
    refine g_callS (n := 7) (av := [tR x0, tR x1, tR x2, tI x3, tI (x4 + 1), tI (mMax x5 (x7 + 1)), tI x6]) (rest := []) X hf (fun p4 => (some (tI p4.1), p4.2)) (fun _ q => hkr q) (gdS tb_969 tb_970 tb_1 tb_971) rfl (by decide +kernel) rfl (by constructor <;> simp only [rmD] <;> omega) ⟨Nat.zero_le _, Nat.zero_le _⟩ rfl (Nat.le_of_ble_eq_true rfl) dX11_partsRest_90 (fun p4 hf => ?_)
    refine g_ifeq (tgt := 98) X hf dX11_partsRest_93 (by decide) (fun hf => ?_) (fun hf => ?_)
    · refine g_aload_n X dX11_partsRest_98 1 rfl ?_
      refine g_iload X dX11_partsRest_99 7 rfl ?_
      refine g_iload X dX11_partsRest_101 8 rfl ?_
      refine g_iastore X hf dX11_partsRest_103 (fun h5 hf => ?_)
      refine g_iinc (v := (x7 + 1)) (lv' := [(0, tR x0), (1, tR x1), (2, tR x2), (3, tI x3), (4, tI x4), (5, tI x5), (6, tI x6), (7, tI (x7 + 1)), (8, tI s0)]) X dX11_partsRest_104 7 rfl (by rfl) (by decide) (in_pick [1, 2, 3, 4, 5, 6, 7, 0, 8] rfl) ?_
      refine g_goto (tgt := 11) X dX11_partsRest_107 (by decide) ?_
      refine g_locs (lv' := [(0, tR x0), (1, tR x1), (2, tR x2), (3, tI x3), (4, tI x4), (5, tI x5), (6, tI x6), (7, tI (x7 + 1))]) (in_pick [0, 1, 2, 3, 4, 5, 6, 7] rfl) ?_
      exact hk11 x0 x1 x2 x3 x4 x5 x6 (x7 + 1) h5 hf
    · refine g_iconst (v := 1) X dX11_partsRest_96 (by decide) ?_
      exact g_zreturn X (zW hf) (by decide) (by decide) (by decide) dX11_partsRest_97
  · refine g_iinc (v := (x7 + 1)) (lv' := [(0, tR x0), (1, tR x1), (2, tR x2), (3, tI x3), (4, tI x4), (5, tI x5), (6, tI x6), (7, tI (x7 + 1)), (8, tI s0)]) X dX11_partsRest_104 7 rfl (by rfl) (by decide) (in_pick [1, 2, 3, 4, 5, 6, 7, 0, 8] rfl) ?_
    refine g_goto (tgt := 11) X dX11_partsRest_107 (by decide) ?_
    refine g_locs (lv' := [(0, tR x0), (1, tR x1), (2, tR x2), (3, tI x3), (4, tI x4), (5, tI x5), (6, tI x6), (7, tI (x7 + 1))]) (in_pick [0, 1, 2, 3, 4, 5, 6, 7] rfl) ?_
    exact hk11 x0 x1 x2 x3 x4 x5 x6 (x7 + 1) h hf
def b_X11_partsRest_11 (kr : Option Nat → Option Nat → Option Nat → Int32 → Int32 → Int32 → Int32 → AH → Option (Int32 × AH))   : Nat → Option Nat → Option Nat → Option Nat → Int32 → Int32 → Int32 → Int32 → Int32 → AH → Option (Int32 × AH)
  | 0 => fun _ _ _ _ _ _ _ _ _ => none
  | n + 1 => fun x0 x1 x2 x3 x4 x5 x6 x7 h =>
    if x5 < x7 then
      some (0, h)
    else
      if x7 < x6 then
        if x7 < x5 then
          (aI h x1 x7).bind fun v1 =>
          b_X11_partsRest_40 kr (b_X11_partsRest_11 kr n) x0 x1 x2 x3 x4 x5 x6 x7 v1 h
        else
          b_X11_partsRest_40 kr (b_X11_partsRest_11 kr n) x0 x1 x2 x3 x4 x5 x6 x7 0 h
      else
        some (0, h)
set_option maxRecDepth 20000 in
theorem w_X11_partsRest_11 {K : KT} {w : (Int32 × AH)}  {dd : Nat} {kr : Option Nat → Option Nat → Option Nat → Int32 → Int32 → Int32 → Int32 → AH → Option (Int32 × AH)} (hdd : 0 ≤ dd) (hkr : ∀ {b0 : Option Nat} {b1 : Option Nat} {b2 : Option Nat} {b3 : Int32} {b4 : Int32} {b5 : Int32} {b6 : Int32} {h : AH} {v : (Int32 × AH)}, kr b0 b1 b2 b3 b4 b5 b6 h = some v → CT yX11_partsRest (wU yX11_partsRest cX11_partsRest 9 (some .boolean)) (rmD dd 0 0) 0 0 [tR b0, tR b1, tR b2, tI b3, tI b4, tI b5, tI b6] h (some (tI v.1), v.2)) (X : CX K cX11_partsRest RX11 TB (some .boolean) "partsRest" (rmD (dd + 1) 0 0) 9 0 0)  : ∀ (n : Nat) (x0 : Option Nat) (x1 : Option Nat) (x2 : Option Nat) (x3 : Int32) (x4 : Int32) (x5 : Int32) (x6 : Int32) (x7 : Int32) (h : AH), b_X11_partsRest_11 kr n x0 x1 x2 x3 x4 x5 x6 x7 h = some w → GG K (some (tI w.1), w.2) 0 0 11 [(0, tR x0), (1, tR x1), (2, tR x2), (3, tI x3), (4, tI x4), (5, tI x5), (6, tI x6), (7, tI x7)] [] h := by
  intro n
  induction n with
  | zero =>
    intro x0 x1 x2 x3 x4 x5 x6 x7 h hf
    cases (show none = some w from hf)
  | succ n ih =>
    intro x0 x1 x2 x3 x4 x5 x6 x7 h hf
    rw [b_X11_partsRest_11] at hf
    refine g_iload X dX11_partsRest_11 7 rfl ?_
    refine g_iload X dX11_partsRest_13 5 rfl ?_
    refine g_icmpgt (tgt := 110) X hf dX11_partsRest_15 (by decide) (fun hf => ?_) (fun hf => ?_)
    · refine g_iconst (v := 0) X dX11_partsRest_110 (by decide) ?_
      exact g_zreturn X (zW hf) (by decide) (by decide) (by decide) dX11_partsRest_111
    · refine g_iload X dX11_partsRest_18 7 rfl ?_
      refine g_iload X dX11_partsRest_20 6 rfl ?_
      refine g_icmpge (tgt := 110) X hf dX11_partsRest_22 (by decide) (fun hf => ?_) (fun hf => ?_)
      · refine g_iload X dX11_partsRest_25 7 rfl ?_
        refine g_iload X dX11_partsRest_27 5 rfl ?_
        refine g_icmpge (tgt := 39) X hf dX11_partsRest_29 (by decide) (fun hf => ?_) (fun hf => ?_)
        · refine g_aload_n X dX11_partsRest_32 1 rfl ?_
          refine g_iload X dX11_partsRest_33 7 rfl ?_
          refine g_iaload X hf dX11_partsRest_35 (fun v1 hf => ?_)
          refine g_goto (tgt := 40) X dX11_partsRest_36 (by decide) ?_
          exact w_X11_partsRest_40 hdd hkr X ih x0 x1 x2 x3 x4 x5 x6 x7 v1 h hf
        · refine g_iconst (v := 0) X dX11_partsRest_39 (by decide) ?_
          exact w_X11_partsRest_40 hdd hkr X ih x0 x1 x2 x3 x4 x5 x6 x7 0 h hf
      · refine g_iconst (v := 0) X dX11_partsRest_110 (by decide) ?_
        exact g_zreturn X (zW hf) (by decide) (by decide) (by decide) dX11_partsRest_111
def g_X11_partsRest (kr : Option Nat → Option Nat → Option Nat → Int32 → Int32 → Int32 → Int32 → AH → Option (Int32 × AH)) (a0 : Option Nat) (a1 : Option Nat) (a2 : Option Nat) (a3 : Int32) (a4 : Int32) (a5 : Int32) (a6 : Int32) (h : AH) : Option (Int32 × AH) :=
  if a4 < a3 then
    b_X11_partsRest_11 kr FU a0 a1 a2 a3 a4 a5 a6 0 h
  else
    some (1, h)
set_option maxRecDepth 20000 in
theorem mg_X11_partsRest {dd : Nat} {kr : Option Nat → Option Nat → Option Nat → Int32 → Int32 → Int32 → Int32 → AH → Option (Int32 × AH)} (hdd : 0 ≤ dd) (hkr : ∀ {b0 : Option Nat} {b1 : Option Nat} {b2 : Option Nat} {b3 : Int32} {b4 : Int32} {b5 : Int32} {b6 : Int32} {h : AH} {v : (Int32 × AH)}, kr b0 b1 b2 b3 b4 b5 b6 h = some v → CT yX11_partsRest (wU yX11_partsRest cX11_partsRest 9 (some .boolean)) (rmD dd 0 0) 0 0 [tR b0, tR b1, tR b2, tI b3, tI b4, tI b5, tI b6] h (some (tI v.1), v.2)) {a0 : Option Nat} {a1 : Option Nat} {a2 : Option Nat} {a3 : Int32} {a4 : Int32} {a5 : Int32} {a6 : Int32} {h : AH} {w : (Int32 × AH)} (hf : g_X11_partsRest kr a0 a1 a2 a3 a4 a5 a6 h = some w) : CT yX11_partsRest (wU yX11_partsRest cX11_partsRest 9 (some .boolean)) (rmD (dd + 1) 0 0) 0 0 [tR a0, tR a1, tR a2, tI a3, tI a4, tI a5, tI a6] h (some (tI w.1), w.2) := by
  refine CT.of (cc := cX11_partsRest) (nL := 9) (ret := (some .boolean)) (by decide) (by simp [lg_sl, vOf_cat, wOf]) ?_
  intro K X
  refine g_locs (lv' := [(0, tR a0), (1, tR a1), (2, tR a2), (3, tI a3), (4, tI a4), (5, tI a5), (6, tI a6)]) (fun q hq => hq) ?_
  unfold g_X11_partsRest at hf
  refine g_iload X dX11_partsRest_0 4 rfl ?_
  refine g_iload_n X dX11_partsRest_2 3 rfl ?_
  refine g_icmplt (tgt := 8) X hf dX11_partsRest_3 (by decide) (fun hf => ?_) (fun hf => ?_)
  · refine g_iconst (v := 0) X dX11_partsRest_8 (by decide) ?_
    refine g_istore (lv' := [(0, tR a0), (1, tR a1), (2, tR a2), (3, tI a3), (4, tI a4), (5, tI a5), (6, tI a6), (7, tI 0)]) X dX11_partsRest_9 (by decide) (in_pick [1, 2, 3, 4, 5, 6, 7, 0] rfl) ?_
    exact w_X11_partsRest_11 hdd hkr X FU a0 a1 a2 a3 a4 a5 a6 0 h hf
  · refine g_iconst (v := 1) X dX11_partsRest_6 (by decide) ?_
    exact g_zreturn X (zW hf) (by decide) (by decide) (by decide) dX11_partsRest_7
def f_X11_partsRest : Nat → Option Nat → Option Nat → Option Nat → Int32 → Int32 → Int32 → Int32 → AH → Option (Int32 × AH)
  | 0 => fun _ _ _ _ _ _ _ _ => none
  | n + 1 => fun a0 a1 a2 a3 a4 a5 a6 h => g_X11_partsRest (f_X11_partsRest n) a0 a1 a2 a3 a4 a5 a6 h
theorem m_X11_partsRest : ∀ (n : Nat) {a0 : Option Nat} {a1 : Option Nat} {a2 : Option Nat} {a3 : Int32} {a4 : Int32} {a5 : Int32} {a6 : Int32} {h : AH} {w : (Int32 × AH)}, f_X11_partsRest n a0 a1 a2 a3 a4 a5 a6 h = some w → CT yX11_partsRest (wU yX11_partsRest cX11_partsRest 9 (some .boolean)) (rmD (0 + 1 * n) 0 0) 0 0 [tR a0, tR a1, tR a2, tI a3, tI a4, tI a5, tI a6] h (some (tI w.1), w.2) := by
  intro n
  induction n with
  | zero =>
    intro a0 a1 a2 a3 a4 a5 a6 h w hf
    cases (show none = some w from hf)
  | succ n ih =>
    intro a0 a1 a2 a3 a4 a5 a6 h w hf
    have hf : g_X11_partsRest (f_X11_partsRest n) a0 a1 a2 a3 a4 a5 a6 h = some w := hf
    rw [show 0 + 1 * (n + 1) = 0 + 1 * n + 1 by omega]
    exact mg_X11_partsRest (dd := 0 + 1 * n) (by omega) (fun q => ih q) hf
def b_X11_partHeap_87    : Nat → Option Nat → Int32 → AH → Option (Int32 × AH)
  | 0 => fun _ _ _ => none
  | n + 1 => fun x0 x1 h =>
    (gR 11 0 h x0).bind fun v1 =>
    (gI 2 18 h v1).bind fun v2 =>
    if x1 < v2 then
      (gR 11 16 h x0).bind fun v3 =>
      (gR 11 15 h x0).bind fun v4 =>
      (gR 11 14 h x0).bind fun v5 =>
      (gR 11 0 h x0).bind fun v6 =>
      (gI 2 18 h v6).bind fun v7 =>
      (f_X11_partsRest 12 v3 v4 v5 v7 0 0 x1 h).bind fun p8 =>
      if p8.1 = 0 then
        b_X11_partHeap_87 n x0 (x1 + 1) p8.2
      else
        some (x1, p8.2)
    else
      (gR 11 16 h x0).bind fun v9 =>
      (gR 11 15 h x0).bind fun v10 =>
      (gR 11 14 h x0).bind fun v11 =>
      (gR 11 0 h x0).bind fun v12 =>
      (gI 2 18 h v12).bind fun v13 =>
      (gR 11 0 h x0).bind fun v14 =>
      (gI 2 18 h v14).bind fun v15 =>
      (f_X11_partsRest 12 v9 v10 v11 v13 0 0 v15 h).bind fun p16 =>
      (gR 11 0 p16.2 x0).bind fun v17 =>
      (gI 2 18 p16.2 v17).bind fun v18 =>
      some (v18, p16.2)
set_option maxRecDepth 20000 in
theorem w_X11_partHeap_87 {K : KT} {w : (Int32 × AH)}   (X : CX K cX11_partHeap RX11 TB (some .int) "partHeap" (rmD 13 0 0) 3 0 0)  : ∀ (n : Nat) (x0 : Option Nat) (x1 : Int32) (h : AH), b_X11_partHeap_87 n x0 x1 h = some w → GG K (some (tI w.1), w.2) 0 0 87 [(0, tR x0), (1, tI x1)] [] h := by
  intro n
  induction n with
  | zero =>
    intro x0 x1 h hf
    cases (show none = some w from hf)
  | succ n ih =>
    intro x0 x1 h hf
    rw [b_X11_partHeap_87] at hf
    refine g_iload_n X dX11_partHeap_87 1 rfl ?_
    refine g_aload_n X dX11_partHeap_88 0 rfl ?_
    refine g_getR X hf (T := TX11) rfl (by decide) (by decide) in_RX11 tb_350 rfl dX11_partHeap_89 (fun v1 hf => ?_)
    refine g_getI X hf (T := TX2) rfl (by decide) (by decide) in_RX2 tb_248 rfl dX11_partHeap_92 (fun v2 hf => ?_)
    refine g_icmpge (tgt := 134) X hf dX11_partHeap_95 (by decide) (fun hf => ?_) (fun hf => ?_)
    · refine g_aload_n X dX11_partHeap_98 0 rfl ?_
      refine g_getR X hf (T := TX11) rfl (by decide) (by decide) in_RX11 tb_366 rfl dX11_partHeap_99 (fun v3 hf => ?_)
      refine g_aload_n X dX11_partHeap_102 0 rfl ?_
      refine g_getR X hf (T := TX11) rfl (by decide) (by decide) in_RX11 tb_365 rfl dX11_partHeap_103 (fun v4 hf => ?_)
      refine g_aload_n X dX11_partHeap_106 0 rfl ?_
      refine g_getR X hf (T := TX11) rfl (by decide) (by decide) in_RX11 tb_364 rfl dX11_partHeap_107 (fun v5 hf => ?_)
      refine g_aload_n X dX11_partHeap_110 0 rfl ?_
      refine g_getR X hf (T := TX11) rfl (by decide) (by decide) in_RX11 tb_350 rfl dX11_partHeap_111 (fun v6 hf => ?_)
      refine g_getI X hf (T := TX2) rfl (by decide) (by decide) in_RX2 tb_248 rfl dX11_partHeap_114 (fun v7 hf => ?_)
      refine g_iconst (v := 0) X dX11_partHeap_117 (by decide) ?_
      refine g_iconst (v := 0) X dX11_partHeap_118 (by decide) ?_
      refine g_iload_n X dX11_partHeap_119 1 rfl ?_
      refine g_callS (n := 7) (av := [tR v3, tR v4, tR v5, tI v7, tI 0, tI 0, tI x1]) (rest := []) X hf (fun p8 => (some (tI p8.1), p8.2)) (fun _ q => m_X11_partsRest 12 q) (gdS tb_969 tb_970 tb_1 tb_971) rfl (by decide +kernel) rfl (by decide) (by decide) rfl (Nat.le_of_ble_eq_true rfl) dX11_partHeap_120 (fun p8 hf => ?_)
      refine g_ifeq (tgt := 128) X hf dX11_partHeap_123 (by decide) (fun hf => ?_) (fun hf => ?_)
      · refine g_iinc (v := (x1 + 1)) (lv' := [(0, tR x0), (1, tI (x1 + 1))]) X dX11_partHeap_128 1 rfl (by rfl) (by decide) (in_pick [1, 0] rfl) ?_
        refine g_goto (tgt := 87) X dX11_partHeap_131 (by decide) ?_
        exact ih x0 (x1 + 1) p8.2 hf
      · refine g_iload_n X dX11_partHeap_126 1 rfl ?_
        exact g_ireturn X (zW hf) (by decide) (by decide) dX11_partHeap_127
    · refine g_aload_n X dX11_partHeap_134 0 rfl ?_
      refine g_getR X hf (T := TX11) rfl (by decide) (by decide) in_RX11 tb_366 rfl dX11_partHeap_135 (fun v9 hf => ?_)
      refine g_aload_n X dX11_partHeap_138 0 rfl ?_
      refine g_getR X hf (T := TX11) rfl (by decide) (by decide) in_RX11 tb_365 rfl dX11_partHeap_139 (fun v10 hf => ?_)
      refine g_aload_n X dX11_partHeap_142 0 rfl ?_
      refine g_getR X hf (T := TX11) rfl (by decide) (by decide) in_RX11 tb_364 rfl dX11_partHeap_143 (fun v11 hf => ?_)
      refine g_aload_n X dX11_partHeap_146 0 rfl ?_
      refine g_getR X hf (T := TX11) rfl (by decide) (by decide) in_RX11 tb_350 rfl dX11_partHeap_147 (fun v12 hf => ?_)
      refine g_getI X hf (T := TX2) rfl (by decide) (by decide) in_RX2 tb_248 rfl dX11_partHeap_150 (fun v13 hf => ?_)
      refine g_iconst (v := 0) X dX11_partHeap_153 (by decide) ?_
      refine g_iconst (v := 0) X dX11_partHeap_154 (by decide) ?_
      refine g_aload_n X dX11_partHeap_155 0 rfl ?_
      refine g_getR X hf (T := TX11) rfl (by decide) (by decide) in_RX11 tb_350 rfl dX11_partHeap_156 (fun v14 hf => ?_)
      refine g_getI X hf (T := TX2) rfl (by decide) (by decide) in_RX2 tb_248 rfl dX11_partHeap_159 (fun v15 hf => ?_)
      refine g_callS (n := 7) (av := [tR v9, tR v10, tR v11, tI v13, tI 0, tI 0, tI v15]) (rest := []) X hf (fun p16 => (some (tI p16.1), p16.2)) (fun _ q => m_X11_partsRest 12 q) (gdS tb_969 tb_970 tb_1 tb_971) rfl (by decide +kernel) rfl (by decide) (by decide) rfl (Nat.le_of_ble_eq_true rfl) dX11_partHeap_162 (fun p16 hf => ?_)
      refine g_pop X dX11_partHeap_165 rfl ?_
      refine g_aload_n X dX11_partHeap_166 0 rfl ?_
      refine g_getR X hf (T := TX11) rfl (by decide) (by decide) in_RX11 tb_350 rfl dX11_partHeap_167 (fun v17 hf => ?_)
      refine g_getI X hf (T := TX2) rfl (by decide) (by decide) in_RX2 tb_248 rfl dX11_partHeap_170 (fun v18 hf => ?_)
      exact g_ireturn X (zW hf) (by decide) (by decide) dX11_partHeap_173
def b_X11_partHeap_22  (k2 : Option Nat → Int32 → AH → Option (Int32 × AH))  : Nat → Option Nat → Int32 → Int32 → AH → Option (Int32 × AH)
  | 0 => fun _ _ _ _ => none
  | n + 1 => fun x0 x1 x2 h =>
    (gR 11 0 h x0).bind fun v1 =>
    (gI 2 18 h v1).bind fun v2 =>
    if x2 < v2 then
      (gR 11 0 h x0).bind fun v3 =>
      (gR 11 0 h x0).bind fun v4 =>
      (gR 2 17 h v4).bind fun v5 =>
      (aI h v5 x1).bind fun v6 =>
      (gR 11 0 h x0).bind fun v7 =>
      (gR 2 17 h v7).bind fun v8 =>
      (aI h v8 x2).bind fun v9 =>
      (ck 2 h v3 (f_X2_areAlike v3 v6 v9 h)).bind fun v10 =>
      if v10 = 0 then
        b_X11_partHeap_22 k2 n x0 x1 (x2 + 1) h
      else
        (gR 11 16 h x0).bind fun v11 =>
        (aI h v11 x1).bind fun v12 =>
        (sI h v11 x1 (v12 ||| (1 <<< (x2 &&& 31)))).bind fun h13 =>
        b_X11_partHeap_22 k2 n x0 x1 (x2 + 1) h13
    else
      k2 x0 (x1 + 1) h
set_option maxRecDepth 20000 in
theorem w_X11_partHeap_22 {K : KT} {w : (Int32 × AH)} {k2 : Option Nat → Int32 → AH → Option (Int32 × AH)}  (X : CX K cX11_partHeap RX11 TB (some .int) "partHeap" (rmD 13 0 0) 3 0 0) (hk2 : ∀ (x0 : Option Nat) (x1 : Int32) (h : AH), k2 x0 x1 h = some w → GG K (some (tI w.1), w.2) 0 0 2 [(0, tR x0), (1, tI x1)] [] h) : ∀ (n : Nat) (x0 : Option Nat) (x1 : Int32) (x2 : Int32) (h : AH), b_X11_partHeap_22 k2 n x0 x1 x2 h = some w → GG K (some (tI w.1), w.2) 0 0 22 [(0, tR x0), (1, tI x1), (2, tI x2)] [] h := by
  intro n
  induction n with
  | zero =>
    intro x0 x1 x2 h hf
    cases (show none = some w from hf)
  | succ n ih =>
    intro x0 x1 x2 h hf
    rw [b_X11_partHeap_22] at hf
    refine g_iload_n X dX11_partHeap_22 2 rfl ?_
    refine g_aload_n X dX11_partHeap_23 0 rfl ?_
    refine g_getR X hf (T := TX11) rfl (by decide) (by decide) in_RX11 tb_350 rfl dX11_partHeap_24 (fun v1 hf => ?_)
    refine g_getI X hf (T := TX2) rfl (by decide) (by decide) in_RX2 tb_248 rfl dX11_partHeap_27 (fun v2 hf => ?_)
    refine g_icmpge (tgt := 79) X hf dX11_partHeap_30 (by decide) (fun hf => ?_) (fun hf => ?_)
    · refine g_aload_n X dX11_partHeap_33 0 rfl ?_
      refine g_getR X hf (T := TX11) rfl (by decide) (by decide) in_RX11 tb_350 rfl dX11_partHeap_34 (fun v3 hf => ?_)
      refine g_aload_n X dX11_partHeap_37 0 rfl ?_
      refine g_getR X hf (T := TX11) rfl (by decide) (by decide) in_RX11 tb_350 rfl dX11_partHeap_38 (fun v4 hf => ?_)
      refine g_getR X hf (T := TX2) rfl (by decide) (by decide) in_RX2 tb_246 rfl dX11_partHeap_41 (fun v5 hf => ?_)
      refine g_iload_n X dX11_partHeap_44 1 rfl ?_
      refine g_iaload X hf dX11_partHeap_45 (fun v6 hf => ?_)
      refine g_aload_n X dX11_partHeap_46 0 rfl ?_
      refine g_getR X hf (T := TX11) rfl (by decide) (by decide) in_RX11 tb_350 rfl dX11_partHeap_47 (fun v7 hf => ?_)
      refine g_getR X hf (T := TX2) rfl (by decide) (by decide) in_RX2 tb_246 rfl dX11_partHeap_50 (fun v8 hf => ?_)
      refine g_iload_n X dX11_partHeap_53 2 rfl ?_
      refine g_iaload X hf dX11_partHeap_54 (fun v9 hf => ?_)
      refine g_callV (n := 2) (av := [tI v6, tI v9]) (rest := []) (k := 2) X hf (fun v10 => (some (tI v10), h)) (fun _ q => m_X2_areAlike q) (gdV tb_958 tb_959 tb_960 tb_2 tb_961) rfl (by decide +kernel) rfl (by decide) rfl (by decide) (by decide) rfl (Nat.le_of_ble_eq_true rfl) dX11_partHeap_55 (fun v10 hf => ?_)
      refine g_ifeq (tgt := 73) X hf dX11_partHeap_58 (by decide) (fun hf => ?_) (fun hf => ?_)
      · refine g_iinc (v := (x2 + 1)) (lv' := [(0, tR x0), (1, tI x1), (2, tI (x2 + 1))]) X dX11_partHeap_73 2 rfl (by rfl) (by decide) (in_pick [1, 2, 0] rfl) ?_
        refine g_goto (tgt := 22) X dX11_partHeap_76 (by decide) ?_
        exact ih x0 x1 (x2 + 1) h hf
      · refine g_aload_n X dX11_partHeap_61 0 rfl ?_
        refine g_getR X hf (T := TX11) rfl (by decide) (by decide) in_RX11 tb_366 rfl dX11_partHeap_62 (fun v11 hf => ?_)
        refine g_iload_n X dX11_partHeap_65 1 rfl ?_
        refine g_dup2 X dX11_partHeap_66 rfl rfl ?_
        refine g_iaload X hf dX11_partHeap_67 (fun v12 hf => ?_)
        refine g_iconst (v := 1) X dX11_partHeap_68 (by decide) ?_
        refine g_iload_n X dX11_partHeap_69 2 rfl ?_
        refine g_ishl X dX11_partHeap_70 ?_
        refine g_ior X dX11_partHeap_71 ?_
        refine g_iastore X hf dX11_partHeap_72 (fun h13 hf => ?_)
        refine g_iinc (v := (x2 + 1)) (lv' := [(0, tR x0), (1, tI x1), (2, tI (x2 + 1))]) X dX11_partHeap_73 2 rfl (by rfl) (by decide) (in_pick [1, 2, 0] rfl) ?_
        refine g_goto (tgt := 22) X dX11_partHeap_76 (by decide) ?_
        exact ih x0 x1 (x2 + 1) h13 hf
    · refine g_iinc (v := (x1 + 1)) (lv' := [(0, tR x0), (1, tI (x1 + 1)), (2, tI x2)]) X dX11_partHeap_79 1 rfl (by rfl) (by decide) (in_pick [1, 0, 2] rfl) ?_
      refine g_goto (tgt := 2) X dX11_partHeap_82 (by decide) ?_
      refine g_locs (lv' := [(0, tR x0), (1, tI (x1 + 1))]) (in_pick [0, 1] rfl) ?_
      exact hk2 x0 (x1 + 1) h hf
def b_X11_partHeap_2    : Nat → Option Nat → Int32 → AH → Option (Int32 × AH)
  | 0 => fun _ _ _ => none
  | n + 1 => fun x0 x1 h =>
    (gR 11 0 h x0).bind fun v1 =>
    (gI 2 18 h v1).bind fun v2 =>
    if x1 < v2 then
      (gR 11 16 h x0).bind fun v3 =>
      (sI h v3 x1 0).bind fun h4 =>
      b_X11_partHeap_22 (b_X11_partHeap_2 n) FU x0 x1 0 h4
    else
      b_X11_partHeap_87 FU x0 0 h
set_option maxRecDepth 20000 in
theorem w_X11_partHeap_2 {K : KT} {w : (Int32 × AH)}   (X : CX K cX11_partHeap RX11 TB (some .int) "partHeap" (rmD 13 0 0) 3 0 0)  : ∀ (n : Nat) (x0 : Option Nat) (x1 : Int32) (h : AH), b_X11_partHeap_2 n x0 x1 h = some w → GG K (some (tI w.1), w.2) 0 0 2 [(0, tR x0), (1, tI x1)] [] h := by
  intro n
  induction n with
  | zero =>
    intro x0 x1 h hf
    cases (show none = some w from hf)
  | succ n ih =>
    intro x0 x1 h hf
    rw [b_X11_partHeap_2] at hf
    refine g_iload_n X dX11_partHeap_2 1 rfl ?_
    refine g_aload_n X dX11_partHeap_3 0 rfl ?_
    refine g_getR X hf (T := TX11) rfl (by decide) (by decide) in_RX11 tb_350 rfl dX11_partHeap_4 (fun v1 hf => ?_)
    refine g_getI X hf (T := TX2) rfl (by decide) (by decide) in_RX2 tb_248 rfl dX11_partHeap_7 (fun v2 hf => ?_)
    refine g_icmpge (tgt := 85) X hf dX11_partHeap_10 (by decide) (fun hf => ?_) (fun hf => ?_)
    · refine g_aload_n X dX11_partHeap_13 0 rfl ?_
      refine g_getR X hf (T := TX11) rfl (by decide) (by decide) in_RX11 tb_366 rfl dX11_partHeap_14 (fun v3 hf => ?_)
      refine g_iload_n X dX11_partHeap_17 1 rfl ?_
      refine g_iconst (v := 0) X dX11_partHeap_18 (by decide) ?_
      refine g_iastore X hf dX11_partHeap_19 (fun h4 hf => ?_)
      refine g_iconst (v := 0) X dX11_partHeap_20 (by decide) ?_
      refine g_istore_n (lv' := [(0, tR x0), (1, tI x1), (2, tI 0)]) X dX11_partHeap_21 (by decide) (in_pick [1, 2, 0] rfl) ?_
      exact w_X11_partHeap_22 X ih FU x0 x1 0 h4 hf
    · refine g_iconst (v := 0) X dX11_partHeap_85 (by decide) ?_
      refine g_istore_n (lv' := [(0, tR x0), (1, tI 0)]) X dX11_partHeap_86 (by decide) (in_pick [1, 0] rfl) ?_
      exact w_X11_partHeap_87 X FU x0 0 h hf
def f_X11_partHeap  (a0 : Option Nat) (h : AH) : Option (Int32 × AH) :=
  b_X11_partHeap_2 FU a0 0 h
set_option maxRecDepth 20000 in
theorem m_X11_partHeap  {a0 : Option Nat} {h : AH} {w : (Int32 × AH)} (hf : f_X11_partHeap a0 h = some w) : CT yX11_partHeap (wU yX11_partHeap cX11_partHeap 3 (some .int)) (rmD 13 0 0) 0 0 [tR a0] h (some (tI w.1), w.2) := by
  refine CT.of (cc := cX11_partHeap) (nL := 3) (ret := (some .int)) (by decide) (by simp [lg_sl, vOf_cat, wOf]) ?_
  intro K X
  refine g_locs (lv' := [(0, tR a0)]) (fun q hq => hq) ?_
  unfold f_X11_partHeap at hf
  refine g_iconst (v := 0) X dX11_partHeap_0 (by decide) ?_
  refine g_istore_n (lv' := [(0, tR a0), (1, tI 0)]) X dX11_partHeap_1 (by decide) (in_pick [1, 0] rfl) ?_
  exact w_X11_partHeap_2 X FU a0 0 h hf
def b_X11_hiredOf_18  (k4 : Option Nat → Int32 → Int32 → Int32 → Option Int32) (h : AH) : Nat → Option Nat → Int32 → Int32 → Int32 → Int32 → Int32 → Int32 → Option Int32
  | 0 => fun _ _ _ _ _ _ _ => none
  | n + 1 => fun x0 x1 x2 x3 x4 x5 x6 =>
    (gR 11 0 h x0).bind fun v1 =>
    (gI 2 18 h v1).bind fun v2 =>
    if x6 < v2 then
      (gR 11 14 h x0).bind fun v3 =>
      (aI h v3 x6).bind fun v4 =>
      if v4 = x3 then
        (gR 11 0 h x0).bind fun v5 =>
        (gR 2 11 h v5).bind fun v6 =>
        (gR 11 0 h x0).bind fun v7 =>
        (gR 2 17 h v7).bind fun v8 =>
        (aI h v8 x6).bind fun v9 =>
        (aR h v6 v9).bind fun v10 =>
        (ck 8 h v10 (f_X8_gateBit v10 h)).bind fun v11 =>
        b_X11_hiredOf_18 k4 h n x0 x1 x2 x3 (x4 + 1) (x5 ||| v11) (x6 + 1)
      else
        b_X11_hiredOf_18 k4 h n x0 x1 x2 x3 x4 x5 (x6 + 1)
    else
      if x4 < 3 then
        k4 x0 x1 x2 (x3 + 1)
      else
        (f_J6_bitCount_0f7a4 x5 h).bind fun v12 =>
        if v12 < 2 then
          k4 x0 x1 x2 (x3 + 1)
        else
          k4 x0 x1 (x2 + 1) (x3 + 1)
set_option maxRecDepth 20000 in
theorem w_X11_hiredOf_18 {K : KT} {w : Int32} {h : AH} {k4 : Option Nat → Int32 → Int32 → Int32 → Option Int32}  (X : CX K cX11_hiredOf RX11 TB (some .int) "hiredOf" (rmD 2 0 0) 7 0 0) (hk4 : ∀ (x0 : Option Nat) (x1 : Int32) (x2 : Int32) (x3 : Int32), k4 x0 x1 x2 x3 = some w → GG K (some (tI w), h) 0 0 4 [(0, tR x0), (1, tI x1), (2, tI x2), (3, tI x3)] [] h) : ∀ (n : Nat) (x0 : Option Nat) (x1 : Int32) (x2 : Int32) (x3 : Int32) (x4 : Int32) (x5 : Int32) (x6 : Int32), b_X11_hiredOf_18 k4 h n x0 x1 x2 x3 x4 x5 x6 = some w → GG K (some (tI w), h) 0 0 18 [(0, tR x0), (1, tI x1), (2, tI x2), (3, tI x3), (4, tI x4), (5, tI x5), (6, tI x6)] [] h := by
  intro n
  induction n with
  | zero =>
    intro x0 x1 x2 x3 x4 x5 x6 hf
    cases (show none = some w from hf)
  | succ n ih =>
    intro x0 x1 x2 x3 x4 x5 x6 hf
    rw [b_X11_hiredOf_18] at hf
    refine g_iload X dX11_hiredOf_18 6 rfl ?_
    refine g_aload_n X dX11_hiredOf_20 0 rfl ?_
    refine g_getR X hf (T := TX11) rfl (by decide) (by decide) in_RX11 tb_350 rfl dX11_hiredOf_21 (fun v1 hf => ?_)
    refine g_getI X hf (T := TX2) rfl (by decide) (by decide) in_RX2 tb_248 rfl dX11_hiredOf_24 (fun v2 hf => ?_)
    refine g_icmpge (tgt := 76) X hf dX11_hiredOf_27 (by decide) (fun hf => ?_) (fun hf => ?_)
    · refine g_aload_n X dX11_hiredOf_30 0 rfl ?_
      refine g_getR X hf (T := TX11) rfl (by decide) (by decide) in_RX11 tb_364 rfl dX11_hiredOf_31 (fun v3 hf => ?_)
      refine g_iload X dX11_hiredOf_34 6 rfl ?_
      refine g_iaload X hf dX11_hiredOf_36 (fun v4 hf => ?_)
      refine g_iload_n X dX11_hiredOf_37 3 rfl ?_
      refine g_icmpne (tgt := 70) X hf dX11_hiredOf_38 (by decide) (fun hf => ?_) (fun hf => ?_)
      · refine g_iinc (v := (x4 + 1)) (lv' := [(0, tR x0), (1, tI x1), (2, tI x2), (3, tI x3), (4, tI (x4 + 1)), (5, tI x5), (6, tI x6)]) X dX11_hiredOf_41 4 rfl (by rfl) (by decide) (in_pick [1, 2, 3, 4, 0, 5, 6] rfl) ?_
        refine g_iload X dX11_hiredOf_44 5 rfl ?_
        refine g_aload_n X dX11_hiredOf_46 0 rfl ?_
        refine g_getR X hf (T := TX11) rfl (by decide) (by decide) in_RX11 tb_350 rfl dX11_hiredOf_47 (fun v5 hf => ?_)
        refine g_getR X hf (T := TX2) rfl (by decide) (by decide) in_RX2 tb_234 rfl dX11_hiredOf_50 (fun v6 hf => ?_)
        refine g_aload_n X dX11_hiredOf_53 0 rfl ?_
        refine g_getR X hf (T := TX11) rfl (by decide) (by decide) in_RX11 tb_350 rfl dX11_hiredOf_54 (fun v7 hf => ?_)
        refine g_getR X hf (T := TX2) rfl (by decide) (by decide) in_RX2 tb_246 rfl dX11_hiredOf_57 (fun v8 hf => ?_)
        refine g_iload X dX11_hiredOf_60 6 rfl ?_
        refine g_iaload X hf dX11_hiredOf_62 (fun v9 hf => ?_)
        refine g_aaload X hf dX11_hiredOf_63 (fun v10 hf => ?_)
        refine g_callV (n := 0) (av := []) (rest := [tI x5]) (k := 8) X hf (fun v11 => (some (tI v11), h)) (fun _ q => m_X8_gateBit q) (gdV tb_976 tb_805 tb_806 tb_7 tb_807) rfl (by decide +kernel) rfl (by decide) rfl (by decide) (by decide) rfl (Nat.le_of_ble_eq_true rfl) dX11_hiredOf_64 (fun v11 hf => ?_)
        refine g_ior X dX11_hiredOf_67 ?_
        refine g_istore (lv' := [(0, tR x0), (1, tI x1), (2, tI x2), (3, tI x3), (4, tI (x4 + 1)), (5, tI (x5 ||| v11)), (6, tI x6)]) X dX11_hiredOf_68 (by decide) (in_pick [1, 2, 3, 4, 5, 0, 6] rfl) ?_
        refine g_iinc (v := (x6 + 1)) (lv' := [(0, tR x0), (1, tI x1), (2, tI x2), (3, tI x3), (4, tI (x4 + 1)), (5, tI (x5 ||| v11)), (6, tI (x6 + 1))]) X dX11_hiredOf_70 6 rfl (by rfl) (by decide) (in_pick [1, 2, 3, 4, 5, 6, 0] rfl) ?_
        refine g_goto (tgt := 18) X dX11_hiredOf_73 (by decide) ?_
        exact ih x0 x1 x2 x3 (x4 + 1) (x5 ||| v11) (x6 + 1) hf
      · refine g_iinc (v := (x6 + 1)) (lv' := [(0, tR x0), (1, tI x1), (2, tI x2), (3, tI x3), (4, tI x4), (5, tI x5), (6, tI (x6 + 1))]) X dX11_hiredOf_70 6 rfl (by rfl) (by decide) (in_pick [1, 2, 3, 4, 5, 6, 0] rfl) ?_
        refine g_goto (tgt := 18) X dX11_hiredOf_73 (by decide) ?_
        exact ih x0 x1 x2 x3 x4 x5 (x6 + 1) hf
    · refine g_iload X dX11_hiredOf_76 4 rfl ?_
      refine g_iconst (v := 3) X dX11_hiredOf_78 (by decide) ?_
      refine g_icmplt (tgt := 94) X hf dX11_hiredOf_79 (by decide) (fun hf => ?_) (fun hf => ?_)
      · refine g_iinc (v := (x3 + 1)) (lv' := [(0, tR x0), (1, tI x1), (2, tI x2), (3, tI (x3 + 1)), (4, tI x4), (5, tI x5), (6, tI x6)]) X dX11_hiredOf_94 3 rfl (by rfl) (by decide) (in_pick [1, 2, 3, 0, 4, 5, 6] rfl) ?_
        refine g_goto (tgt := 4) X dX11_hiredOf_97 (by decide) ?_
        refine g_locs (lv' := [(0, tR x0), (1, tI x1), (2, tI x2), (3, tI (x3 + 1))]) (in_pick [0, 1, 2, 3] rfl) ?_
        exact hk4 x0 x1 x2 (x3 + 1) hf
      · refine g_iload X dX11_hiredOf_82 5 rfl ?_
        refine g_callS (n := 1) (av := [tI x5]) (rest := []) X hf (fun v12 => (some (tI v12), h)) (fun _ q => m_J6_bitCount_0f7a4 q) (gdS tb_926 tb_612 tb_14 tb_613) rfl (by decide +kernel) rfl (by decide) (by decide) rfl (Nat.le_of_ble_eq_true rfl) dX11_hiredOf_84 (fun v12 hf => ?_)
        refine g_iconst (v := 2) X dX11_hiredOf_87 (by decide) ?_
        refine g_icmplt (tgt := 94) X hf dX11_hiredOf_88 (by decide) (fun hf => ?_) (fun hf => ?_)
        · refine g_iinc (v := (x3 + 1)) (lv' := [(0, tR x0), (1, tI x1), (2, tI x2), (3, tI (x3 + 1)), (4, tI x4), (5, tI x5), (6, tI x6)]) X dX11_hiredOf_94 3 rfl (by rfl) (by decide) (in_pick [1, 2, 3, 0, 4, 5, 6] rfl) ?_
          refine g_goto (tgt := 4) X dX11_hiredOf_97 (by decide) ?_
          refine g_locs (lv' := [(0, tR x0), (1, tI x1), (2, tI x2), (3, tI (x3 + 1))]) (in_pick [0, 1, 2, 3] rfl) ?_
          exact hk4 x0 x1 x2 (x3 + 1) hf
        · refine g_iinc (v := (x2 + 1)) (lv' := [(0, tR x0), (1, tI x1), (2, tI (x2 + 1)), (3, tI x3), (4, tI x4), (5, tI x5), (6, tI x6)]) X dX11_hiredOf_91 2 rfl (by rfl) (by decide) (in_pick [1, 2, 0, 3, 4, 5, 6] rfl) ?_
          refine g_iinc (v := (x3 + 1)) (lv' := [(0, tR x0), (1, tI x1), (2, tI (x2 + 1)), (3, tI (x3 + 1)), (4, tI x4), (5, tI x5), (6, tI x6)]) X dX11_hiredOf_94 3 rfl (by rfl) (by decide) (in_pick [1, 2, 3, 0, 4, 5, 6] rfl) ?_
          refine g_goto (tgt := 4) X dX11_hiredOf_97 (by decide) ?_
          refine g_locs (lv' := [(0, tR x0), (1, tI x1), (2, tI (x2 + 1)), (3, tI (x3 + 1))]) (in_pick [0, 1, 2, 3] rfl) ?_
          exact hk4 x0 x1 (x2 + 1) (x3 + 1) hf
def b_X11_hiredOf_4   (h : AH) : Nat → Option Nat → Int32 → Int32 → Int32 → Option Int32
  | 0 => fun _ _ _ _ => none
  | n + 1 => fun x0 x1 x2 x3 =>
    if x3 < x1 then
      b_X11_hiredOf_18 (b_X11_hiredOf_4 h n) h FU x0 x1 x2 x3 0 0 0
    else
      some x2
set_option maxRecDepth 20000 in
theorem w_X11_hiredOf_4 {K : KT} {w : Int32} {h : AH}   (X : CX K cX11_hiredOf RX11 TB (some .int) "hiredOf" (rmD 2 0 0) 7 0 0)  : ∀ (n : Nat) (x0 : Option Nat) (x1 : Int32) (x2 : Int32) (x3 : Int32), b_X11_hiredOf_4 h n x0 x1 x2 x3 = some w → GG K (some (tI w), h) 0 0 4 [(0, tR x0), (1, tI x1), (2, tI x2), (3, tI x3)] [] h := by
  intro n
  induction n with
  | zero =>
    intro x0 x1 x2 x3 hf
    cases (show none = some w from hf)
  | succ n ih =>
    intro x0 x1 x2 x3 hf
    rw [b_X11_hiredOf_4] at hf
    refine g_iload_n X dX11_hiredOf_4 3 rfl ?_
    refine g_iload_n X dX11_hiredOf_5 1 rfl ?_
    refine g_icmpge (tgt := 100) X hf dX11_hiredOf_6 (by decide) (fun hf => ?_) (fun hf => ?_)
    · refine g_iconst (v := 0) X dX11_hiredOf_9 (by decide) ?_
      refine g_istore (lv' := [(0, tR x0), (1, tI x1), (2, tI x2), (3, tI x3), (4, tI 0)]) X dX11_hiredOf_10 (by decide) (in_pick [1, 2, 3, 4, 0] rfl) ?_
      refine g_iconst (v := 0) X dX11_hiredOf_12 (by decide) ?_
      refine g_istore (lv' := [(0, tR x0), (1, tI x1), (2, tI x2), (3, tI x3), (4, tI 0), (5, tI 0)]) X dX11_hiredOf_13 (by decide) (in_pick [1, 2, 3, 4, 5, 0] rfl) ?_
      refine g_iconst (v := 0) X dX11_hiredOf_15 (by decide) ?_
      refine g_istore (lv' := [(0, tR x0), (1, tI x1), (2, tI x2), (3, tI x3), (4, tI 0), (5, tI 0), (6, tI 0)]) X dX11_hiredOf_16 (by decide) (in_pick [1, 2, 3, 4, 5, 6, 0] rfl) ?_
      exact w_X11_hiredOf_18 X ih FU x0 x1 x2 x3 0 0 0 hf
    · refine g_iload_n X dX11_hiredOf_100 2 rfl ?_
      exact g_ireturn X (zP hf) (by decide) (by decide) dX11_hiredOf_101
def f_X11_hiredOf  (a0 : Option Nat) (a1 : Int32) (h : AH) : Option Int32 :=
  b_X11_hiredOf_4 h FU a0 a1 0 0
set_option maxRecDepth 20000 in
theorem m_X11_hiredOf  {a0 : Option Nat} {a1 : Int32} {h : AH} {w : Int32} (hf : f_X11_hiredOf a0 a1 h = some w) : CT yX11_hiredOf (wU yX11_hiredOf cX11_hiredOf 7 (some .int)) (rmD 2 0 0) 0 0 [tR a0, tI a1] h (some (tI w), h) := by
  refine CT.of (cc := cX11_hiredOf) (nL := 7) (ret := (some .int)) (by decide) (by simp [lg_sl, vOf_cat, wOf]) ?_
  intro K X
  refine g_locs (lv' := [(0, tR a0), (1, tI a1)]) (fun q hq => hq) ?_
  unfold f_X11_hiredOf at hf
  refine g_iconst (v := 0) X dX11_hiredOf_0 (by decide) ?_
  refine g_istore_n (lv' := [(0, tR a0), (1, tI a1), (2, tI 0)]) X dX11_hiredOf_1 (by decide) (in_pick [1, 2, 0] rfl) ?_
  refine g_iconst (v := 0) X dX11_hiredOf_2 (by decide) ?_
  refine g_istore_n (lv' := [(0, tR a0), (1, tI a1), (2, tI 0), (3, tI 0)]) X dX11_hiredOf_3 (by decide) (in_pick [1, 2, 3, 0] rfl) ?_
  exact w_X11_hiredOf_4 X FU a0 a1 0 0 hf
def b_X11_hands_41   (x0 : Option Nat) (x1 : Int32) (h : AH) : Option (Int32 × AH) :=
  (ck 11 h x0 (f_X11_partHeap x0 h)).bind fun p1 =>
  if x1 = 0 then
    some (p1.1, p1.2)
  else
    if x1 = 1 then
      (ck 11 p1.2 x0 (f_X11_hiredOf x0 p1.1 p1.2)).bind fun v2 =>
      some (v2, p1.2)
    else
      (gR 11 14 p1.2 x0).bind fun v3 =>
      (aI p1.2 v3 (x1 - 10)).bind fun v4 =>
      some (v4, p1.2)
set_option maxRecDepth 20000 in
theorem w_X11_hands_41 {K : KT} {w : (Int32 × AH)}   (X : CX K cX11_hands RX11 TB (some .int) "hands" (rmD 14 0 0) 4 0 0)  (x0 : Option Nat) (x1 : Int32) (h : AH) (hf : b_X11_hands_41 x0 x1 h = some w) : GG K (some (tI w.1), w.2) 0 0 41 [(0, tR x0), (1, tI x1)] [] h := by
  unfold b_X11_hands_41 at hf
  refine g_aload_n X dX11_hands_41 0 rfl ?_
  refine g_callV (n := 0) (av := []) (rest := []) (k := 11) X hf (fun p1 => (some (tI p1.1), p1.2)) (fun _ q => m_X11_partHeap q) (gdV tb_966 tb_967 tb_1675 tb_1 tb_968) rfl (by decide +kernel) rfl (by decide) rfl (by decide) (by decide) rfl (Nat.le_of_ble_eq_true rfl) dX11_hands_42 (fun p1 hf => ?_)
  refine g_istore_n (lv' := [(0, tR x0), (1, tI x1), (3, tI p1.1)]) X dX11_hands_45 (by decide) (in_pick [1, 2, 0] rfl) ?_
  refine g_iload_n X dX11_hands_46 1 rfl ?_
  refine g_ifne (tgt := 52) X hf dX11_hands_47 (by decide) (fun hf => ?_) (fun hf => ?_)
  · refine g_iload_n X dX11_hands_50 2 rfl ?_
    exact g_ireturn X (zW hf) (by decide) (by decide) dX11_hands_51
  · refine g_iload_n X dX11_hands_52 1 rfl ?_
    refine g_iconst (v := 1) X dX11_hands_53 (by decide) ?_
    refine g_icmpne (tgt := 65) X hf dX11_hands_54 (by decide) (fun hf => ?_) (fun hf => ?_)
    · refine g_aload_n X dX11_hands_57 0 rfl ?_
      refine g_iload_n X dX11_hands_58 2 rfl ?_
      refine g_callV (n := 1) (av := [tI p1.1]) (rest := []) (k := 11) X hf (fun v2 => (some (tI v2), p1.2)) (fun _ q => m_X11_hiredOf q) (gdV tb_973 tb_974 tb_1676 tb_1 tb_975) rfl (by decide +kernel) rfl (by decide) rfl (by decide) (by decide) rfl (Nat.le_of_ble_eq_true rfl) dX11_hands_59 (fun v2 hf => ?_)
      refine g_goto (tgt := 74) X dX11_hands_62 (by decide) ?_
      exact g_ireturn X (zW hf) (by decide) (by decide) dX11_hands_74
    · refine g_aload_n X dX11_hands_65 0 rfl ?_
      refine g_getR X hf (T := TX11) rfl (by decide) (by decide) in_RX11 tb_364 rfl dX11_hands_66 (fun v3 hf => ?_)
      refine g_iload_n X dX11_hands_69 1 rfl ?_
      refine g_bipush (v := 10) X dX11_hands_70 (by decide) ?_
      refine g_isub X dX11_hands_72 ?_
      refine g_iaload X hf dX11_hands_73 (fun v4 hf => ?_)
      exact g_ireturn X (zW hf) (by decide) (by decide) dX11_hands_74
def b_X11_hands_25   (x0 : Option Nat) (x1 : Int32) (s0 : Int32) (h : AH) : Option (Int32 × AH) :=
  if x1 = 0 then
    b_X11_hands_41 x0 x1 h
  else
    if x1 = 1 then
      b_X11_hands_41 x0 x1 h
    else
      if s0 = 0 then
        some ((-1), h)
      else
        b_X11_hands_41 x0 x1 h
set_option maxRecDepth 20000 in
theorem w_X11_hands_25 {K : KT} {w : (Int32 × AH)}   (X : CX K cX11_hands RX11 TB (some .int) "hands" (rmD 14 0 0) 4 0 0)  (x0 : Option Nat) (x1 : Int32) (s0 : Int32) (h : AH) (hf : b_X11_hands_25 x0 x1 s0 h = some w) : GG K (some (tI w.1), w.2) 0 0 25 [(0, tR x0), (1, tI x1)] [tI s0] h := by
  unfold b_X11_hands_25 at hf
  refine g_istore_n (lv' := [(0, tR x0), (1, tI x1), (2, tI s0)]) X dX11_hands_25 (by decide) (in_pick [1, 2, 0] rfl) ?_
  refine g_iload_n X dX11_hands_26 1 rfl ?_
  refine g_ifeq (tgt := 41) X hf dX11_hands_27 (by decide) (fun hf => ?_) (fun hf => ?_)
  · refine g_locs (lv' := [(0, tR x0), (1, tI x1)]) (in_pick [0, 1] rfl) ?_
    exact w_X11_hands_41 X x0 x1 h hf
  · refine g_iload_n X dX11_hands_30 1 rfl ?_
    refine g_iconst (v := 1) X dX11_hands_31 (by decide) ?_
    refine g_icmpeq (tgt := 41) X hf dX11_hands_32 (by decide) (fun hf => ?_) (fun hf => ?_)
    · refine g_locs (lv' := [(0, tR x0), (1, tI x1)]) (in_pick [0, 1] rfl) ?_
      exact w_X11_hands_41 X x0 x1 h hf
    · refine g_iload_n X dX11_hands_35 2 rfl ?_
      refine g_ifne (tgt := 41) X hf dX11_hands_36 (by decide) (fun hf => ?_) (fun hf => ?_)
      · refine g_iconst (v := (-1)) X dX11_hands_39 (by decide) ?_
        exact g_ireturn X (zW hf) (by decide) (by decide) dX11_hands_40
      · refine g_locs (lv' := [(0, tR x0), (1, tI x1)]) (in_pick [0, 1] rfl) ?_
        exact w_X11_hands_41 X x0 x1 h hf
def f_X11_hands  (a0 : Option Nat) (a1 : Int32) (h : AH) : Option (Int32 × AH) :=
  if a1 < 10 then
    b_X11_hands_25 a0 a1 0 h
  else
    (gR 11 0 h a0).bind fun v1 =>
    (gI 2 18 h v1).bind fun v2 =>
    if (a1 - 10) < v2 then
      b_X11_hands_25 a0 a1 1 h
    else
      b_X11_hands_25 a0 a1 0 h
set_option maxRecDepth 20000 in
theorem m_X11_hands  {a0 : Option Nat} {a1 : Int32} {h : AH} {w : (Int32 × AH)} (hf : f_X11_hands a0 a1 h = some w) : CT yX11_hands (wU yX11_hands cX11_hands 4 (some .int)) (rmD 14 0 0) 0 0 [tR a0, tI a1] h (some (tI w.1), w.2) := by
  refine CT.of (cc := cX11_hands) (nL := 4) (ret := (some .int)) (by decide) (by simp [lg_sl, vOf_cat, wOf]) ?_
  intro K X
  refine g_locs (lv' := [(0, tR a0), (1, tI a1)]) (fun q hq => hq) ?_
  unfold f_X11_hands at hf
  refine g_iload_n X dX11_hands_0 1 rfl ?_
  refine g_bipush (v := 10) X dX11_hands_1 (by decide) ?_
  refine g_icmplt (tgt := 24) X hf dX11_hands_3 (by decide) (fun hf => ?_) (fun hf => ?_)
  · refine g_iconst (v := 0) X dX11_hands_24 (by decide) ?_
    exact w_X11_hands_25 X a0 a1 0 h hf
  · refine g_iload_n X dX11_hands_6 1 rfl ?_
    refine g_bipush (v := 10) X dX11_hands_7 (by decide) ?_
    refine g_isub X dX11_hands_9 ?_
    refine g_aload_n X dX11_hands_10 0 rfl ?_
    refine g_getR X hf (T := TX11) rfl (by decide) (by decide) in_RX11 tb_350 rfl dX11_hands_11 (fun v1 hf => ?_)
    refine g_getI X hf (T := TX2) rfl (by decide) (by decide) in_RX2 tb_248 rfl dX11_hands_14 (fun v2 hf => ?_)
    refine g_icmpge (tgt := 24) X hf dX11_hands_17 (by decide) (fun hf => ?_) (fun hf => ?_)
    · refine g_iconst (v := 1) X dX11_hands_20 (by decide) ?_
      refine g_goto (tgt := 25) X dX11_hands_21 (by decide) ?_
      exact w_X11_hands_25 X a0 a1 1 h hf
    · refine g_iconst (v := 0) X dX11_hands_24 (by decide) ?_
      exact w_X11_hands_25 X a0 a1 0 h hf
def f_X11_sheet  (a0 : Option Nat) (a1 : Int32) (a2 : Int32) (a3 : Int32) (h : AH) : Option (Int32 × AH) :=
  (f_X11_within a1 0 3 h).bind fun v1 =>
  if v1 = 0 then
    some ((-1), h)
  else
    (f_X11_within a2 (-1) 4 h).bind fun v2 =>
    if v2 = 0 then
      some ((-1), h)
    else
      if a2 = (-1) then
        (gR 11 10 h a0).bind fun v3 =>
        (sR h v3 a1 none).bind fun h4 =>
        some (1, h4)
      else
        if 40 < a3 then
          some ((-1), h)
        else
          if a3 < 0 then
            some ((-14), h)
          else
            (gR 11 10 h a0).bind fun v5 =>
            (nO 7 2 tyX7 h).bind fun h6 =>
            (f_X7_init h.1 a2 a3 h6).bind fun h7 =>
            (sR h7 v5 a1 (some h.1)).bind fun h8 =>
            some (1, h8)
set_option maxRecDepth 20000 in
theorem m_X11_sheet  {a0 : Option Nat} {a1 : Int32} {a2 : Int32} {a3 : Int32} {h : AH} {w : (Int32 × AH)} (hf : f_X11_sheet a0 a1 a2 a3 h = some w) : CT yX11_sheet (wU yX11_sheet cX11_sheet 4 (some .int)) (rmD 2 2 42) 2 42 [tR a0, tI a1, tI a2, tI a3] h (some (tI w.1), w.2) := by
  refine CT.of (cc := cX11_sheet) (nL := 4) (ret := (some .int)) (by decide) (by simp [lg_sl, vOf_cat, wOf]) ?_
  intro K X
  refine g_locs (lv' := [(0, tR a0), (1, tI a1), (2, tI a2), (3, tI a3)]) (fun q hq => hq) ?_
  unfold f_X11_sheet at hf
  refine g_iload_n X dX11_sheet_0 1 rfl ?_
  refine g_iconst (v := 0) X dX11_sheet_1 (by decide) ?_
  refine g_iconst (v := 3) X dX11_sheet_2 (by decide) ?_
  refine g_callS (n := 3) (av := [tI a1, tI 0, tI 3]) (rest := []) X hf (fun v1 => (some (tI v1), h)) (fun _ q => m_X11_within q) (gdS tb_388 tb_389 tb_1 tb_390) rfl (by decide +kernel) rfl (by decide) (by decide) rfl (Nat.le_of_ble_eq_true rfl) dX11_sheet_3 (fun v1 hf => ?_)
  refine g_ifeq (tgt := 18) X hf dX11_sheet_6 (by decide) (fun hf => ?_) (fun hf => ?_)
  · refine g_iconst (v := (-1)) X dX11_sheet_18 (by decide) ?_
    exact g_ireturn X (zW hf) (by decide) (by decide) dX11_sheet_19
  · refine g_iload_n X dX11_sheet_9 2 rfl ?_
    refine g_iconst (v := (-1)) X dX11_sheet_10 (by decide) ?_
    refine g_iconst (v := 4) X dX11_sheet_11 (by decide) ?_
    refine g_callS (n := 3) (av := [tI a2, tI (-1), tI 4]) (rest := []) X hf (fun v2 => (some (tI v2), h)) (fun _ q => m_X11_within q) (gdS tb_388 tb_389 tb_1 tb_390) rfl (by decide +kernel) rfl (by decide) (by decide) rfl (Nat.le_of_ble_eq_true rfl) dX11_sheet_12 (fun v2 hf => ?_)
    refine g_ifne (tgt := 20) X hf dX11_sheet_15 (by decide) (fun hf => ?_) (fun hf => ?_)
    · refine g_iconst (v := (-1)) X dX11_sheet_18 (by decide) ?_
      exact g_ireturn X (zW hf) (by decide) (by decide) dX11_sheet_19
    · refine g_iload_n X dX11_sheet_20 2 rfl ?_
      refine g_iconst (v := (-1)) X dX11_sheet_21 (by decide) ?_
      refine g_icmpne (tgt := 34) X hf dX11_sheet_22 (by decide) (fun hf => ?_) (fun hf => ?_)
      · refine g_aload_n X dX11_sheet_25 0 rfl ?_
        refine g_getR X hf (T := TX11) rfl (by decide) (by decide) in_RX11 tb_360 rfl dX11_sheet_26 (fun v3 hf => ?_)
        refine g_iload_n X dX11_sheet_29 1 rfl ?_
        refine g_null X dX11_sheet_30 ?_
        refine g_aastore X hf dX11_sheet_31 (fun h4 hf => ?_)
        refine g_iconst (v := 1) X dX11_sheet_32 (by decide) ?_
        exact g_ireturn X (zW hf) (by decide) (by decide) dX11_sheet_33
      · refine g_iload_n X dX11_sheet_34 3 rfl ?_
        refine g_bipush (v := 40) X dX11_sheet_35 (by decide) ?_
        refine g_icmple (tgt := 42) X hf dX11_sheet_37 (by decide) (fun hf => ?_) (fun hf => ?_)
        · refine g_iconst (v := (-1)) X dX11_sheet_40 (by decide) ?_
          exact g_ireturn X (zW hf) (by decide) (by decide) dX11_sheet_41
        · refine g_iload_n X dX11_sheet_42 3 rfl ?_
          refine g_ifge (tgt := 49) X hf dX11_sheet_43 (by decide) (fun hf => ?_) (fun hf => ?_)
          · refine g_bipush (v := (-14)) X dX11_sheet_46 (by decide) ?_
            exact g_ireturn X (zW hf) (by decide) (by decide) dX11_sheet_48
          · refine g_aload_n X dX11_sheet_49 0 rfl ?_
            refine g_getR X hf (T := TX11) rfl (by decide) (by decide) in_RX11 tb_360 rfl dX11_sheet_50 (fun v5 hf => ?_)
            refine g_iload_n X dX11_sheet_53 1 rfl ?_
            refine g_new X hf (T := TX7) rfl (by decide) in_RX7 tyX7_ok tb_349 tb_981 tb_20 (by decide) dX11_sheet_54 (fun h6 hf => ?_)
            refine g_dup X dX11_sheet_57 rfl ?_
            refine g_iload_n X dX11_sheet_58 2 rfl ?_
            refine g_iload_n X dX11_sheet_59 3 rfl ?_
            refine g_callI (n := 2) (av := [tI a2, tI a3]) (rest := [tR (some h.1), tI a1, tR v5]) X hf (fun _ q => m_X7_init q) (gd0 tb_984) rfl tb_982 tb_20 rfl tb_983 (by decide +kernel) rfl (by decide) (by decide) rfl (Nat.le_of_ble_eq_true rfl) dX11_sheet_60 (fun h7 hf => ?_)
            refine g_aastore X hf dX11_sheet_63 (fun h8 hf => ?_)
            refine g_iconst (v := 1) X dX11_sheet_64 (by decide) ?_
            exact g_ireturn X (zW hf) (by decide) (by decide) dX11_sheet_65
def f_X11_put  (a0 : Option Nat) (a1 : Int32) (a2 : Int32) (a3 : Int32) (h : AH) : Option (Int32 × AH) :=
  (f_X11_within a1 0 3 h).bind fun v1 =>
  if v1 = 0 then
    some ((-1), h)
  else
    (gR 11 10 h a0).bind fun v2 =>
    (aR h v2 a1).bind fun v3 =>
    if v3 = none then
      some ((-11), h)
    else
      (gR 7 1 h v3).bind fun v4 =>
      (aL h v4).bind fun v5 =>
      (f_X11_within a2 0 (v5 - 1) h).bind fun v6 =>
      if v6 = 0 then
        some ((-12), h)
      else
        (gR 7 1 h v3).bind fun v7 =>
        (ck 7 h v3 (f_X7_narrowed v3 a3 h)).bind fun v8 =>
        (sI h v7 a2 v8).bind fun h9 =>
        some (1, h9)
set_option maxRecDepth 20000 in
theorem m_X11_put  {a0 : Option Nat} {a1 : Int32} {a2 : Int32} {a3 : Int32} {h : AH} {w : (Int32 × AH)} (hf : f_X11_put a0 a1 a2 a3 h = some w) : CT yX11_put (wU yX11_put cX11_put 5 (some .int)) (rmD 2 0 0) 0 0 [tR a0, tI a1, tI a2, tI a3] h (some (tI w.1), w.2) := by
  refine CT.of (cc := cX11_put) (nL := 5) (ret := (some .int)) (by decide) (by simp [lg_sl, vOf_cat, wOf]) ?_
  intro K X
  refine g_locs (lv' := [(0, tR a0), (1, tI a1), (2, tI a2), (3, tI a3)]) (fun q hq => hq) ?_
  unfold f_X11_put at hf
  refine g_iload_n X dX11_put_0 1 rfl ?_
  refine g_iconst (v := 0) X dX11_put_1 (by decide) ?_
  refine g_iconst (v := 3) X dX11_put_2 (by decide) ?_
  refine g_callS (n := 3) (av := [tI a1, tI 0, tI 3]) (rest := []) X hf (fun v1 => (some (tI v1), h)) (fun _ q => m_X11_within q) (gdS tb_388 tb_389 tb_1 tb_390) rfl (by decide +kernel) rfl (by decide) (by decide) rfl (Nat.le_of_ble_eq_true rfl) dX11_put_3 (fun v1 hf => ?_)
  refine g_ifne (tgt := 11) X hf dX11_put_6 (by decide) (fun hf => ?_) (fun hf => ?_)
  · refine g_iconst (v := (-1)) X dX11_put_9 (by decide) ?_
    exact g_ireturn X (zW hf) (by decide) (by decide) dX11_put_10
  · refine g_aload_n X dX11_put_11 0 rfl ?_
    refine g_getR X hf (T := TX11) rfl (by decide) (by decide) in_RX11 tb_360 rfl dX11_put_12 (fun v2 hf => ?_)
    refine g_iload_n X dX11_put_15 1 rfl ?_
    refine g_aaload X hf dX11_put_16 (fun v3 hf => ?_)
    refine g_astore (lv' := [(0, tR a0), (1, tI a1), (2, tI a2), (3, tI a3), (4, tR v3)]) X dX11_put_17 (by decide) (in_pick [1, 2, 3, 4, 0] rfl) ?_
    refine g_aload X dX11_put_19 4 rfl ?_
    refine g_ifnonnull (tgt := 27) X hf dX11_put_21 (by decide) (fun hf => ?_) (fun hf => ?_)
    · refine g_bipush (v := (-11)) X dX11_put_24 (by decide) ?_
      exact g_ireturn X (zW hf) (by decide) (by decide) dX11_put_26
    · refine g_iload_n X dX11_put_27 2 rfl ?_
      refine g_iconst (v := 0) X dX11_put_28 (by decide) ?_
      refine g_aload X dX11_put_29 4 rfl ?_
      refine g_getR X hf (T := TX7) rfl (by decide) (by decide) in_RX7 tb_989 rfl dX11_put_31 (fun v4 hf => ?_)
      refine g_alen X hf dX11_put_34 (fun v5 hf => ?_)
      refine g_iconst (v := 1) X dX11_put_35 (by decide) ?_
      refine g_isub X dX11_put_36 ?_
      refine g_callS (n := 3) (av := [tI a2, tI 0, tI (v5 - 1)]) (rest := []) X hf (fun v6 => (some (tI v6), h)) (fun _ q => m_X11_within q) (gdS tb_388 tb_389 tb_1 tb_390) rfl (by decide +kernel) rfl (by decide) (by decide) rfl (Nat.le_of_ble_eq_true rfl) dX11_put_37 (fun v6 hf => ?_)
      refine g_ifne (tgt := 46) X hf dX11_put_40 (by decide) (fun hf => ?_) (fun hf => ?_)
      · refine g_bipush (v := (-12)) X dX11_put_43 (by decide) ?_
        exact g_ireturn X (zW hf) (by decide) (by decide) dX11_put_45
      · refine g_aload X dX11_put_46 4 rfl ?_
        refine g_getR X hf (T := TX7) rfl (by decide) (by decide) in_RX7 tb_989 rfl dX11_put_48 (fun v7 hf => ?_)
        refine g_iload_n X dX11_put_51 2 rfl ?_
        refine g_aload X dX11_put_52 4 rfl ?_
        refine g_iload_n X dX11_put_54 3 rfl ?_
        refine g_callV (n := 1) (av := [tI a3]) (rest := [tI a2, tR v7]) (k := 7) X hf (fun v8 => (some (tI v8), h)) (fun _ q => m_X7_narrowed q) (gdV tb_996 tb_997 tb_998 tb_20 tb_999) rfl (by decide +kernel) rfl (by decide) rfl (by decide) (by decide) rfl (Nat.le_of_ble_eq_true rfl) dX11_put_55 (fun v8 hf => ?_)
        refine g_iastore X hf dX11_put_58 (fun h9 hf => ?_)
        refine g_iconst (v := 1) X dX11_put_59 (by decide) ?_
        exact g_ireturn X (zW hf) (by decide) (by decide) dX11_put_60
def f_X11_item  (a0 : Option Nat) (a1 : Int32) (a2 : Int32) (a3 : Int32) (h : AH) : Option Int32 :=
  (f_X11_within a1 0 3 h).bind fun v1 =>
  if v1 = 0 then
    some (-1)
  else
    (f_X11_within a2 0 4 h).bind fun v2 =>
    if v2 = 0 then
      some (-1)
    else
      (gR 11 10 h a0).bind fun v3 =>
      (aR h v3 a1).bind fun v4 =>
      if v4 = none then
        some (-11)
      else
        (gI 7 0 h v4).bind fun v5 =>
        if v5 = a2 then
          (gR 7 1 h v4).bind fun v6 =>
          (aL h v6).bind fun v7 =>
          (f_X11_within a3 0 (v7 - 1) h).bind fun v8 =>
          if v8 = 0 then
            some (-12)
          else
            (gR 7 1 h v4).bind fun v9 =>
            (aI h v9 a3).bind fun v10 =>
            some v10
        else
          some (-13)
set_option maxRecDepth 20000 in
theorem m_X11_item  {a0 : Option Nat} {a1 : Int32} {a2 : Int32} {a3 : Int32} {h : AH} {w : Int32} (hf : f_X11_item a0 a1 a2 a3 h = some w) : CT yX11_item (wU yX11_item cX11_item 5 (some .int)) (rmD 2 0 0) 0 0 [tR a0, tI a1, tI a2, tI a3] h (some (tI w), h) := by
  refine CT.of (cc := cX11_item) (nL := 5) (ret := (some .int)) (by decide) (by simp [lg_sl, vOf_cat, wOf]) ?_
  intro K X
  refine g_locs (lv' := [(0, tR a0), (1, tI a1), (2, tI a2), (3, tI a3)]) (fun q hq => hq) ?_
  unfold f_X11_item at hf
  refine g_iload_n X dX11_item_0 1 rfl ?_
  refine g_iconst (v := 0) X dX11_item_1 (by decide) ?_
  refine g_iconst (v := 3) X dX11_item_2 (by decide) ?_
  refine g_callS (n := 3) (av := [tI a1, tI 0, tI 3]) (rest := []) X hf (fun v1 => (some (tI v1), h)) (fun _ q => m_X11_within q) (gdS tb_388 tb_389 tb_1 tb_390) rfl (by decide +kernel) rfl (by decide) (by decide) rfl (Nat.le_of_ble_eq_true rfl) dX11_item_3 (fun v1 hf => ?_)
  refine g_ifeq (tgt := 18) X hf dX11_item_6 (by decide) (fun hf => ?_) (fun hf => ?_)
  · refine g_iconst (v := (-1)) X dX11_item_18 (by decide) ?_
    exact g_ireturn X (zP hf) (by decide) (by decide) dX11_item_19
  · refine g_iload_n X dX11_item_9 2 rfl ?_
    refine g_iconst (v := 0) X dX11_item_10 (by decide) ?_
    refine g_iconst (v := 4) X dX11_item_11 (by decide) ?_
    refine g_callS (n := 3) (av := [tI a2, tI 0, tI 4]) (rest := []) X hf (fun v2 => (some (tI v2), h)) (fun _ q => m_X11_within q) (gdS tb_388 tb_389 tb_1 tb_390) rfl (by decide +kernel) rfl (by decide) (by decide) rfl (Nat.le_of_ble_eq_true rfl) dX11_item_12 (fun v2 hf => ?_)
    refine g_ifne (tgt := 20) X hf dX11_item_15 (by decide) (fun hf => ?_) (fun hf => ?_)
    · refine g_iconst (v := (-1)) X dX11_item_18 (by decide) ?_
      exact g_ireturn X (zP hf) (by decide) (by decide) dX11_item_19
    · refine g_aload_n X dX11_item_20 0 rfl ?_
      refine g_getR X hf (T := TX11) rfl (by decide) (by decide) in_RX11 tb_360 rfl dX11_item_21 (fun v3 hf => ?_)
      refine g_iload_n X dX11_item_24 1 rfl ?_
      refine g_aaload X hf dX11_item_25 (fun v4 hf => ?_)
      refine g_astore (lv' := [(0, tR a0), (1, tI a1), (2, tI a2), (3, tI a3), (4, tR v4)]) X dX11_item_26 (by decide) (in_pick [1, 2, 3, 4, 0] rfl) ?_
      refine g_aload X dX11_item_28 4 rfl ?_
      refine g_ifnonnull (tgt := 36) X hf dX11_item_30 (by decide) (fun hf => ?_) (fun hf => ?_)
      · refine g_bipush (v := (-11)) X dX11_item_33 (by decide) ?_
        exact g_ireturn X (zP hf) (by decide) (by decide) dX11_item_35
      · refine g_aload X dX11_item_36 4 rfl ?_
        refine g_getI X hf (T := TX7) rfl (by decide) (by decide) in_RX7 tb_987 rfl dX11_item_38 (fun v5 hf => ?_)
        refine g_iload_n X dX11_item_41 2 rfl ?_
        refine g_icmpeq (tgt := 48) X hf dX11_item_42 (by decide) (fun hf => ?_) (fun hf => ?_)
        · refine g_iload_n X dX11_item_48 3 rfl ?_
          refine g_iconst (v := 0) X dX11_item_49 (by decide) ?_
          refine g_aload X dX11_item_50 4 rfl ?_
          refine g_getR X hf (T := TX7) rfl (by decide) (by decide) in_RX7 tb_989 rfl dX11_item_52 (fun v6 hf => ?_)
          refine g_alen X hf dX11_item_55 (fun v7 hf => ?_)
          refine g_iconst (v := 1) X dX11_item_56 (by decide) ?_
          refine g_isub X dX11_item_57 ?_
          refine g_callS (n := 3) (av := [tI a3, tI 0, tI (v7 - 1)]) (rest := []) X hf (fun v8 => (some (tI v8), h)) (fun _ q => m_X11_within q) (gdS tb_388 tb_389 tb_1 tb_390) rfl (by decide +kernel) rfl (by decide) (by decide) rfl (Nat.le_of_ble_eq_true rfl) dX11_item_58 (fun v8 hf => ?_)
          refine g_ifne (tgt := 67) X hf dX11_item_61 (by decide) (fun hf => ?_) (fun hf => ?_)
          · refine g_bipush (v := (-12)) X dX11_item_64 (by decide) ?_
            exact g_ireturn X (zP hf) (by decide) (by decide) dX11_item_66
          · refine g_aload X dX11_item_67 4 rfl ?_
            refine g_getR X hf (T := TX7) rfl (by decide) (by decide) in_RX7 tb_989 rfl dX11_item_69 (fun v9 hf => ?_)
            refine g_iload_n X dX11_item_72 3 rfl ?_
            refine g_iaload X hf dX11_item_73 (fun v10 hf => ?_)
            exact g_ireturn X (zP hf) (by decide) (by decide) dX11_item_74
        · refine g_bipush (v := (-13)) X dX11_item_45 (by decide) ?_
          exact g_ireturn X (zP hf) (by decide) (by decide) dX11_item_47
def f_X11_comesFrom  (a0 : Option Nat) (a1 : Int32) (a2 : Int32) (h : AH) : Option (Int32 × AH) :=
  (f_X11_within a1 0 3 h).bind fun v1 =>
  if v1 = 0 then
    some ((-1), h)
  else
    (gR 11 10 h a0).bind fun v2 =>
    (aR h v2 a1).bind fun v3 =>
    if v3 = none then
      some ((-11), h)
    else
      (gI 7 0 h v3).bind fun v4 =>
      if v4 = 2 then
        (gR 7 1 h v3).bind fun v5 =>
        (aL h v5).bind fun v6 =>
        (f_X11_within a2 0 (v6 - 6) h).bind fun v7 =>
        if v7 = 0 then
          some ((-12), h)
        else
          (gR 7 1 h v3).bind fun v8 =>
          (aI h v8 a2).bind fun v9 =>
          (aI h v8 (a2 + 1)).bind fun v10 =>
          (aI h v8 (a2 + 2)).bind fun v11 =>
          (aI h v8 (a2 + 3)).bind fun v12 =>
          (aI h v8 (a2 + 4)).bind fun v13 =>
          (aI h v8 (a2 + 5)).bind fun v14 =>
          (ck 11 h a0 (f_X11_sherd a0 v9 v10 v11 v12 v13 v14 h)).bind fun p15 =>
          some (p15.1, p15.2)
      else
        some ((-13), h)
set_option maxRecDepth 20000 in
theorem m_X11_comesFrom  {a0 : Option Nat} {a1 : Int32} {a2 : Int32} {h : AH} {w : (Int32 × AH)} (hf : f_X11_comesFrom a0 a1 a2 h = some w) : CT yX11_comesFrom (wU yX11_comesFrom cX11_comesFrom 5 (some .int)) (rmD 5 0 0) 0 0 [tR a0, tI a1, tI a2] h (some (tI w.1), w.2) := by
  refine CT.of (cc := cX11_comesFrom) (nL := 5) (ret := (some .int)) (by decide) (by simp [lg_sl, vOf_cat, wOf]) ?_
  intro K X
  refine g_locs (lv' := [(0, tR a0), (1, tI a1), (2, tI a2)]) (fun q hq => hq) ?_
  unfold f_X11_comesFrom at hf
  refine g_iload_n X dX11_comesFrom_0 1 rfl ?_
  refine g_iconst (v := 0) X dX11_comesFrom_1 (by decide) ?_
  refine g_iconst (v := 3) X dX11_comesFrom_2 (by decide) ?_
  refine g_callS (n := 3) (av := [tI a1, tI 0, tI 3]) (rest := []) X hf (fun v1 => (some (tI v1), h)) (fun _ q => m_X11_within q) (gdS tb_388 tb_389 tb_1 tb_390) rfl (by decide +kernel) rfl (by decide) (by decide) rfl (Nat.le_of_ble_eq_true rfl) dX11_comesFrom_3 (fun v1 hf => ?_)
  refine g_ifne (tgt := 11) X hf dX11_comesFrom_6 (by decide) (fun hf => ?_) (fun hf => ?_)
  · refine g_iconst (v := (-1)) X dX11_comesFrom_9 (by decide) ?_
    exact g_ireturn X (zW hf) (by decide) (by decide) dX11_comesFrom_10
  · refine g_aload_n X dX11_comesFrom_11 0 rfl ?_
    refine g_getR X hf (T := TX11) rfl (by decide) (by decide) in_RX11 tb_360 rfl dX11_comesFrom_12 (fun v2 hf => ?_)
    refine g_iload_n X dX11_comesFrom_15 1 rfl ?_
    refine g_aaload X hf dX11_comesFrom_16 (fun v3 hf => ?_)
    refine g_astore_n (lv' := [(0, tR a0), (1, tI a1), (2, tI a2), (3, tR v3)]) X dX11_comesFrom_17 (by decide) (in_pick [1, 2, 3, 0] rfl) ?_
    refine g_aload_n X dX11_comesFrom_18 3 rfl ?_
    refine g_ifnonnull (tgt := 25) X hf dX11_comesFrom_19 (by decide) (fun hf => ?_) (fun hf => ?_)
    · refine g_bipush (v := (-11)) X dX11_comesFrom_22 (by decide) ?_
      exact g_ireturn X (zW hf) (by decide) (by decide) dX11_comesFrom_24
    · refine g_aload_n X dX11_comesFrom_25 3 rfl ?_
      refine g_getI X hf (T := TX7) rfl (by decide) (by decide) in_RX7 tb_987 rfl dX11_comesFrom_26 (fun v4 hf => ?_)
      refine g_iconst (v := 2) X dX11_comesFrom_29 (by decide) ?_
      refine g_icmpeq (tgt := 36) X hf dX11_comesFrom_30 (by decide) (fun hf => ?_) (fun hf => ?_)
      · refine g_iload_n X dX11_comesFrom_36 2 rfl ?_
        refine g_iconst (v := 0) X dX11_comesFrom_37 (by decide) ?_
        refine g_aload_n X dX11_comesFrom_38 3 rfl ?_
        refine g_getR X hf (T := TX7) rfl (by decide) (by decide) in_RX7 tb_989 rfl dX11_comesFrom_39 (fun v5 hf => ?_)
        refine g_alen X hf dX11_comesFrom_42 (fun v6 hf => ?_)
        refine g_bipush (v := 6) X dX11_comesFrom_43 (by decide) ?_
        refine g_isub X dX11_comesFrom_45 ?_
        refine g_callS (n := 3) (av := [tI a2, tI 0, tI (v6 - 6)]) (rest := []) X hf (fun v7 => (some (tI v7), h)) (fun _ q => m_X11_within q) (gdS tb_388 tb_389 tb_1 tb_390) rfl (by decide +kernel) rfl (by decide) (by decide) rfl (Nat.le_of_ble_eq_true rfl) dX11_comesFrom_46 (fun v7 hf => ?_)
        refine g_ifne (tgt := 55) X hf dX11_comesFrom_49 (by decide) (fun hf => ?_) (fun hf => ?_)
        · refine g_bipush (v := (-12)) X dX11_comesFrom_52 (by decide) ?_
          exact g_ireturn X (zW hf) (by decide) (by decide) dX11_comesFrom_54
        · refine g_aload_n X dX11_comesFrom_55 3 rfl ?_
          refine g_getR X hf (T := TX7) rfl (by decide) (by decide) in_RX7 tb_989 rfl dX11_comesFrom_56 (fun v8 hf => ?_)
          refine g_astore (lv' := [(0, tR a0), (1, tI a1), (2, tI a2), (3, tR v3), (4, tR v8)]) X dX11_comesFrom_59 (by decide) (in_pick [1, 2, 3, 4, 0] rfl) ?_
          refine g_aload_n X dX11_comesFrom_61 0 rfl ?_
          refine g_aload X dX11_comesFrom_62 4 rfl ?_
          refine g_iload_n X dX11_comesFrom_64 2 rfl ?_
          refine g_iaload X hf dX11_comesFrom_65 (fun v9 hf => ?_)
          refine g_aload X dX11_comesFrom_66 4 rfl ?_
          refine g_iload_n X dX11_comesFrom_68 2 rfl ?_
          refine g_iconst (v := 1) X dX11_comesFrom_69 (by decide) ?_
          refine g_iadd X dX11_comesFrom_70 ?_
          refine g_iaload X hf dX11_comesFrom_71 (fun v10 hf => ?_)
          refine g_aload X dX11_comesFrom_72 4 rfl ?_
          refine g_iload_n X dX11_comesFrom_74 2 rfl ?_
          refine g_iconst (v := 2) X dX11_comesFrom_75 (by decide) ?_
          refine g_iadd X dX11_comesFrom_76 ?_
          refine g_iaload X hf dX11_comesFrom_77 (fun v11 hf => ?_)
          refine g_aload X dX11_comesFrom_78 4 rfl ?_
          refine g_iload_n X dX11_comesFrom_80 2 rfl ?_
          refine g_iconst (v := 3) X dX11_comesFrom_81 (by decide) ?_
          refine g_iadd X dX11_comesFrom_82 ?_
          refine g_iaload X hf dX11_comesFrom_83 (fun v12 hf => ?_)
          refine g_aload X dX11_comesFrom_84 4 rfl ?_
          refine g_iload_n X dX11_comesFrom_86 2 rfl ?_
          refine g_iconst (v := 4) X dX11_comesFrom_87 (by decide) ?_
          refine g_iadd X dX11_comesFrom_88 ?_
          refine g_iaload X hf dX11_comesFrom_89 (fun v13 hf => ?_)
          refine g_aload X dX11_comesFrom_90 4 rfl ?_
          refine g_iload_n X dX11_comesFrom_92 2 rfl ?_
          refine g_iconst (v := 5) X dX11_comesFrom_93 (by decide) ?_
          refine g_iadd X dX11_comesFrom_94 ?_
          refine g_iaload X hf dX11_comesFrom_95 (fun v14 hf => ?_)
          refine g_callV (n := 6) (av := [tI v9, tI v10, tI v11, tI v12, tI v13, tI v14]) (rest := []) (k := 11) X hf (fun p15 => (some (tI p15.1), p15.2)) (fun _ q => m_X11_sherd q) (gdV tb_1008 tb_561 tb_562 tb_1 tb_563) rfl (by decide +kernel) rfl (by decide) rfl (by decide) (by decide) rfl (Nat.le_of_ble_eq_true rfl) dX11_comesFrom_96 (fun p15 hf => ?_)
          exact g_ireturn X (zW hf) (by decide) (by decide) dX11_comesFrom_99
      · refine g_bipush (v := (-13)) X dX11_comesFrom_33 (by decide) ?_
        exact g_ireturn X (zW hf) (by decide) (by decide) dX11_comesFrom_35
def f_X11_canHold  (a0 : Option Nat) (a1 : Int32) (a2 : Int32) (h : AH) : Option Int32 :=
  if a1 < 0 ∨ 3 < a1 then
    if a1 = 4 then
      some 1
    else
      some 0
  else if a1 = 0 then
    (gR 11 0 h a0).bind fun v1 =>
    (ck 2 h v1 (f_X2_hasSherd v1 a2 h)).bind fun v2 =>
    rZ v2
  else if a1 = 1 then
    (gR 11 0 h a0).bind fun v3 =>
    (ck 2 h v3 (f_X2_hasBargain v3 a2 h)).bind fun v4 =>
    rZ v4
  else if a1 = 2 then
    (gR 11 0 h a0).bind fun v5 =>
    (ck 2 h v5 (f_X2_hasMan v5 a2 h)).bind fun v6 =>
    rZ v6
  else if a1 = 3 then
    (f_X11_within a2 0 3 h).bind fun v7 =>
    rZ v7
  else none
set_option maxRecDepth 20000 in
theorem m_X11_canHold  {a0 : Option Nat} {a1 : Int32} {a2 : Int32} {h : AH} {w : Int32} (hf : f_X11_canHold a0 a1 a2 h = some w) : CT yX11_canHold (wU yX11_canHold cX11_canHold 3 (some .boolean)) (rmD 2 0 0) 0 0 [tR a0, tI a1, tI a2] h (some (tI w), h) := by
  refine CT.of (cc := cX11_canHold) (nL := 3) (ret := (some .boolean)) (by decide) (by simp [lg_sl, vOf_cat, wOf]) ?_
  intro K X
  refine g_locs (lv' := [(0, tR a0), (1, tI a1), (2, tI a2)]) (fun q hq => hq) ?_
  unfold f_X11_canHold at hf
  refine g_iload_n X dX11_canHold_0 1 rfl ?_
  by_cases hsw : a1 < 0 ∨ 3 < a1
  · rw [if_pos hsw] at hf
    refine g_tabOut (tgt := 66) X dX11_canHold_1 (tab_out hsw) (by decide) ?_
    refine g_iload_n X dX11_canHold_66 1 rfl ?_
    refine g_iconst (v := 4) X dX11_canHold_67 (by decide) ?_
    refine g_icmpne (tgt := 75) X hf dX11_canHold_68 (by decide) (fun hf => ?_) (fun hf => ?_)
    · refine g_iconst (v := 1) X dX11_canHold_71 (by decide) ?_
      refine g_goto (tgt := 76) X dX11_canHold_72 (by decide) ?_
      exact g_zreturn X (zP hf) (by decide) (by decide) (by decide) dX11_canHold_76
    · refine g_iconst (v := 0) X dX11_canHold_75 (by decide) ?_
      exact g_zreturn X (zP hf) (by decide) (by decide) (by decide) dX11_canHold_76
  rw [if_neg hsw] at hf
  by_cases hs0 : a1 = 0
  · rw [if_pos hs0] at hf
    refine g_tabIn (off := 31) (tgt := 32) X 0 hs0 dX11_canHold_1 (by decide) (by decide) (by decide +kernel) (by decide) ?_
    refine g_aload_n X dX11_canHold_32 0 rfl ?_
    refine g_getR X hf (T := TX11) rfl (by decide) (by decide) in_RX11 tb_350 rfl dX11_canHold_33 (fun v1 hf => ?_)
    refine g_iload_n X dX11_canHold_36 2 rfl ?_
    refine g_callV (n := 1) (av := [tI a2]) (rest := []) (k := 2) X hf (fun v2 => (some (tI v2), h)) (fun _ q => m_X2_hasSherd q) (gdV tb_595 tb_596 tb_597 tb_2 tb_598) rfl (by decide +kernel) rfl (by decide) rfl (by decide) (by decide) rfl (Nat.le_of_ble_eq_true rfl) dX11_canHold_37 (fun v2 hf => ?_)
    exact g_zreturn2 X hf (by decide) (by decide) dX11_canHold_40
  rw [if_neg hs0] at hf
  by_cases hs1 : a1 = 1
  · rw [if_pos hs1] at hf
    refine g_tabIn (off := 40) (tgt := 41) X 1 hs1 dX11_canHold_1 (by decide) (by decide) (by decide +kernel) (by decide) ?_
    refine g_aload_n X dX11_canHold_41 0 rfl ?_
    refine g_getR X hf (T := TX11) rfl (by decide) (by decide) in_RX11 tb_350 rfl dX11_canHold_42 (fun v3 hf => ?_)
    refine g_iload_n X dX11_canHold_45 2 rfl ?_
    refine g_callV (n := 1) (av := [tI a2]) (rest := []) (k := 2) X hf (fun v4 => (some (tI v4), h)) (fun _ q => m_X2_hasBargain q) (gdV tb_1016 tb_1017 tb_1018 tb_2 tb_1019) rfl (by decide +kernel) rfl (by decide) rfl (by decide) (by decide) rfl (Nat.le_of_ble_eq_true rfl) dX11_canHold_46 (fun v4 hf => ?_)
    exact g_zreturn2 X hf (by decide) (by decide) dX11_canHold_49
  rw [if_neg hs1] at hf
  by_cases hs2 : a1 = 2
  · rw [if_pos hs2] at hf
    refine g_tabIn (off := 49) (tgt := 50) X 2 hs2 dX11_canHold_1 (by decide) (by decide) (by decide +kernel) (by decide) ?_
    refine g_aload_n X dX11_canHold_50 0 rfl ?_
    refine g_getR X hf (T := TX11) rfl (by decide) (by decide) in_RX11 tb_350 rfl dX11_canHold_51 (fun v5 hf => ?_)
    refine g_iload_n X dX11_canHold_54 2 rfl ?_
    refine g_callV (n := 1) (av := [tI a2]) (rest := []) (k := 2) X hf (fun v6 => (some (tI v6), h)) (fun _ q => m_X2_hasMan q) (gdV tb_457 tb_458 tb_459 tb_2 tb_460) rfl (by decide +kernel) rfl (by decide) rfl (by decide) (by decide) rfl (Nat.le_of_ble_eq_true rfl) dX11_canHold_55 (fun v6 hf => ?_)
    exact g_zreturn2 X hf (by decide) (by decide) dX11_canHold_58
  rw [if_neg hs2] at hf
  by_cases hs3 : a1 = 3
  · rw [if_pos hs3] at hf
    refine g_tabIn (off := 58) (tgt := 59) X 3 hs3 dX11_canHold_1 (by decide) (by decide) (by decide +kernel) (by decide) ?_
    refine g_iload_n X dX11_canHold_59 2 rfl ?_
    refine g_iconst (v := 0) X dX11_canHold_60 (by decide) ?_
    refine g_iconst (v := 3) X dX11_canHold_61 (by decide) ?_
    refine g_callS (n := 3) (av := [tI a2, tI 0, tI 3]) (rest := []) X hf (fun v7 => (some (tI v7), h)) (fun _ q => m_X11_within q) (gdS tb_388 tb_389 tb_1 tb_390) rfl (by decide +kernel) rfl (by decide) (by decide) rfl (Nat.le_of_ble_eq_true rfl) dX11_canHold_62 (fun v7 hf => ?_)
    exact g_zreturn2 X hf (by decide) (by decide) dX11_canHold_65
  rw [if_neg hs3] at hf
  cases hf
def b_X11_shelf_54   (s0 : Option Nat) (s1 : Int32) (s2 : Option Nat) (h : AH) : Option (Int32 × AH) :=
  (sR h s0 s1 s2).bind fun h1 =>
  some (1, h1)
set_option maxRecDepth 20000 in
theorem w_X11_shelf_54 {K : KT} {w : (Int32 × AH)}   (X : CX K cX11_shelf RX11 TB (some .int) "shelf" (rmD 3 0 0) 4 0 0)  (s0 : Option Nat) (s1 : Int32) (s2 : Option Nat) (h : AH) (hf : b_X11_shelf_54 s0 s1 s2 h = some w) : GG K (some (tI w.1), w.2) 0 0 54 [] [tR s2, tI s1, tR s0] h := by
  unfold b_X11_shelf_54 at hf
  refine g_aastore X hf dX11_shelf_54 (fun h1 hf => ?_)
  refine g_iconst (v := 1) X dX11_shelf_55 (by decide) ?_
  exact g_ireturn X (zW hf) (by decide) (by decide) dX11_shelf_56
def f_X11_shelf  (a0 : Option Nat) (a1 : Int32) (a2 : Int32) (a3 : Int32) (h : AH) : Option (Int32 × AH) :=
  (f_X11_within a1 0 3 h).bind fun v1 =>
  if v1 = 0 then
    some ((-1), h)
  else
    (ck 11 h a0 (f_X11_canHold a0 a2 a3 h)).bind fun v2 =>
    if v2 = 0 then
      some ((-1), h)
    else
      (gR 11 11 h a0).bind fun v3 =>
      (sI h v3 a1 a2).bind fun h4 =>
      (gR 11 12 h4 a0).bind fun v5 =>
      (sI h4 v5 a1 a3).bind fun h6 =>
      (gR 11 13 h6 a0).bind fun v7 =>
      if a2 = 3 then
        (gR 11 10 h6 a0).bind fun v8 =>
        (aR h6 v8 a3).bind fun v9 =>
        b_X11_shelf_54 v7 a1 v9 h6
      else
        b_X11_shelf_54 v7 a1 none h6
set_option maxRecDepth 20000 in
theorem m_X11_shelf  {a0 : Option Nat} {a1 : Int32} {a2 : Int32} {a3 : Int32} {h : AH} {w : (Int32 × AH)} (hf : f_X11_shelf a0 a1 a2 a3 h = some w) : CT yX11_shelf (wU yX11_shelf cX11_shelf 4 (some .int)) (rmD 3 0 0) 0 0 [tR a0, tI a1, tI a2, tI a3] h (some (tI w.1), w.2) := by
  refine CT.of (cc := cX11_shelf) (nL := 4) (ret := (some .int)) (by decide) (by simp [lg_sl, vOf_cat, wOf]) ?_
  intro K X
  refine g_locs (lv' := [(0, tR a0), (1, tI a1), (2, tI a2), (3, tI a3)]) (fun q hq => hq) ?_
  unfold f_X11_shelf at hf
  refine g_iload_n X dX11_shelf_0 1 rfl ?_
  refine g_iconst (v := 0) X dX11_shelf_1 (by decide) ?_
  refine g_iconst (v := 3) X dX11_shelf_2 (by decide) ?_
  refine g_callS (n := 3) (av := [tI a1, tI 0, tI 3]) (rest := []) X hf (fun v1 => (some (tI v1), h)) (fun _ q => m_X11_within q) (gdS tb_388 tb_389 tb_1 tb_390) rfl (by decide +kernel) rfl (by decide) (by decide) rfl (Nat.le_of_ble_eq_true rfl) dX11_shelf_3 (fun v1 hf => ?_)
  refine g_ifeq (tgt := 18) X hf dX11_shelf_6 (by decide) (fun hf => ?_) (fun hf => ?_)
  · refine g_iconst (v := (-1)) X dX11_shelf_18 (by decide) ?_
    exact g_ireturn X (zW hf) (by decide) (by decide) dX11_shelf_19
  · refine g_aload_n X dX11_shelf_9 0 rfl ?_
    refine g_iload_n X dX11_shelf_10 2 rfl ?_
    refine g_iload_n X dX11_shelf_11 3 rfl ?_
    refine g_callV (n := 2) (av := [tI a2, tI a3]) (rest := []) (k := 11) X hf (fun v2 => (some (tI v2), h)) (fun _ q => m_X11_canHold q) (gdV tb_1013 tb_1014 tb_1677 tb_1 tb_1015) rfl (by decide +kernel) rfl (by decide) rfl (by decide) (by decide) rfl (Nat.le_of_ble_eq_true rfl) dX11_shelf_12 (fun v2 hf => ?_)
    refine g_ifne (tgt := 20) X hf dX11_shelf_15 (by decide) (fun hf => ?_) (fun hf => ?_)
    · refine g_iconst (v := (-1)) X dX11_shelf_18 (by decide) ?_
      exact g_ireturn X (zW hf) (by decide) (by decide) dX11_shelf_19
    · refine g_aload_n X dX11_shelf_20 0 rfl ?_
      refine g_getR X hf (T := TX11) rfl (by decide) (by decide) in_RX11 tb_361 rfl dX11_shelf_21 (fun v3 hf => ?_)
      refine g_iload_n X dX11_shelf_24 1 rfl ?_
      refine g_iload_n X dX11_shelf_25 2 rfl ?_
      refine g_iastore X hf dX11_shelf_26 (fun h4 hf => ?_)
      refine g_aload_n X dX11_shelf_27 0 rfl ?_
      refine g_getR X hf (T := TX11) rfl (by decide) (by decide) in_RX11 tb_362 rfl dX11_shelf_28 (fun v5 hf => ?_)
      refine g_iload_n X dX11_shelf_31 1 rfl ?_
      refine g_iload_n X dX11_shelf_32 3 rfl ?_
      refine g_iastore X hf dX11_shelf_33 (fun h6 hf => ?_)
      refine g_aload_n X dX11_shelf_34 0 rfl ?_
      refine g_getR X hf (T := TX11) rfl (by decide) (by decide) in_RX11 tb_363 rfl dX11_shelf_35 (fun v7 hf => ?_)
      refine g_iload_n X dX11_shelf_38 1 rfl ?_
      refine g_iload_n X dX11_shelf_39 2 rfl ?_
      refine g_iconst (v := 3) X dX11_shelf_40 (by decide) ?_
      refine g_icmpne (tgt := 53) X hf dX11_shelf_41 (by decide) (fun hf => ?_) (fun hf => ?_)
      · refine g_aload_n X dX11_shelf_44 0 rfl ?_
        refine g_getR X hf (T := TX11) rfl (by decide) (by decide) in_RX11 tb_360 rfl dX11_shelf_45 (fun v8 hf => ?_)
        refine g_iload_n X dX11_shelf_48 3 rfl ?_
        refine g_aaload X hf dX11_shelf_49 (fun v9 hf => ?_)
        refine g_goto (tgt := 54) X dX11_shelf_50 (by decide) ?_
        refine g_locs (lv' := []) (in_pick [] rfl) ?_
        exact w_X11_shelf_54 X v7 a1 v9 h6 hf
      · refine g_null X dX11_shelf_53 ?_
        refine g_locs (lv' := []) (in_pick [] rfl) ?_
        exact w_X11_shelf_54 X v7 a1 none h6 hf
def f_X11_kindOn  (a0 : Option Nat) (a1 : Int32) (h : AH) : Option Int32 :=
  (gR 11 12 h a0).bind fun v1 =>
  (aI h v1 a1).bind fun v2 =>
  (gR 11 11 h a0).bind fun v3 =>
  (aI h v3 a1).bind fun v4 =>
  if v4 < 0 ∨ 2 < v4 then
    some (-1)
  else if v4 = 0 then
    (gR 11 0 h a0).bind fun v5 =>
    (ck 2 h v5 (f_X2_hasSherd v5 v2 h)).bind fun v6 =>
    if v6 = 0 then
      some (-1)
    else
      (gR 11 0 h a0).bind fun v7 =>
      (gR 2 11 h v7).bind fun v8 =>
      (aR h v8 v2).bind fun v9 =>
      (ck 8 h v9 (f_X8_kind v9 h)).bind fun v10 =>
      some v10
  else if v4 = 1 then
    (gR 11 0 h a0).bind fun v11 =>
    (ck 2 h v11 (f_X2_hasBargain v11 v2 h)).bind fun v12 =>
    if v12 = 0 then
      some (-1)
    else
      some 4
  else if v4 = 2 then
    (gR 11 0 h a0).bind fun v13 =>
    (ck 2 h v13 (f_X2_hasMan v13 v2 h)).bind fun v14 =>
    if v14 = 0 then
      some (-1)
    else
      (gR 11 0 h a0).bind fun v15 =>
      (gR 2 5 h v15).bind fun v16 =>
      (aR h v16 v2).bind fun v17 =>
      (ck 5 h v17 (f_X5_kind v17 h)).bind fun v18 =>
      some v18
  else none
set_option maxRecDepth 20000 in
theorem m_X11_kindOn  {a0 : Option Nat} {a1 : Int32} {h : AH} {w : Int32} (hf : f_X11_kindOn a0 a1 h = some w) : CT yX11_kindOn (wU yX11_kindOn cX11_kindOn 3 (some .int)) (rmD 3 0 0) 0 0 [tR a0, tI a1] h (some (tI w), h) := by
  refine CT.of (cc := cX11_kindOn) (nL := 3) (ret := (some .int)) (by decide) (by simp [lg_sl, vOf_cat, wOf]) ?_
  intro K X
  refine g_locs (lv' := [(0, tR a0), (1, tI a1)]) (fun q hq => hq) ?_
  unfold f_X11_kindOn at hf
  refine g_aload_n X dX11_kindOn_0 0 rfl ?_
  refine g_getR X hf (T := TX11) rfl (by decide) (by decide) in_RX11 tb_362 rfl dX11_kindOn_1 (fun v1 hf => ?_)
  refine g_iload_n X dX11_kindOn_4 1 rfl ?_
  refine g_iaload X hf dX11_kindOn_5 (fun v2 hf => ?_)
  refine g_istore_n (lv' := [(0, tR a0), (1, tI a1), (2, tI v2)]) X dX11_kindOn_6 (by decide) (in_pick [1, 2, 0] rfl) ?_
  refine g_aload_n X dX11_kindOn_7 0 rfl ?_
  refine g_getR X hf (T := TX11) rfl (by decide) (by decide) in_RX11 tb_361 rfl dX11_kindOn_8 (fun v3 hf => ?_)
  refine g_iload_n X dX11_kindOn_11 1 rfl ?_
  refine g_iaload X hf dX11_kindOn_12 (fun v4 hf => ?_)
  by_cases hsw : v4 < 0 ∨ 2 < v4
  · rw [if_pos hsw] at hf
    refine g_tabOut (tgt := 113) X dX11_kindOn_13 (tab_out hsw) (by decide) ?_
    refine g_iconst (v := (-1)) X dX11_kindOn_113 (by decide) ?_
    exact g_ireturn X (zP hf) (by decide) (by decide) dX11_kindOn_114
  rw [if_neg hsw] at hf
  by_cases hs0 : v4 = 0
  · rw [if_pos hs0] at hf
    refine g_tabIn (off := 27) (tgt := 40) X 0 hs0 dX11_kindOn_13 (by decide) (by decide) (by decide +kernel) (by decide) ?_
    refine g_aload_n X dX11_kindOn_40 0 rfl ?_
    refine g_getR X hf (T := TX11) rfl (by decide) (by decide) in_RX11 tb_350 rfl dX11_kindOn_41 (fun v5 hf => ?_)
    refine g_iload_n X dX11_kindOn_44 2 rfl ?_
    refine g_callV (n := 1) (av := [tI v2]) (rest := []) (k := 2) X hf (fun v6 => (some (tI v6), h)) (fun _ q => m_X2_hasSherd q) (gdV tb_595 tb_596 tb_597 tb_2 tb_598) rfl (by decide +kernel) rfl (by decide) rfl (by decide) (by decide) rfl (Nat.le_of_ble_eq_true rfl) dX11_kindOn_45 (fun v6 hf => ?_)
    refine g_ifeq (tgt := 66) X hf dX11_kindOn_48 (by decide) (fun hf => ?_) (fun hf => ?_)
    · refine g_iconst (v := (-1)) X dX11_kindOn_66 (by decide) ?_
      exact g_ireturn X (zP hf) (by decide) (by decide) dX11_kindOn_67
    · refine g_aload_n X dX11_kindOn_51 0 rfl ?_
      refine g_getR X hf (T := TX11) rfl (by decide) (by decide) in_RX11 tb_350 rfl dX11_kindOn_52 (fun v7 hf => ?_)
      refine g_getR X hf (T := TX2) rfl (by decide) (by decide) in_RX2 tb_234 rfl dX11_kindOn_55 (fun v8 hf => ?_)
      refine g_iload_n X dX11_kindOn_58 2 rfl ?_
      refine g_aaload X hf dX11_kindOn_59 (fun v9 hf => ?_)
      refine g_callV (n := 0) (av := []) (rest := []) (k := 8) X hf (fun v10 => (some (tI v10), h)) (fun _ q => m_X8_kind q) (gdV tb_1027 tb_1028 tb_1029 tb_7 tb_1030) rfl (by decide +kernel) rfl (by decide) rfl (by decide) (by decide) rfl (Nat.le_of_ble_eq_true rfl) dX11_kindOn_60 (fun v10 hf => ?_)
      refine g_goto (tgt := 67) X dX11_kindOn_63 (by decide) ?_
      exact g_ireturn X (zP hf) (by decide) (by decide) dX11_kindOn_67
  rw [if_neg hs0] at hf
  by_cases hs1 : v4 = 1
  · rw [if_pos hs1] at hf
    refine g_tabIn (off := 55) (tgt := 68) X 1 hs1 dX11_kindOn_13 (by decide) (by decide) (by decide +kernel) (by decide) ?_
    refine g_aload_n X dX11_kindOn_68 0 rfl ?_
    refine g_getR X hf (T := TX11) rfl (by decide) (by decide) in_RX11 tb_350 rfl dX11_kindOn_69 (fun v11 hf => ?_)
    refine g_iload_n X dX11_kindOn_72 2 rfl ?_
    refine g_callV (n := 1) (av := [tI v2]) (rest := []) (k := 2) X hf (fun v12 => (some (tI v12), h)) (fun _ q => m_X2_hasBargain q) (gdV tb_1016 tb_1017 tb_1018 tb_2 tb_1019) rfl (by decide +kernel) rfl (by decide) rfl (by decide) (by decide) rfl (Nat.le_of_ble_eq_true rfl) dX11_kindOn_73 (fun v12 hf => ?_)
    refine g_ifeq (tgt := 83) X hf dX11_kindOn_76 (by decide) (fun hf => ?_) (fun hf => ?_)
    · refine g_iconst (v := (-1)) X dX11_kindOn_83 (by decide) ?_
      exact g_ireturn X (zP hf) (by decide) (by decide) dX11_kindOn_84
    · refine g_iconst (v := 4) X dX11_kindOn_79 (by decide) ?_
      refine g_goto (tgt := 84) X dX11_kindOn_80 (by decide) ?_
      exact g_ireturn X (zP hf) (by decide) (by decide) dX11_kindOn_84
  rw [if_neg hs1] at hf
  by_cases hs2 : v4 = 2
  · rw [if_pos hs2] at hf
    refine g_tabIn (off := 72) (tgt := 85) X 2 hs2 dX11_kindOn_13 (by decide) (by decide) (by decide +kernel) (by decide) ?_
    refine g_aload_n X dX11_kindOn_85 0 rfl ?_
    refine g_getR X hf (T := TX11) rfl (by decide) (by decide) in_RX11 tb_350 rfl dX11_kindOn_86 (fun v13 hf => ?_)
    refine g_iload_n X dX11_kindOn_89 2 rfl ?_
    refine g_callV (n := 1) (av := [tI v2]) (rest := []) (k := 2) X hf (fun v14 => (some (tI v14), h)) (fun _ q => m_X2_hasMan q) (gdV tb_457 tb_458 tb_459 tb_2 tb_460) rfl (by decide +kernel) rfl (by decide) rfl (by decide) (by decide) rfl (Nat.le_of_ble_eq_true rfl) dX11_kindOn_90 (fun v14 hf => ?_)
    refine g_ifeq (tgt := 111) X hf dX11_kindOn_93 (by decide) (fun hf => ?_) (fun hf => ?_)
    · refine g_iconst (v := (-1)) X dX11_kindOn_111 (by decide) ?_
      exact g_ireturn X (zP hf) (by decide) (by decide) dX11_kindOn_112
    · refine g_aload_n X dX11_kindOn_96 0 rfl ?_
      refine g_getR X hf (T := TX11) rfl (by decide) (by decide) in_RX11 tb_350 rfl dX11_kindOn_97 (fun v15 hf => ?_)
      refine g_getR X hf (T := TX2) rfl (by decide) (by decide) in_RX2 tb_222 rfl dX11_kindOn_100 (fun v16 hf => ?_)
      refine g_iload_n X dX11_kindOn_103 2 rfl ?_
      refine g_aaload X hf dX11_kindOn_104 (fun v17 hf => ?_)
      refine g_callV (n := 0) (av := []) (rest := []) (k := 5) X hf (fun v18 => (some (tI v18), h)) (fun _ q => m_X5_kind q) (gdV tb_1031 tb_1032 tb_1033 tb_4 tb_1034) rfl (by decide +kernel) rfl (by decide) rfl (by decide) (by decide) rfl (Nat.le_of_ble_eq_true rfl) dX11_kindOn_105 (fun v18 hf => ?_)
      refine g_goto (tgt := 112) X dX11_kindOn_108 (by decide) ?_
      exact g_ireturn X (zP hf) (by decide) (by decide) dX11_kindOn_112
  rw [if_neg hs2] at hf
  cases hf
def b_X11_isUnder_4   (h : AH) : Nat → Int32 → Int32 → Int32 → Option Int32
  | 0 => fun _ _ _ => none
  | n + 1 => fun x1 x2 x3 =>
    if x3 < 3 then
      if x2 < 0 then
        some 0
      else
        if x2 = x1 then
          some 1
        else
          (aI h (some (h.2.2 2)) x2).bind fun v1 =>
          b_X11_isUnder_4 h n x1 v1 (x3 + 1)
    else
      some 0
set_option maxRecDepth 20000 in
theorem w_X11_isUnder_4 {K : KT} {w : Int32} {h : AH}   (X : CX K cX11_isUnder RX11 TB (some .boolean) "isUnder" (rmD 1 0 0) 4 0 0)  : ∀ (n : Nat) (x1 : Int32) (x2 : Int32) (x3 : Int32), b_X11_isUnder_4 h n x1 x2 x3 = some w → GG K (some (tI w), h) 0 0 4 [(1, tI x1), (2, tI x2), (3, tI x3)] [] h := by
  intro n
  induction n with
  | zero =>
    intro x1 x2 x3 hf
    cases (show none = some w from hf)
  | succ n ih =>
    intro x1 x2 x3 hf
    rw [b_X11_isUnder_4] at hf
    refine g_iload_n X dX11_isUnder_4 2 rfl ?_
    refine g_iconst (v := 3) X dX11_isUnder_5 (by decide) ?_
    refine g_icmpge (tgt := 32) X hf dX11_isUnder_6 (by decide) (fun hf => ?_) (fun hf => ?_)
    · refine g_iload_n X dX11_isUnder_9 1 rfl ?_
      refine g_iflt (tgt := 32) X hf dX11_isUnder_10 (by decide) (fun hf => ?_) (fun hf => ?_)
      · refine g_iconst (v := 0) X dX11_isUnder_32 (by decide) ?_
        exact g_zreturn X (zP hf) (by decide) (by decide) (by decide) dX11_isUnder_33
      · refine g_iload_n X dX11_isUnder_13 1 rfl ?_
        refine g_iload_n X dX11_isUnder_14 0 rfl ?_
        refine g_icmpne (tgt := 20) X hf dX11_isUnder_15 (by decide) (fun hf => ?_) (fun hf => ?_)
        · refine g_iconst (v := 1) X dX11_isUnder_18 (by decide) ?_
          exact g_zreturn X (zP hf) (by decide) (by decide) (by decide) dX11_isUnder_19
        · refine g_gets 2 (by decide) X tb_1039 dX11_isUnder_20 ?_
          refine g_iload_n X dX11_isUnder_23 1 rfl ?_
          refine g_iaload X hf dX11_isUnder_24 (fun v1 hf => ?_)
          refine g_istore_n (lv' := [(1, tI x1), (2, tI v1), (3, tI x3)]) X dX11_isUnder_25 (by decide) (in_pick [1, 0, 2] rfl) ?_
          refine g_iinc (v := (x3 + 1)) (lv' := [(1, tI x1), (2, tI v1), (3, tI (x3 + 1))]) X dX11_isUnder_26 2 rfl (by rfl) (by decide) (in_pick [1, 2, 0] rfl) ?_
          refine g_goto (tgt := 4) X dX11_isUnder_29 (by decide) ?_
          exact ih x1 v1 (x3 + 1) hf
    · refine g_iconst (v := 0) X dX11_isUnder_32 (by decide) ?_
      exact g_zreturn X (zP hf) (by decide) (by decide) (by decide) dX11_isUnder_33
def f_X11_isUnder  (a0 : Int32) (a1 : Int32) (h : AH) : Option Int32 :=
  b_X11_isUnder_4 h FU a1 a0 0
set_option maxRecDepth 20000 in
theorem m_X11_isUnder  {a0 : Int32} {a1 : Int32} {h : AH} {w : Int32} (hf : f_X11_isUnder a0 a1 h = some w) : CT yX11_isUnder (wU yX11_isUnder cX11_isUnder 4 (some .boolean)) (rmD 1 0 0) 0 0 [tI a0, tI a1] h (some (tI w), h) := by
  refine CT.of (cc := cX11_isUnder) (nL := 4) (ret := (some .boolean)) (by decide) (by simp [lg_sl, vOf_cat, wOf]) ?_
  intro K X
  refine g_locs (lv' := [(0, tI a0), (1, tI a1)]) (fun q hq => hq) ?_
  unfold f_X11_isUnder at hf
  refine g_iload_n X dX11_isUnder_0 0 rfl ?_
  refine g_istore_n (lv' := [(0, tI a0), (1, tI a1), (2, tI a0)]) X dX11_isUnder_1 (by decide) (in_pick [1, 2, 0] rfl) ?_
  refine g_iconst (v := 0) X dX11_isUnder_2 (by decide) ?_
  refine g_istore_n (lv' := [(0, tI a0), (1, tI a1), (2, tI a0), (3, tI 0)]) X dX11_isUnder_3 (by decide) (in_pick [1, 2, 3, 0] rfl) ?_
  refine g_locs (lv' := [(1, tI a1), (2, tI a0), (3, tI 0)]) (in_pick [1, 2, 3] rfl) ?_
  exact w_X11_isUnder_4 X FU a1 a0 0 hf
def b_X11_taken_64   (h : AH) (x0 : Option Nat) (x1 : Int32) (x2 : Int32) (x3 : Int32) (x4 : Option Nat) (x5 : Int32) : Option Int32 :=
  if x4 = none then
    if x3 = 0 then
      (f_X11_isUnder x5 x2 h).bind fun v1 =>
      if v1 = 0 then
        some (-13)
      else
        (gR 11 12 h x0).bind fun v2 =>
        (aI h v2 x1).bind fun v3 =>
        some v3
    else
      some (-13)
  else
    if x3 = 0 then
      some (-13)
    else
      (gI 7 0 h x4).bind fun v4 =>
      if v4 = (x2 - 10) then
        (gR 7 1 h x4).bind fun v5 =>
        (aL h v5).bind fun v6 =>
        some v6
      else
        some (-13)
set_option maxRecDepth 20000 in
theorem w_X11_taken_64 {K : KT} {w : Int32} {h : AH}   (X : CX K cX11_taken RX11 TB (some .int) "taken" (rmD 4 0 0) 6 0 0)  (x0 : Option Nat) (x1 : Int32) (x2 : Int32) (x3 : Int32) (x4 : Option Nat) (x5 : Int32) (hf : b_X11_taken_64 h x0 x1 x2 x3 x4 x5 = some w) : GG K (some (tI w), h) 0 0 64 [(0, tR x0), (1, tI x1), (2, tI x2), (3, tI x3), (4, tR x4), (5, tI x5)] [] h := by
  unfold b_X11_taken_64 at hf
  refine g_aload X dX11_taken_64 4 rfl ?_
  refine g_ifnull (tgt := 97) X hf dX11_taken_66 (by decide) (fun hf => ?_) (fun hf => ?_)
  · refine g_iload_n X dX11_taken_97 3 rfl ?_
    refine g_ifne (tgt := 119) X hf dX11_taken_98 (by decide) (fun hf => ?_) (fun hf => ?_)
    · refine g_iload X dX11_taken_101 5 rfl ?_
      refine g_iload_n X dX11_taken_103 2 rfl ?_
      refine g_callS (n := 2) (av := [tI x5, tI x2]) (rest := []) X hf (fun v1 => (some (tI v1), h)) (fun _ q => m_X11_isUnder q) (gdS tb_1036 tb_1037 tb_1 tb_1038) rfl (by decide +kernel) rfl (by decide) (by decide) rfl (Nat.le_of_ble_eq_true rfl) dX11_taken_104 (fun v1 hf => ?_)
      refine g_ifeq (tgt := 119) X hf dX11_taken_107 (by decide) (fun hf => ?_) (fun hf => ?_)
      · refine g_bipush (v := (-13)) X dX11_taken_119 (by decide) ?_
        exact g_ireturn X (zP hf) (by decide) (by decide) dX11_taken_121
      · refine g_aload_n X dX11_taken_110 0 rfl ?_
        refine g_getR X hf (T := TX11) rfl (by decide) (by decide) in_RX11 tb_362 rfl dX11_taken_111 (fun v2 hf => ?_)
        refine g_iload_n X dX11_taken_114 1 rfl ?_
        refine g_iaload X hf dX11_taken_115 (fun v3 hf => ?_)
        refine g_goto (tgt := 121) X dX11_taken_116 (by decide) ?_
        exact g_ireturn X (zP hf) (by decide) (by decide) dX11_taken_121
    · refine g_bipush (v := (-13)) X dX11_taken_119 (by decide) ?_
      exact g_ireturn X (zP hf) (by decide) (by decide) dX11_taken_121
  · refine g_iload_n X dX11_taken_69 3 rfl ?_
    refine g_ifeq (tgt := 94) X hf dX11_taken_70 (by decide) (fun hf => ?_) (fun hf => ?_)
    · refine g_bipush (v := (-13)) X dX11_taken_94 (by decide) ?_
      exact g_ireturn X (zP hf) (by decide) (by decide) dX11_taken_96
    · refine g_aload X dX11_taken_73 4 rfl ?_
      refine g_getI X hf (T := TX7) rfl (by decide) (by decide) in_RX7 tb_987 rfl dX11_taken_75 (fun v4 hf => ?_)
      refine g_iload_n X dX11_taken_78 2 rfl ?_
      refine g_bipush (v := 10) X dX11_taken_79 (by decide) ?_
      refine g_isub X dX11_taken_81 ?_
      refine g_icmpne (tgt := 94) X hf dX11_taken_82 (by decide) (fun hf => ?_) (fun hf => ?_)
      · refine g_aload X dX11_taken_85 4 rfl ?_
        refine g_getR X hf (T := TX7) rfl (by decide) (by decide) in_RX7 tb_989 rfl dX11_taken_87 (fun v5 hf => ?_)
        refine g_alen X hf dX11_taken_90 (fun v6 hf => ?_)
        refine g_goto (tgt := 96) X dX11_taken_91 (by decide) ?_
        exact g_ireturn X (zP hf) (by decide) (by decide) dX11_taken_96
      · refine g_bipush (v := (-13)) X dX11_taken_94 (by decide) ?_
        exact g_ireturn X (zP hf) (by decide) (by decide) dX11_taken_96
def b_X11_taken_36   (h : AH) (x0 : Option Nat) (x1 : Int32) (x2 : Int32) (x3 : Int32) : Option Int32 :=
  (gR 11 13 h x0).bind fun v1 =>
  (aR h v1 x1).bind fun v2 =>
  (ck 11 h x0 (f_X11_kindOn x0 x1 h)).bind fun v3 =>
  if v2 = none then
    if v3 < 0 then
      some (-11)
    else
      b_X11_taken_64 h x0 x1 x2 x3 v2 v3
  else
    b_X11_taken_64 h x0 x1 x2 x3 v2 v3
set_option maxRecDepth 20000 in
theorem w_X11_taken_36 {K : KT} {w : Int32} {h : AH}   (X : CX K cX11_taken RX11 TB (some .int) "taken" (rmD 4 0 0) 6 0 0)  (x0 : Option Nat) (x1 : Int32) (x2 : Int32) (x3 : Int32) (hf : b_X11_taken_36 h x0 x1 x2 x3 = some w) : GG K (some (tI w), h) 0 0 36 [(0, tR x0), (1, tI x1), (2, tI x2), (3, tI x3)] [] h := by
  unfold b_X11_taken_36 at hf
  refine g_aload_n X dX11_taken_36 0 rfl ?_
  refine g_getR X hf (T := TX11) rfl (by decide) (by decide) in_RX11 tb_363 rfl dX11_taken_37 (fun v1 hf => ?_)
  refine g_iload_n X dX11_taken_40 1 rfl ?_
  refine g_aaload X hf dX11_taken_41 (fun v2 hf => ?_)
  refine g_astore (lv' := [(0, tR x0), (1, tI x1), (2, tI x2), (3, tI x3), (4, tR v2)]) X dX11_taken_42 (by decide) (in_pick [1, 2, 3, 4, 0] rfl) ?_
  refine g_aload_n X dX11_taken_44 0 rfl ?_
  refine g_iload_n X dX11_taken_45 1 rfl ?_
  refine g_callV (n := 1) (av := [tI x1]) (rest := []) (k := 11) X hf (fun v3 => (some (tI v3), h)) (fun _ q => m_X11_kindOn q) (gdV tb_1024 tb_1025 tb_1678 tb_1 tb_1026) rfl (by decide +kernel) rfl (by decide) rfl (by decide) (by decide) rfl (Nat.le_of_ble_eq_true rfl) dX11_taken_46 (fun v3 hf => ?_)
  refine g_istore (lv' := [(0, tR x0), (1, tI x1), (2, tI x2), (3, tI x3), (4, tR v2), (5, tI v3)]) X dX11_taken_49 (by decide) (in_pick [1, 2, 3, 4, 5, 0] rfl) ?_
  refine g_aload X dX11_taken_51 4 rfl ?_
  refine g_ifnonnull (tgt := 64) X hf dX11_taken_53 (by decide) (fun hf => ?_) (fun hf => ?_)
  · refine g_iload X dX11_taken_56 5 rfl ?_
    refine g_ifge (tgt := 64) X hf dX11_taken_58 (by decide) (fun hf => ?_) (fun hf => ?_)
    · refine g_bipush (v := (-11)) X dX11_taken_61 (by decide) ?_
      exact g_ireturn X (zP hf) (by decide) (by decide) dX11_taken_63
    · exact w_X11_taken_64 X x0 x1 x2 x3 v2 v3 hf
  · exact w_X11_taken_64 X x0 x1 x2 x3 v2 v3 hf
def f_X11_taken  (a0 : Option Nat) (a1 : Int32) (a2 : Int32) (h : AH) : Option Int32 :=
  (f_X11_within a1 0 3 h).bind fun v1 =>
  if v1 = 0 then
    some (-1)
  else
    (f_X11_within a2 10 14 h).bind fun v2 =>
    if v2 = 0 then
      (f_X11_within a2 0 6 h).bind fun v3 =>
      if v3 = 0 then
        some (-1)
      else
        b_X11_taken_36 h a0 a1 a2 v2
    else
      b_X11_taken_36 h a0 a1 a2 v2
set_option maxRecDepth 20000 in
theorem m_X11_taken  {a0 : Option Nat} {a1 : Int32} {a2 : Int32} {h : AH} {w : Int32} (hf : f_X11_taken a0 a1 a2 h = some w) : CT yX11_taken (wU yX11_taken cX11_taken 6 (some .int)) (rmD 4 0 0) 0 0 [tR a0, tI a1, tI a2] h (some (tI w), h) := by
  refine CT.of (cc := cX11_taken) (nL := 6) (ret := (some .int)) (by decide) (by simp [lg_sl, vOf_cat, wOf]) ?_
  intro K X
  refine g_locs (lv' := [(0, tR a0), (1, tI a1), (2, tI a2)]) (fun q hq => hq) ?_
  unfold f_X11_taken at hf
  refine g_iload_n X dX11_taken_0 1 rfl ?_
  refine g_iconst (v := 0) X dX11_taken_1 (by decide) ?_
  refine g_iconst (v := 3) X dX11_taken_2 (by decide) ?_
  refine g_callS (n := 3) (av := [tI a1, tI 0, tI 3]) (rest := []) X hf (fun v1 => (some (tI v1), h)) (fun _ q => m_X11_within q) (gdS tb_388 tb_389 tb_1 tb_390) rfl (by decide +kernel) rfl (by decide) (by decide) rfl (Nat.le_of_ble_eq_true rfl) dX11_taken_3 (fun v1 hf => ?_)
  refine g_ifne (tgt := 11) X hf dX11_taken_6 (by decide) (fun hf => ?_) (fun hf => ?_)
  · refine g_iconst (v := (-1)) X dX11_taken_9 (by decide) ?_
    exact g_ireturn X (zP hf) (by decide) (by decide) dX11_taken_10
  · refine g_iload_n X dX11_taken_11 2 rfl ?_
    refine g_bipush (v := 10) X dX11_taken_12 (by decide) ?_
    refine g_bipush (v := 14) X dX11_taken_14 (by decide) ?_
    refine g_callS (n := 3) (av := [tI a2, tI 10, tI 14]) (rest := []) X hf (fun v2 => (some (tI v2), h)) (fun _ q => m_X11_within q) (gdS tb_388 tb_389 tb_1 tb_390) rfl (by decide +kernel) rfl (by decide) (by decide) rfl (Nat.le_of_ble_eq_true rfl) dX11_taken_16 (fun v2 hf => ?_)
    refine g_istore_n (lv' := [(0, tR a0), (1, tI a1), (2, tI a2), (3, tI v2)]) X dX11_taken_19 (by decide) (in_pick [1, 2, 3, 0] rfl) ?_
    refine g_iload_n X dX11_taken_20 3 rfl ?_
    refine g_ifne (tgt := 36) X hf dX11_taken_21 (by decide) (fun hf => ?_) (fun hf => ?_)
    · refine g_iload_n X dX11_taken_24 2 rfl ?_
      refine g_iconst (v := 0) X dX11_taken_25 (by decide) ?_
      refine g_bipush (v := 6) X dX11_taken_26 (by decide) ?_
      refine g_callS (n := 3) (av := [tI a2, tI 0, tI 6]) (rest := []) X hf (fun v3 => (some (tI v3), h)) (fun _ q => m_X11_within q) (gdS tb_388 tb_389 tb_1 tb_390) rfl (by decide +kernel) rfl (by decide) (by decide) rfl (Nat.le_of_ble_eq_true rfl) dX11_taken_28 (fun v3 hf => ?_)
      refine g_ifne (tgt := 36) X hf dX11_taken_31 (by decide) (fun hf => ?_) (fun hf => ?_)
      · refine g_iconst (v := (-1)) X dX11_taken_34 (by decide) ?_
        exact g_ireturn X (zP hf) (by decide) (by decide) dX11_taken_35
      · exact w_X11_taken_36 X a0 a1 a2 v2 hf
    · exact w_X11_taken_36 X a0 a1 a2 v2 hf
def f_X11_markOf  (a0 : Option Nat) (a1 : Int32) (a2 : Int32) (h : AH) : Option Int32 :=
  if a1 = 4 then
    (gR 11 0 h a0).bind fun v1 =>
    (gR 2 9 h v1).bind fun v2 =>
    (aR h v2 a2).bind fun v3 =>
    (gI 1 0 h v3).bind fun v4 =>
    some v4
  else
    (f_X11_isUnder a1 5 h).bind fun v5 =>
    if v5 = 0 then
      (gR 11 0 h a0).bind fun v6 =>
      (gR 2 11 h v6).bind fun v7 =>
      (aR h v7 a2).bind fun v8 =>
      (gI 8 6 h v8).bind fun v9 =>
      some v9
    else
      (gR 11 0 h a0).bind fun v10 =>
      (gR 2 5 h v10).bind fun v11 =>
      (aR h v11 a2).bind fun v12 =>
      (gI 5 6 h v12).bind fun v13 =>
      some v13
set_option maxRecDepth 20000 in
theorem m_X11_markOf  {a0 : Option Nat} {a1 : Int32} {a2 : Int32} {h : AH} {w : Int32} (hf : f_X11_markOf a0 a1 a2 h = some w) : CT yX11_markOf (wU yX11_markOf cX11_markOf 3 (some .int)) (rmD 2 0 0) 0 0 [tR a0, tI a1, tI a2] h (some (tI w), h) := by
  refine CT.of (cc := cX11_markOf) (nL := 3) (ret := (some .int)) (by decide) (by simp [lg_sl, vOf_cat, wOf]) ?_
  intro K X
  refine g_locs (lv' := [(0, tR a0), (1, tI a1), (2, tI a2)]) (fun q hq => hq) ?_
  unfold f_X11_markOf at hf
  refine g_iload_n X dX11_markOf_0 1 rfl ?_
  refine g_iconst (v := 4) X dX11_markOf_1 (by decide) ?_
  refine g_icmpne (tgt := 18) X hf dX11_markOf_2 (by decide) (fun hf => ?_) (fun hf => ?_)
  · refine g_aload_n X dX11_markOf_5 0 rfl ?_
    refine g_getR X hf (T := TX11) rfl (by decide) (by decide) in_RX11 tb_350 rfl dX11_markOf_6 (fun v1 hf => ?_)
    refine g_getR X hf (T := TX2) rfl (by decide) (by decide) in_RX2 tb_230 rfl dX11_markOf_9 (fun v2 hf => ?_)
    refine g_iload_n X dX11_markOf_12 2 rfl ?_
    refine g_aaload X hf dX11_markOf_13 (fun v3 hf => ?_)
    refine g_getI X hf (T := TX1) rfl (by decide) (by decide) in_RX1 tb_126 rfl dX11_markOf_14 (fun v4 hf => ?_)
    exact g_ireturn X (zP hf) (by decide) (by decide) dX11_markOf_17
  · refine g_iload_n X dX11_markOf_18 1 rfl ?_
    refine g_iconst (v := 5) X dX11_markOf_19 (by decide) ?_
    refine g_callS (n := 2) (av := [tI a1, tI 5]) (rest := []) X hf (fun v5 => (some (tI v5), h)) (fun _ q => m_X11_isUnder q) (gdS tb_1036 tb_1037 tb_1 tb_1038) rfl (by decide +kernel) rfl (by decide) (by decide) rfl (Nat.le_of_ble_eq_true rfl) dX11_markOf_20 (fun v5 hf => ?_)
    refine g_ifeq (tgt := 41) X hf dX11_markOf_23 (by decide) (fun hf => ?_) (fun hf => ?_)
    · refine g_aload_n X dX11_markOf_41 0 rfl ?_
      refine g_getR X hf (T := TX11) rfl (by decide) (by decide) in_RX11 tb_350 rfl dX11_markOf_42 (fun v6 hf => ?_)
      refine g_getR X hf (T := TX2) rfl (by decide) (by decide) in_RX2 tb_234 rfl dX11_markOf_45 (fun v7 hf => ?_)
      refine g_iload_n X dX11_markOf_48 2 rfl ?_
      refine g_aaload X hf dX11_markOf_49 (fun v8 hf => ?_)
      refine g_getI X hf (T := TX8) rfl (by decide) (by decide) in_RX8 tb_163 rfl dX11_markOf_50 (fun v9 hf => ?_)
      exact g_ireturn X (zP hf) (by decide) (by decide) dX11_markOf_53
    · refine g_aload_n X dX11_markOf_26 0 rfl ?_
      refine g_getR X hf (T := TX11) rfl (by decide) (by decide) in_RX11 tb_350 rfl dX11_markOf_27 (fun v10 hf => ?_)
      refine g_getR X hf (T := TX2) rfl (by decide) (by decide) in_RX2 tb_222 rfl dX11_markOf_30 (fun v11 hf => ?_)
      refine g_iload_n X dX11_markOf_33 2 rfl ?_
      refine g_aaload X hf dX11_markOf_34 (fun v12 hf => ?_)
      refine g_getI X hf (T := TX5) rfl (by decide) (by decide) in_RX5 tb_87 rfl dX11_markOf_35 (fun v13 hf => ?_)
      refine g_goto (tgt := 53) X dX11_markOf_38 (by decide) ?_
      exact g_ireturn X (zP hf) (by decide) (by decide) dX11_markOf_53
def f_X11_act  (a0 : Option Nat) (a1 : Int32) (a2 : Int32) (a3 : Int32) (h : AH) : Option (Int32 × AH) :=
  (gR 11 4 h a0).bind fun v1 =>
  (ck 0 h v1 (f_X0_forget v1 h)).bind fun h2 =>
  (f_X11_within a1 0 3 h2).bind fun v3 =>
  if v3 = 0 then
    some (0, h2)
  else
    (f_X11_within a2 0 3 h2).bind fun v4 =>
    if v4 = 0 then
      some (0, h2)
    else
      (ck 11 h2 a0 (f_X11_kindOn a0 a1 h2)).bind fun v5 =>
      if v5 < 0 then
        some (0, h2)
      else
        (gR 11 4 h2 a0).bind fun v6 =>
        (pI 0 0 h2 v6 v5).bind fun h7 =>
        (gR 11 4 h7 a0).bind fun v8 =>
        (gR 11 12 h7 a0).bind fun v9 =>
        (aI h7 v9 a1).bind fun v10 =>
        (pI 0 1 h7 v8 v10).bind fun h11 =>
        (gR 11 4 h11 a0).bind fun v12 =>
        (gR 11 4 h11 a0).bind fun v13 =>
        (gI 0 1 h11 v13).bind fun v14 =>
        (ck 11 h11 a0 (f_X11_markOf a0 v5 v14 h11)).bind fun v15 =>
        (pI 0 2 h11 v12 v15).bind fun h16 =>
        (gR 11 4 h16 a0).bind fun v17 =>
        (ck 0 h16 v17 (f_X0_perform v17 a2 a3 h16)).bind fun p18 =>
        some (p18.1, p18.2)
set_option maxRecDepth 20000 in
theorem m_X11_act  {a0 : Option Nat} {a1 : Int32} {a2 : Int32} {a3 : Int32} {h : AH} {w : (Int32 × AH)} (hf : f_X11_act a0 a1 a2 a3 h = some w) : CT yX11_act (wU yX11_act cX11_act 5 (some .int)) (rmD 6 0 0) 0 0 [tR a0, tI a1, tI a2, tI a3] h (some (tI w.1), w.2) := by
  refine CT.of (cc := cX11_act) (nL := 5) (ret := (some .int)) (by decide) (by simp [lg_sl, vOf_cat, wOf]) ?_
  intro K X
  refine g_locs (lv' := [(0, tR a0), (1, tI a1), (2, tI a2), (3, tI a3)]) (fun q hq => hq) ?_
  unfold f_X11_act at hf
  refine g_aload_n X dX11_act_0 0 rfl ?_
  refine g_getR X hf (T := TX11) rfl (by decide) (by decide) in_RX11 tb_354 rfl dX11_act_1 (fun v1 hf => ?_)
  refine g_callV (n := 0) (av := []) (rest := []) (k := 0) X hf (fun h2 => (none, h2)) (fun _ q => m_X0_forget q) (gdV tb_1044 tb_1045 tb_1046 tb_11 tb_1047) rfl (by decide +kernel) rfl (by decide) rfl (by decide) (by decide) rfl (Nat.le_of_ble_eq_true rfl) dX11_act_4 (fun h2 hf => ?_)
  refine g_iload_n X dX11_act_7 1 rfl ?_
  refine g_iconst (v := 0) X dX11_act_8 (by decide) ?_
  refine g_iconst (v := 3) X dX11_act_9 (by decide) ?_
  refine g_callS (n := 3) (av := [tI a1, tI 0, tI 3]) (rest := []) X hf (fun v3 => (some (tI v3), h2)) (fun _ q => m_X11_within q) (gdS tb_388 tb_389 tb_1 tb_390) rfl (by decide +kernel) rfl (by decide) (by decide) rfl (Nat.le_of_ble_eq_true rfl) dX11_act_10 (fun v3 hf => ?_)
  refine g_ifeq (tgt := 25) X hf dX11_act_13 (by decide) (fun hf => ?_) (fun hf => ?_)
  · refine g_iconst (v := 0) X dX11_act_25 (by decide) ?_
    exact g_ireturn X (zW hf) (by decide) (by decide) dX11_act_26
  · refine g_iload_n X dX11_act_16 2 rfl ?_
    refine g_iconst (v := 0) X dX11_act_17 (by decide) ?_
    refine g_iconst (v := 3) X dX11_act_18 (by decide) ?_
    refine g_callS (n := 3) (av := [tI a2, tI 0, tI 3]) (rest := []) X hf (fun v4 => (some (tI v4), h2)) (fun _ q => m_X11_within q) (gdS tb_388 tb_389 tb_1 tb_390) rfl (by decide +kernel) rfl (by decide) (by decide) rfl (Nat.le_of_ble_eq_true rfl) dX11_act_19 (fun v4 hf => ?_)
    refine g_ifne (tgt := 27) X hf dX11_act_22 (by decide) (fun hf => ?_) (fun hf => ?_)
    · refine g_iconst (v := 0) X dX11_act_25 (by decide) ?_
      exact g_ireturn X (zW hf) (by decide) (by decide) dX11_act_26
    · refine g_aload_n X dX11_act_27 0 rfl ?_
      refine g_iload_n X dX11_act_28 1 rfl ?_
      refine g_callV (n := 1) (av := [tI a1]) (rest := []) (k := 11) X hf (fun v5 => (some (tI v5), h2)) (fun _ q => m_X11_kindOn q) (gdV tb_1024 tb_1025 tb_1678 tb_1 tb_1026) rfl (by decide +kernel) rfl (by decide) rfl (by decide) (by decide) rfl (Nat.le_of_ble_eq_true rfl) dX11_act_29 (fun v5 hf => ?_)
      refine g_istore (lv' := [(0, tR a0), (1, tI a1), (2, tI a2), (3, tI a3), (4, tI v5)]) X dX11_act_32 (by decide) (in_pick [1, 2, 3, 4, 0] rfl) ?_
      refine g_iload X dX11_act_34 4 rfl ?_
      refine g_ifge (tgt := 41) X hf dX11_act_36 (by decide) (fun hf => ?_) (fun hf => ?_)
      · refine g_iconst (v := 0) X dX11_act_39 (by decide) ?_
        exact g_ireturn X (zW hf) (by decide) (by decide) dX11_act_40
      · refine g_aload_n X dX11_act_41 0 rfl ?_
        refine g_getR X hf (T := TX11) rfl (by decide) (by decide) in_RX11 tb_354 rfl dX11_act_42 (fun v6 hf => ?_)
        refine g_iload X dX11_act_45 4 rfl ?_
        refine g_putI X hf (T := TX0) rfl (by decide) (by decide) in_RX0 tyX0 tyX0_ok nmX0 tb_333 rfl rfl rfl dX11_act_47 (fun h7 hf => ?_)
        refine g_aload_n X dX11_act_50 0 rfl ?_
        refine g_getR X hf (T := TX11) rfl (by decide) (by decide) in_RX11 tb_354 rfl dX11_act_51 (fun v8 hf => ?_)
        refine g_aload_n X dX11_act_54 0 rfl ?_
        refine g_getR X hf (T := TX11) rfl (by decide) (by decide) in_RX11 tb_362 rfl dX11_act_55 (fun v9 hf => ?_)
        refine g_iload_n X dX11_act_58 1 rfl ?_
        refine g_iaload X hf dX11_act_59 (fun v10 hf => ?_)
        refine g_putI X hf (T := TX0) rfl (by decide) (by decide) in_RX0 tyX0 tyX0_ok nmX0 tb_335 rfl rfl rfl dX11_act_60 (fun h11 hf => ?_)
        refine g_aload_n X dX11_act_63 0 rfl ?_
        refine g_getR X hf (T := TX11) rfl (by decide) (by decide) in_RX11 tb_354 rfl dX11_act_64 (fun v12 hf => ?_)
        refine g_aload_n X dX11_act_67 0 rfl ?_
        refine g_iload X dX11_act_68 4 rfl ?_
        refine g_aload_n X dX11_act_70 0 rfl ?_
        refine g_getR X hf (T := TX11) rfl (by decide) (by decide) in_RX11 tb_354 rfl dX11_act_71 (fun v13 hf => ?_)
        refine g_getI X hf (T := TX0) rfl (by decide) (by decide) in_RX0 tb_335 rfl dX11_act_74 (fun v14 hf => ?_)
        refine g_callV (n := 2) (av := [tI v5, tI v14]) (rest := [tR v12]) (k := 11) X hf (fun v15 => (some (tI v15), h11)) (fun _ q => m_X11_markOf q) (gdV tb_1048 tb_1049 tb_1679 tb_1 tb_1050) rfl (by decide +kernel) rfl (by decide) rfl (by decide) (by decide) rfl (Nat.le_of_ble_eq_true rfl) dX11_act_77 (fun v15 hf => ?_)
        refine g_putI X hf (T := TX0) rfl (by decide) (by decide) in_RX0 tyX0 tyX0_ok nmX0 tb_337 rfl rfl rfl dX11_act_80 (fun h16 hf => ?_)
        refine g_aload_n X dX11_act_83 0 rfl ?_
        refine g_getR X hf (T := TX11) rfl (by decide) (by decide) in_RX11 tb_354 rfl dX11_act_84 (fun v17 hf => ?_)
        refine g_iload_n X dX11_act_87 2 rfl ?_
        refine g_iload_n X dX11_act_88 3 rfl ?_
        refine g_callV (n := 2) (av := [tI a2, tI a3]) (rest := []) (k := 0) X hf (fun p18 => (some (tI p18.1), p18.2)) (fun _ q => m_X0_perform q) (gdV tb_1051 tb_1052 tb_1053 tb_11 tb_1054) rfl (by decide +kernel) rfl (by decide) rfl (by decide) (by decide) rfl (Nat.le_of_ble_eq_true rfl) dX11_act_89 (fun p18 hf => ?_)
        exact g_ireturn X (zW hf) (by decide) (by decide) dX11_act_92
def f_X11_trace  (a0 : Option Nat) (a1 : Int32) (h : AH) : Option Int32 :=
  (gR 11 4 h a0).bind fun v1 =>
  (gI 0 4 h v1).bind fun v2 =>
  (f_X11_within a1 0 (v2 - 1) h).bind fun v3 =>
  if v3 = 0 then
    some (-3)
  else
    (gR 11 4 h a0).bind fun v4 =>
    (gR 0 3 h v4).bind fun v5 =>
    (aI h v5 a1).bind fun v6 =>
    some v6
set_option maxRecDepth 20000 in
theorem m_X11_trace  {a0 : Option Nat} {a1 : Int32} {h : AH} {w : Int32} (hf : f_X11_trace a0 a1 h = some w) : CT yX11_trace (wU yX11_trace cX11_trace 2 (some .int)) (rmD 2 0 0) 0 0 [tR a0, tI a1] h (some (tI w), h) := by
  refine CT.of (cc := cX11_trace) (nL := 2) (ret := (some .int)) (by decide) (by simp [lg_sl, vOf_cat, wOf]) ?_
  intro K X
  refine g_locs (lv' := [(0, tR a0), (1, tI a1)]) (fun q hq => hq) ?_
  unfold f_X11_trace at hf
  refine g_iload_n X dX11_trace_0 1 rfl ?_
  refine g_iconst (v := 0) X dX11_trace_1 (by decide) ?_
  refine g_aload_n X dX11_trace_2 0 rfl ?_
  refine g_getR X hf (T := TX11) rfl (by decide) (by decide) in_RX11 tb_354 rfl dX11_trace_3 (fun v1 hf => ?_)
  refine g_getI X hf (T := TX0) rfl (by decide) (by decide) in_RX0 tb_341 rfl dX11_trace_6 (fun v2 hf => ?_)
  refine g_iconst (v := 1) X dX11_trace_9 (by decide) ?_
  refine g_isub X dX11_trace_10 ?_
  refine g_callS (n := 3) (av := [tI a1, tI 0, tI (v2 - 1)]) (rest := []) X hf (fun v3 => (some (tI v3), h)) (fun _ q => m_X11_within q) (gdS tb_388 tb_389 tb_1 tb_390) rfl (by decide +kernel) rfl (by decide) (by decide) rfl (Nat.le_of_ble_eq_true rfl) dX11_trace_11 (fun v3 hf => ?_)
  refine g_ifeq (tgt := 29) X hf dX11_trace_14 (by decide) (fun hf => ?_) (fun hf => ?_)
  · refine g_bipush (v := (-3)) X dX11_trace_29 (by decide) ?_
    exact g_ireturn X (zP hf) (by decide) (by decide) dX11_trace_31
  · refine g_aload_n X dX11_trace_17 0 rfl ?_
    refine g_getR X hf (T := TX11) rfl (by decide) (by decide) in_RX11 tb_354 rfl dX11_trace_18 (fun v4 hf => ?_)
    refine g_getR X hf (T := TX0) rfl (by decide) (by decide) in_RX0 tb_339 rfl dX11_trace_21 (fun v5 hf => ?_)
    refine g_iload_n X dX11_trace_24 1 rfl ?_
    refine g_iaload X hf dX11_trace_25 (fun v6 hf => ?_)
    refine g_goto (tgt := 31) X dX11_trace_26 (by decide) ?_
    exact g_ireturn X (zP hf) (by decide) (by decide) dX11_trace_31
def f_X11_many  (a0 : Option Nat) (a1 : Int32) (h : AH) : Option Int32 :=
  if a1 < 0 ∨ 13 < a1 then
    some (-1)
  else if a1 = 0 then
    (gR 11 0 h a0).bind fun v1 =>
    (gI 2 0 h v1).bind fun v2 =>
    some v2
  else if a1 = 1 then
    (gR 11 0 h a0).bind fun v3 =>
    (gI 2 4 h v3).bind fun v4 =>
    some v4
  else if a1 = 2 then
    (gR 11 0 h a0).bind fun v5 =>
    (gI 2 6 h v5).bind fun v6 =>
    some v6
  else if a1 = 3 then
    (gR 11 0 h a0).bind fun v7 =>
    (gI 2 8 h v7).bind fun v8 =>
    some v8
  else if a1 = 4 then
    (gR 11 0 h a0).bind fun v9 =>
    (gI 2 10 h v9).bind fun v10 =>
    some v10
  else if a1 = 5 then
    (gR 11 0 h a0).bind fun v11 =>
    (gI 2 12 h v11).bind fun v12 =>
    some v12
  else if a1 = 6 then
    (gR 11 0 h a0).bind fun v13 =>
    (gI 2 2 h v13).bind fun v14 =>
    some v14
  else if a1 = 7 then
    (gI 11 9 h a0).bind fun v15 =>
    some v15
  else if a1 = 8 then
    (gR 11 0 h a0).bind fun v16 =>
    (gI 2 18 h v16).bind fun v17 =>
    some v17
  else if a1 = 9 then
    (gR 11 2 h a0).bind fun v18 =>
    (gI 4 1 h v18).bind fun v19 =>
    some v19
  else if a1 = 10 then
    (gR 11 4 h a0).bind fun v20 =>
    (gI 0 4 h v20).bind fun v21 =>
    some v21
  else if a1 = 11 then
    (gR 11 0 h a0).bind fun v22 =>
    (gI 2 14 h v22).bind fun v23 =>
    if v23 < 0 then
      some 9
    else
      (gR 11 0 h a0).bind fun v24 =>
      (gI 2 14 h v24).bind fun v25 =>
      some v25
  else if a1 = 12 then
    (gR 11 0 h a0).bind fun v26 =>
    (ck 2 h v26 (f_X2_howManySent v26 h)).bind fun v27 =>
    some v27
  else if a1 = 13 then
    (gR 11 0 h a0).bind fun v28 =>
    (ck 2 h v28 (f_X2_howManyCome v28 h)).bind fun v29 =>
    some v29
  else none
set_option maxRecDepth 20000 in
theorem m_X11_many  {a0 : Option Nat} {a1 : Int32} {h : AH} {w : Int32} (hf : f_X11_many a0 a1 h = some w) : CT yX11_many (wU yX11_many cX11_many 2 (some .int)) (rmD 5 0 0) 0 0 [tR a0, tI a1] h (some (tI w), h) := by
  refine CT.of (cc := cX11_many) (nL := 2) (ret := (some .int)) (by decide) (by simp [lg_sl, vOf_cat, wOf]) ?_
  intro K X
  refine g_locs (lv' := [(0, tR a0), (1, tI a1)]) (fun q hq => hq) ?_
  unfold f_X11_many at hf
  refine g_iload_n X dX11_many_0 1 rfl ?_
  by_cases hsw : a1 < 0 ∨ 13 < a1
  · rw [if_pos hsw] at hf
    refine g_tabOut (tgt := 196) X dX11_many_1 (tab_out hsw) (by decide) ?_
    refine g_iconst (v := (-1)) X dX11_many_196 (by decide) ?_
    exact g_ireturn X (zP hf) (by decide) (by decide) dX11_many_197
  rw [if_neg hsw] at hf
  by_cases hs0 : a1 = 0
  · rw [if_pos hs0] at hf
    refine g_tabIn (off := 71) (tgt := 72) X 0 hs0 dX11_many_1 (by decide) (by decide) (by decide +kernel) (by decide) ?_
    refine g_aload_n X dX11_many_72 0 rfl ?_
    refine g_getR X hf (T := TX11) rfl (by decide) (by decide) in_RX11 tb_350 rfl dX11_many_73 (fun v1 hf => ?_)
    refine g_getI X hf (T := TX2) rfl (by decide) (by decide) in_RX2 tb_212 rfl dX11_many_76 (fun v2 hf => ?_)
    exact g_ireturn X (zP hf) (by decide) (by decide) dX11_many_79
  rw [if_neg hs0] at hf
  by_cases hs1 : a1 = 1
  · rw [if_pos hs1] at hf
    refine g_tabIn (off := 79) (tgt := 80) X 1 hs1 dX11_many_1 (by decide) (by decide) (by decide +kernel) (by decide) ?_
    refine g_aload_n X dX11_many_80 0 rfl ?_
    refine g_getR X hf (T := TX11) rfl (by decide) (by decide) in_RX11 tb_350 rfl dX11_many_81 (fun v3 hf => ?_)
    refine g_getI X hf (T := TX2) rfl (by decide) (by decide) in_RX2 tb_220 rfl dX11_many_84 (fun v4 hf => ?_)
    exact g_ireturn X (zP hf) (by decide) (by decide) dX11_many_87
  rw [if_neg hs1] at hf
  by_cases hs2 : a1 = 2
  · rw [if_pos hs2] at hf
    refine g_tabIn (off := 87) (tgt := 88) X 2 hs2 dX11_many_1 (by decide) (by decide) (by decide +kernel) (by decide) ?_
    refine g_aload_n X dX11_many_88 0 rfl ?_
    refine g_getR X hf (T := TX11) rfl (by decide) (by decide) in_RX11 tb_350 rfl dX11_many_89 (fun v5 hf => ?_)
    refine g_getI X hf (T := TX2) rfl (by decide) (by decide) in_RX2 tb_224 rfl dX11_many_92 (fun v6 hf => ?_)
    exact g_ireturn X (zP hf) (by decide) (by decide) dX11_many_95
  rw [if_neg hs2] at hf
  by_cases hs3 : a1 = 3
  · rw [if_pos hs3] at hf
    refine g_tabIn (off := 95) (tgt := 96) X 3 hs3 dX11_many_1 (by decide) (by decide) (by decide +kernel) (by decide) ?_
    refine g_aload_n X dX11_many_96 0 rfl ?_
    refine g_getR X hf (T := TX11) rfl (by decide) (by decide) in_RX11 tb_350 rfl dX11_many_97 (fun v7 hf => ?_)
    refine g_getI X hf (T := TX2) rfl (by decide) (by decide) in_RX2 tb_228 rfl dX11_many_100 (fun v8 hf => ?_)
    exact g_ireturn X (zP hf) (by decide) (by decide) dX11_many_103
  rw [if_neg hs3] at hf
  by_cases hs4 : a1 = 4
  · rw [if_pos hs4] at hf
    refine g_tabIn (off := 103) (tgt := 104) X 4 hs4 dX11_many_1 (by decide) (by decide) (by decide +kernel) (by decide) ?_
    refine g_aload_n X dX11_many_104 0 rfl ?_
    refine g_getR X hf (T := TX11) rfl (by decide) (by decide) in_RX11 tb_350 rfl dX11_many_105 (fun v9 hf => ?_)
    refine g_getI X hf (T := TX2) rfl (by decide) (by decide) in_RX2 tb_232 rfl dX11_many_108 (fun v10 hf => ?_)
    exact g_ireturn X (zP hf) (by decide) (by decide) dX11_many_111
  rw [if_neg hs4] at hf
  by_cases hs5 : a1 = 5
  · rw [if_pos hs5] at hf
    refine g_tabIn (off := 111) (tgt := 112) X 5 hs5 dX11_many_1 (by decide) (by decide) (by decide +kernel) (by decide) ?_
    refine g_aload_n X dX11_many_112 0 rfl ?_
    refine g_getR X hf (T := TX11) rfl (by decide) (by decide) in_RX11 tb_350 rfl dX11_many_113 (fun v11 hf => ?_)
    refine g_getI X hf (T := TX2) rfl (by decide) (by decide) in_RX2 tb_236 rfl dX11_many_116 (fun v12 hf => ?_)
    exact g_ireturn X (zP hf) (by decide) (by decide) dX11_many_119
  rw [if_neg hs5] at hf
  by_cases hs6 : a1 = 6
  · rw [if_pos hs6] at hf
    refine g_tabIn (off := 119) (tgt := 120) X 6 hs6 dX11_many_1 (by decide) (by decide) (by decide +kernel) (by decide) ?_
    refine g_aload_n X dX11_many_120 0 rfl ?_
    refine g_getR X hf (T := TX11) rfl (by decide) (by decide) in_RX11 tb_350 rfl dX11_many_121 (fun v13 hf => ?_)
    refine g_getI X hf (T := TX2) rfl (by decide) (by decide) in_RX2 tb_216 rfl dX11_many_124 (fun v14 hf => ?_)
    exact g_ireturn X (zP hf) (by decide) (by decide) dX11_many_127
  rw [if_neg hs6] at hf
  by_cases hs7 : a1 = 7
  · rw [if_pos hs7] at hf
    refine g_tabIn (off := 127) (tgt := 128) X 7 hs7 dX11_many_1 (by decide) (by decide) (by decide +kernel) (by decide) ?_
    refine g_aload_n X dX11_many_128 0 rfl ?_
    refine g_getI X hf (T := TX11) rfl (by decide) (by decide) in_RX11 tb_359 rfl dX11_many_129 (fun v15 hf => ?_)
    exact g_ireturn X (zP hf) (by decide) (by decide) dX11_many_132
  rw [if_neg hs7] at hf
  by_cases hs8 : a1 = 8
  · rw [if_pos hs8] at hf
    refine g_tabIn (off := 132) (tgt := 133) X 8 hs8 dX11_many_1 (by decide) (by decide) (by decide +kernel) (by decide) ?_
    refine g_aload_n X dX11_many_133 0 rfl ?_
    refine g_getR X hf (T := TX11) rfl (by decide) (by decide) in_RX11 tb_350 rfl dX11_many_134 (fun v16 hf => ?_)
    refine g_getI X hf (T := TX2) rfl (by decide) (by decide) in_RX2 tb_248 rfl dX11_many_137 (fun v17 hf => ?_)
    exact g_ireturn X (zP hf) (by decide) (by decide) dX11_many_140
  rw [if_neg hs8] at hf
  by_cases hs9 : a1 = 9
  · rw [if_pos hs9] at hf
    refine g_tabIn (off := 140) (tgt := 141) X 9 hs9 dX11_many_1 (by decide) (by decide) (by decide +kernel) (by decide) ?_
    refine g_aload_n X dX11_many_141 0 rfl ?_
    refine g_getR X hf (T := TX11) rfl (by decide) (by decide) in_RX11 tb_352 rfl dX11_many_142 (fun v18 hf => ?_)
    refine g_getI X hf (T := TX4) rfl (by decide) (by decide) in_RX4 tb_280 rfl dX11_many_145 (fun v19 hf => ?_)
    exact g_ireturn X (zP hf) (by decide) (by decide) dX11_many_148
  rw [if_neg hs9] at hf
  by_cases hs10 : a1 = 10
  · rw [if_pos hs10] at hf
    refine g_tabIn (off := 148) (tgt := 149) X 10 hs10 dX11_many_1 (by decide) (by decide) (by decide +kernel) (by decide) ?_
    refine g_aload_n X dX11_many_149 0 rfl ?_
    refine g_getR X hf (T := TX11) rfl (by decide) (by decide) in_RX11 tb_354 rfl dX11_many_150 (fun v20 hf => ?_)
    refine g_getI X hf (T := TX0) rfl (by decide) (by decide) in_RX0 tb_341 rfl dX11_many_153 (fun v21 hf => ?_)
    exact g_ireturn X (zP hf) (by decide) (by decide) dX11_many_156
  rw [if_neg hs10] at hf
  by_cases hs11 : a1 = 11
  · rw [if_pos hs11] at hf
    refine g_tabIn (off := 156) (tgt := 157) X 11 hs11 dX11_many_1 (by decide) (by decide) (by decide +kernel) (by decide) ?_
    refine g_aload_n X dX11_many_157 0 rfl ?_
    refine g_getR X hf (T := TX11) rfl (by decide) (by decide) in_RX11 tb_350 rfl dX11_many_158 (fun v22 hf => ?_)
    refine g_getI X hf (T := TX2) rfl (by decide) (by decide) in_RX2 tb_240 rfl dX11_many_161 (fun v23 hf => ?_)
    refine g_ifge (tgt := 172) X hf dX11_many_164 (by decide) (fun hf => ?_) (fun hf => ?_)
    · refine g_bipush (v := 9) X dX11_many_167 (by decide) ?_
      refine g_goto (tgt := 179) X dX11_many_169 (by decide) ?_
      exact g_ireturn X (zP hf) (by decide) (by decide) dX11_many_179
    · refine g_aload_n X dX11_many_172 0 rfl ?_
      refine g_getR X hf (T := TX11) rfl (by decide) (by decide) in_RX11 tb_350 rfl dX11_many_173 (fun v24 hf => ?_)
      refine g_getI X hf (T := TX2) rfl (by decide) (by decide) in_RX2 tb_240 rfl dX11_many_176 (fun v25 hf => ?_)
      exact g_ireturn X (zP hf) (by decide) (by decide) dX11_many_179
  rw [if_neg hs11] at hf
  by_cases hs12 : a1 = 12
  · rw [if_pos hs12] at hf
    refine g_tabIn (off := 179) (tgt := 180) X 12 hs12 dX11_many_1 (by decide) (by decide) (by decide +kernel) (by decide) ?_
    refine g_aload_n X dX11_many_180 0 rfl ?_
    refine g_getR X hf (T := TX11) rfl (by decide) (by decide) in_RX11 tb_350 rfl dX11_many_181 (fun v26 hf => ?_)
    refine g_callV (n := 0) (av := []) (rest := []) (k := 2) X hf (fun v27 => (some (tI v27), h)) (fun _ q => m_X2_howManySent q) (gdV tb_1081 tb_1082 tb_1083 tb_2 tb_1084) rfl (by decide +kernel) rfl (by decide) rfl (by decide) (by decide) rfl (Nat.le_of_ble_eq_true rfl) dX11_many_184 (fun v27 hf => ?_)
    exact g_ireturn X (zP hf) (by decide) (by decide) dX11_many_187
  rw [if_neg hs12] at hf
  by_cases hs13 : a1 = 13
  · rw [if_pos hs13] at hf
    refine g_tabIn (off := 187) (tgt := 188) X 13 hs13 dX11_many_1 (by decide) (by decide) (by decide +kernel) (by decide) ?_
    refine g_aload_n X dX11_many_188 0 rfl ?_
    refine g_getR X hf (T := TX11) rfl (by decide) (by decide) in_RX11 tb_350 rfl dX11_many_189 (fun v28 hf => ?_)
    refine g_callV (n := 0) (av := []) (rest := []) (k := 2) X hf (fun v29 => (some (tI v29), h)) (fun _ q => m_X2_howManyCome q) (gdV tb_1085 tb_1086 tb_1087 tb_2 tb_1088) rfl (by decide +kernel) rfl (by decide) rfl (by decide) (by decide) rfl (Nat.le_of_ble_eq_true rfl) dX11_many_192 (fun v29 hf => ?_)
    exact g_ireturn X (zP hf) (by decide) (by decide) dX11_many_195
  rw [if_neg hs13] at hf
  cases hf
def b_X11_keep_18   (x0 : Option Nat) (h : AH) : Option (Int32 × AH) :=
  (gR 11 1 h x0).bind fun v1 =>
  (gR 11 0 h x0).bind fun v2 =>
  (ck 2 h v1 (f_X2_become v1 v2 h)).bind fun h3 =>
  some (1, h3)
set_option maxRecDepth 20000 in
theorem w_X11_keep_18 {K : KT} {w : (Int32 × AH)}   (X : CX K cX11_keep RX11 TB (some .int) "keep" (rmD 5 161 3591) 1 161 3591)  (x0 : Option Nat) (h : AH) (hf : b_X11_keep_18 x0 h = some w) : GG K (some (tI w.1), w.2) 161 3591 18 [(0, tR x0)] [] h := by
  unfold b_X11_keep_18 at hf
  refine g_aload_n X dX11_keep_18 0 rfl ?_
  refine g_getR X hf (T := TX11) rfl (by decide) (by decide) in_RX11 tb_351 rfl dX11_keep_19 (fun v1 hf => ?_)
  refine g_aload_n X dX11_keep_22 0 rfl ?_
  refine g_getR X hf (T := TX11) rfl (by decide) (by decide) in_RX11 tb_350 rfl dX11_keep_23 (fun v2 hf => ?_)
  refine g_callV (n := 1) (av := [tR v2]) (rest := []) (k := 2) X hf (fun h3 => (none, h3)) (fun _ q => m_X2_become q) (gdV tb_1094 tb_1095 tb_1096 tb_2 tb_1097) rfl (by decide +kernel) rfl (by decide) rfl (by decide) (by decide) rfl (Nat.le_of_ble_eq_true rfl) dX11_keep_26 (fun h3 hf => ?_)
  refine g_iconst (v := 1) X dX11_keep_29 (by decide) ?_
  exact g_ireturn X (zW hf) (by decide) (by decide) dX11_keep_30
def f_X11_keep  (a0 : Option Nat) (h : AH) : Option (Int32 × AH) :=
  (gR 11 1 h a0).bind fun v1 =>
  if v1 = none then
    (nO 2 20 tyX2 h).bind fun h2 =>
    (f_X2_init h.1 h2).bind fun h3 =>
    (pR 11 1 h3 a0 (some h.1)).bind fun h4 =>
    b_X11_keep_18 a0 h4
  else
    b_X11_keep_18 a0 h
set_option maxRecDepth 20000 in
theorem m_X11_keep  {a0 : Option Nat} {h : AH} {w : (Int32 × AH)} (hf : f_X11_keep a0 h = some w) : CT yX11_keep (wU yX11_keep cX11_keep 1 (some .int)) (rmD 5 161 3591) 161 3591 [tR a0] h (some (tI w.1), w.2) := by
  refine CT.of (cc := cX11_keep) (nL := 1) (ret := (some .int)) (by decide) (by simp [lg_sl, vOf_cat, wOf]) ?_
  intro K X
  refine g_locs (lv' := [(0, tR a0)]) (fun q hq => hq) ?_
  unfold f_X11_keep at hf
  refine g_aload_n X dX11_keep_0 0 rfl ?_
  refine g_getR X hf (T := TX11) rfl (by decide) (by decide) in_RX11 tb_351 rfl dX11_keep_1 (fun v1 hf => ?_)
  refine g_ifnonnull (tgt := 18) X hf dX11_keep_4 (by decide) (fun hf => ?_) (fun hf => ?_)
  · refine g_aload_n X dX11_keep_7 0 rfl ?_
    refine g_new X hf (T := TX2) rfl (by decide) in_RX2 tyX2_ok tb_29 tb_30 tb_2 (by decide) dX11_keep_8 (fun h2 hf => ?_)
    refine g_dup X dX11_keep_11 rfl ?_
    refine g_callI (n := 0) (av := []) (rest := [tR (some h.1), tR a0]) X hf (fun _ q => m_X2_init q) (gd0 tb_33) rfl tb_31 tb_2 rfl tb_32 (by decide +kernel) rfl (by decide) (by decide) rfl (Nat.le_of_ble_eq_true rfl) dX11_keep_12 (fun h3 hf => ?_)
    refine g_putR X hf (T := TX11) rfl (by decide) (by decide) in_RX11 tyX11 tyX11_ok nmX11 tb_351 rfl rfl rfl dX11_keep_15 (fun h4 hf => ?_)
    exact w_X11_keep_18 X a0 h4 hf
  · refine g_widen (k := 161) (n := 3591) (by decide) (by decide) ?_
    exact w_X11_keep_18 X a0 h hf
def f_X11_again  (a0 : Option Nat) (h : AH) : Option (Int32 × AH) :=
  (gR 11 1 h a0).bind fun v1 =>
  if v1 = none then
    some ((-3), h)
  else
    (gR 11 0 h a0).bind fun v2 =>
    (gR 11 1 h a0).bind fun v3 =>
    (ck 2 h v2 (f_X2_become v2 v3 h)).bind fun h4 =>
    some (1, h4)
set_option maxRecDepth 20000 in
theorem m_X11_again  {a0 : Option Nat} {h : AH} {w : (Int32 × AH)} (hf : f_X11_again a0 h = some w) : CT yX11_again (wU yX11_again cX11_again 1 (some .int)) (rmD 5 0 0) 0 0 [tR a0] h (some (tI w.1), w.2) := by
  refine CT.of (cc := cX11_again) (nL := 1) (ret := (some .int)) (by decide) (by simp [lg_sl, vOf_cat, wOf]) ?_
  intro K X
  refine g_locs (lv' := [(0, tR a0)]) (fun q hq => hq) ?_
  unfold f_X11_again at hf
  refine g_aload_n X dX11_again_0 0 rfl ?_
  refine g_getR X hf (T := TX11) rfl (by decide) (by decide) in_RX11 tb_351 rfl dX11_again_1 (fun v1 hf => ?_)
  refine g_ifnonnull (tgt := 10) X hf dX11_again_4 (by decide) (fun hf => ?_) (fun hf => ?_)
  · refine g_bipush (v := (-3)) X dX11_again_7 (by decide) ?_
    exact g_ireturn X (zW hf) (by decide) (by decide) dX11_again_9
  · refine g_aload_n X dX11_again_10 0 rfl ?_
    refine g_getR X hf (T := TX11) rfl (by decide) (by decide) in_RX11 tb_350 rfl dX11_again_11 (fun v2 hf => ?_)
    refine g_aload_n X dX11_again_14 0 rfl ?_
    refine g_getR X hf (T := TX11) rfl (by decide) (by decide) in_RX11 tb_351 rfl dX11_again_15 (fun v3 hf => ?_)
    refine g_callV (n := 1) (av := [tR v3]) (rest := []) (k := 2) X hf (fun h4 => (none, h4)) (fun _ q => m_X2_become q) (gdV tb_1094 tb_1095 tb_1096 tb_2 tb_1097) rfl (by decide +kernel) rfl (by decide) rfl (by decide) (by decide) rfl (Nat.le_of_ble_eq_true rfl) dX11_again_18 (fun h4 hf => ?_)
    refine g_iconst (v := 1) X dX11_again_21 (by decide) ?_
    exact g_ireturn X (zW hf) (by decide) (by decide) dX11_again_22
def b_X12_init_239    : Nat → Option Nat → Int32 → AH → Option AH
  | 0 => fun _ _ _ => none
  | n + 1 => fun x0 x1 h =>
    if x1 < 4 then
      (gR 12 0 h x0).bind fun v1 =>
      (sI h v1 (1020 + x1) (-1)).bind fun h2 =>
      b_X12_init_239 n x0 (x1 + 1) h2
    else
      some h
set_option maxRecDepth 20000 in
theorem w_X12_init_239 {K : KT} {w : AH}   (X : CX K cX12_init RX12 TB none "<init>" (rmD 1 22 5333) 2 22 5333)  : ∀ (n : Nat) (x0 : Option Nat) (x1 : Int32) (h : AH), b_X12_init_239 n x0 x1 h = some w → GG K (none, w) 22 5333 239 [(0, tR x0), (1, tI x1)] [] h := by
  intro n
  induction n with
  | zero =>
    intro x0 x1 h hf
    cases (show none = some w from hf)
  | succ n ih =>
    intro x0 x1 h hf
    rw [b_X12_init_239] at hf
    refine g_iload_n X dX12_init_239 1 rfl ?_
    refine g_iconst (v := 4) X dX12_init_240 (by decide) ?_
    refine g_icmpge (tgt := 261) X hf dX12_init_241 (by decide) (fun hf => ?_) (fun hf => ?_)
    · refine g_aload_n X dX12_init_244 0 rfl ?_
      refine g_getR X hf (T := TX12) rfl (by decide) (by decide) in_RX12 tb_1135 rfl dX12_init_245 (fun v1 hf => ?_)
      refine g_sipush (v := 1020) X dX12_init_248 (by decide) ?_
      refine g_iload_n X dX12_init_251 1 rfl ?_
      refine g_iadd X dX12_init_252 ?_
      refine g_iconst (v := (-1)) X dX12_init_253 (by decide) ?_
      refine g_iastore X hf dX12_init_254 (fun h2 hf => ?_)
      refine g_iinc (v := (x1 + 1)) (lv' := [(0, tR x0), (1, tI (x1 + 1))]) X dX12_init_255 1 rfl (by rfl) (by decide) (in_pick [1, 0] rfl) ?_
      refine g_goto (tgt := 239) X dX12_init_258 (by decide) ?_
      exact ih x0 (x1 + 1) h2 hf
    · exact g_vreturn X (zV hf) (by decide) (by decide) dX12_init_261
def f_X12_init  (a0 : Nat) (h : AH) : Option AH :=
  (nA 100 2224 (.int 0) 2224 h).bind fun h1 =>
  (pR 12 0 h1 (some a0) (some h.1)).bind fun h2 =>
  (nA 100 2224 (.int 0) 2224 h2).bind fun h3 =>
  (pR 12 1 h3 (some a0) (some h2.1)).bind fun h4 =>
  (nA 100 300 (.int 0) 300 h4).bind fun h5 =>
  (pR 12 3 h5 (some a0) (some h4.1)).bind fun h6 =>
  (nA 100 6 (.int 0) 6 h6).bind fun h7 =>
  (pR 12 5 h7 (some a0) (some h6.1)).bind fun h8 =>
  (nA 100 6 (.int 0) 6 h8).bind fun h9 =>
  (pR 12 6 h9 (some a0) (some h8.1)).bind fun h10 =>
  (nA 100 49 (.int 0) 49 h10).bind fun h11 =>
  (pR 12 7 h11 (some a0) (some h10.1)).bind fun h12 =>
  (nA 100 7 (.int 0) 7 h12).bind fun h13 =>
  (pR 12 8 h13 (some a0) (some h12.1)).bind fun h14 =>
  (nA 101 5 (.int 0) 5 h14).bind fun h15 =>
  (pR 12 9 h15 (some a0) (some h14.1)).bind fun h16 =>
  (nA 100 5 (.int 0) 5 h16).bind fun h17 =>
  (pR 12 10 h17 (some a0) (some h16.1)).bind fun h18 =>
  (nA 100 16 (.int 0) 16 h18).bind fun h19 =>
  (pR 12 19 h19 (some a0) (some h18.1)).bind fun h20 =>
  (nA 100 16 (.int 0) 16 h20).bind fun h21 =>
  (pR 12 20 h21 (some a0) (some h20.1)).bind fun h22 =>
  (nA 101 40 (.int 0) 40 h22).bind fun h23 =>
  (pR 12 21 h23 (some a0) (some h22.1)).bind fun h24 =>
  (nA 100 16 (.int 0) 16 h24).bind fun h25 =>
  (pR 12 27 h25 (some a0) (some h24.1)).bind fun h26 =>
  (nA 100 32 (.int 0) 32 h26).bind fun h27 =>
  (pR 12 28 h27 (some a0) (some h26.1)).bind fun h28 =>
  (nA 100 9 (.int 0) 9 h28).bind fun h29 =>
  (pR 12 30 h29 (some a0) (some h28.1)).bind fun h30 =>
  (nA 100 4 (.int 0) 4 h30).bind fun h31 =>
  (sI h31 (some h30.1) 0 (-1)).bind fun h32 =>
  (sI h32 (some h30.1) 1 (-1)).bind fun h33 =>
  (sI h33 (some h30.1) 2 (-1)).bind fun h34 =>
  (sI h34 (some h30.1) 3 (-1)).bind fun h35 =>
  (pR 12 31 h35 (some a0) (some h30.1)).bind fun h36 =>
  (nA 100 8 (.int 0) 8 h36).bind fun h37 =>
  (pR 12 32 h37 (some a0) (some h36.1)).bind fun h38 =>
  (nA 100 8 (.int 0) 8 h38).bind fun h39 =>
  (pR 12 33 h39 (some a0) (some h38.1)).bind fun h40 =>
  (nA 100 320 (.int 0) 320 h40).bind fun h41 =>
  (pR 12 34 h41 (some a0) (some h40.1)).bind fun h42 =>
  (nA 100 4 (.int 0) 4 h42).bind fun h43 =>
  (pR 12 35 h43 (some a0) (some h42.1)).bind fun h44 =>
  (nA 100 4 (.int 0) 4 h44).bind fun h45 =>
  (pR 12 36 h45 (some a0) (some h44.1)).bind fun h46 =>
  (nA 100 30 (.int 0) 30 h46).bind fun h47 =>
  (pR 12 37 h47 (some a0) (some h46.1)).bind fun h48 =>
  (gR 12 0 h48 (some a0)).bind fun v49 =>
  (sI h48 v49 7 (-1)).bind fun h50 =>
  (gR 12 0 h50 (some a0)).bind fun v51 =>
  (sI h50 v51 9 300).bind fun h52 =>
  (gR 12 0 h52 (some a0)).bind fun v53 =>
  (sI h52 v53 10 3).bind fun h54 =>
  (gR 12 0 h54 (some a0)).bind fun v55 =>
  (sI h54 v55 11 1).bind fun h56 =>
  (gR 12 0 h56 (some a0)).bind fun v57 =>
  (sI h56 v57 12 4).bind fun h58 =>
  b_X12_init_239 FU (some a0) 0 h58
set_option maxRecDepth 20000 in
theorem m_X12_init  {a0 : Nat} {h : AH} {w : AH} (hf : f_X12_init a0 h = some w) : CT yX12_init (wU yX12_init cX12_init 2 none) (rmD 1 22 5333) 22 5333 [tR (some a0)] h (none, w) := by
  refine CT.of (cc := cX12_init) (nL := 2) (ret := none) (by decide) (by simp [lg_sl, vOf_cat, wOf]) ?_
  intro K X
  refine g_locs (lv' := [(0, tR (some a0))]) (fun q hq => hq) ?_
  unfold f_X12_init at hf
  refine g_aload_n X dX12_init_0 0 rfl ?_
  refine g_objInit X tb_1134 tb_27 tb_28 ⟨Nat.le_of_ble_eq_true rfl, Nat.le_of_ble_eq_true rfl⟩ dX12_init_1 ?_
  refine g_aload_n X dX12_init_4 0 rfl ?_
  refine g_sipush (v := 2224) X dX12_init_5 (by decide) ?_
  refine g_newa (atype := .int) X hf (by decide) rfl rfl (fun _ _ q => q) tb_64 (Nat.le_of_ble_eq_true rfl) (by decide) dX12_init_8 (fun h1 hf => ?_)
  refine g_putFR X hf (T := TX12) rfl (by decide) (by decide) in_RX12 tyX12 tyX12_ok nmX12 tb_1135 rfl rfl rfl rfl rfl dX12_init_10 (fun h2 hf => ?_)
  refine g_aload_n X dX12_init_13 0 rfl ?_
  refine g_sipush (v := 2224) X dX12_init_14 (by decide) ?_
  refine g_newa (atype := .int) X hf (by decide) rfl rfl (fun _ _ q => q) tb_64 (Nat.le_of_ble_eq_true rfl) (by decide) dX12_init_17 (fun h3 hf => ?_)
  refine g_putFR X hf (T := TX12) rfl (by decide) (by decide) in_RX12 tyX12 tyX12_ok nmX12 tb_1136 rfl rfl rfl rfl rfl dX12_init_19 (fun h4 hf => ?_)
  refine g_aload_n X dX12_init_22 0 rfl ?_
  refine g_sipush (v := 300) X dX12_init_23 (by decide) ?_
  refine g_newa (atype := .int) X hf (by decide) rfl rfl (fun _ _ q => q) tb_64 (Nat.le_of_ble_eq_true rfl) (by decide) dX12_init_26 (fun h5 hf => ?_)
  refine g_putFR X hf (T := TX12) rfl (by decide) (by decide) in_RX12 tyX12 tyX12_ok nmX12 tb_1138 rfl rfl rfl rfl rfl dX12_init_28 (fun h6 hf => ?_)
  refine g_aload_n X dX12_init_31 0 rfl ?_
  refine g_bipush (v := 6) X dX12_init_32 (by decide) ?_
  refine g_newa (atype := .int) X hf (by decide) rfl rfl (fun _ _ q => q) tb_64 (Nat.le_of_ble_eq_true rfl) (by decide) dX12_init_34 (fun h7 hf => ?_)
  refine g_putFR X hf (T := TX12) rfl (by decide) (by decide) in_RX12 tyX12 tyX12_ok nmX12 tb_1140 rfl rfl rfl rfl rfl dX12_init_36 (fun h8 hf => ?_)
  refine g_aload_n X dX12_init_39 0 rfl ?_
  refine g_bipush (v := 6) X dX12_init_40 (by decide) ?_
  refine g_newa (atype := .int) X hf (by decide) rfl rfl (fun _ _ q => q) tb_64 (Nat.le_of_ble_eq_true rfl) (by decide) dX12_init_42 (fun h9 hf => ?_)
  refine g_putFR X hf (T := TX12) rfl (by decide) (by decide) in_RX12 tyX12 tyX12_ok nmX12 tb_1141 rfl rfl rfl rfl rfl dX12_init_44 (fun h10 hf => ?_)
  refine g_aload_n X dX12_init_47 0 rfl ?_
  refine g_bipush (v := 49) X dX12_init_48 (by decide) ?_
  refine g_newa (atype := .int) X hf (by decide) rfl rfl (fun _ _ q => q) tb_64 (Nat.le_of_ble_eq_true rfl) (by decide) dX12_init_50 (fun h11 hf => ?_)
  refine g_putFR X hf (T := TX12) rfl (by decide) (by decide) in_RX12 tyX12 tyX12_ok nmX12 tb_1142 rfl rfl rfl rfl rfl dX12_init_52 (fun h12 hf => ?_)
  refine g_aload_n X dX12_init_55 0 rfl ?_
  refine g_bipush (v := 7) X dX12_init_56 (by decide) ?_
  refine g_newa (atype := .int) X hf (by decide) rfl rfl (fun _ _ q => q) tb_64 (Nat.le_of_ble_eq_true rfl) (by decide) dX12_init_58 (fun h13 hf => ?_)
  refine g_putFR X hf (T := TX12) rfl (by decide) (by decide) in_RX12 tyX12 tyX12_ok nmX12 tb_1143 rfl rfl rfl rfl rfl dX12_init_60 (fun h14 hf => ?_)
  refine g_aload_n X dX12_init_63 0 rfl ?_
  refine g_iconst (v := 5) X dX12_init_64 (by decide) ?_
  refine g_newa (atype := .boolean) X hf (by decide) rfl rfl (fun _ _ q => q) tb_1221 (Nat.le_of_ble_eq_true rfl) (by decide) dX12_init_65 (fun h15 hf => ?_)
  refine g_putFR X hf (T := TX12) rfl (by decide) (by decide) in_RX12 tyX12 tyX12_ok nmX12 tb_1144 rfl rfl rfl rfl rfl dX12_init_67 (fun h16 hf => ?_)
  refine g_aload_n X dX12_init_70 0 rfl ?_
  refine g_iconst (v := 5) X dX12_init_71 (by decide) ?_
  refine g_newa (atype := .int) X hf (by decide) rfl rfl (fun _ _ q => q) tb_64 (Nat.le_of_ble_eq_true rfl) (by decide) dX12_init_72 (fun h17 hf => ?_)
  refine g_putFR X hf (T := TX12) rfl (by decide) (by decide) in_RX12 tyX12 tyX12_ok nmX12 tb_1145 rfl rfl rfl rfl rfl dX12_init_74 (fun h18 hf => ?_)
  refine g_aload_n X dX12_init_77 0 rfl ?_
  refine g_bipush (v := 16) X dX12_init_78 (by decide) ?_
  refine g_newa (atype := .int) X hf (by decide) rfl rfl (fun _ _ q => q) tb_64 (Nat.le_of_ble_eq_true rfl) (by decide) dX12_init_80 (fun h19 hf => ?_)
  refine g_putFR X hf (T := TX12) rfl (by decide) (by decide) in_RX12 tyX12 tyX12_ok nmX12 tb_1154 rfl rfl rfl rfl rfl dX12_init_82 (fun h20 hf => ?_)
  refine g_aload_n X dX12_init_85 0 rfl ?_
  refine g_bipush (v := 16) X dX12_init_86 (by decide) ?_
  refine g_newa (atype := .int) X hf (by decide) rfl rfl (fun _ _ q => q) tb_64 (Nat.le_of_ble_eq_true rfl) (by decide) dX12_init_88 (fun h21 hf => ?_)
  refine g_putFR X hf (T := TX12) rfl (by decide) (by decide) in_RX12 tyX12 tyX12_ok nmX12 tb_1155 rfl rfl rfl rfl rfl dX12_init_90 (fun h22 hf => ?_)
  refine g_aload_n X dX12_init_93 0 rfl ?_
  refine g_bipush (v := 40) X dX12_init_94 (by decide) ?_
  refine g_newa (atype := .boolean) X hf (by decide) rfl rfl (fun _ _ q => q) tb_1221 (Nat.le_of_ble_eq_true rfl) (by decide) dX12_init_96 (fun h23 hf => ?_)
  refine g_putFR X hf (T := TX12) rfl (by decide) (by decide) in_RX12 tyX12 tyX12_ok nmX12 tb_1156 rfl rfl rfl rfl rfl dX12_init_98 (fun h24 hf => ?_)
  refine g_aload_n X dX12_init_101 0 rfl ?_
  refine g_bipush (v := 16) X dX12_init_102 (by decide) ?_
  refine g_newa (atype := .int) X hf (by decide) rfl rfl (fun _ _ q => q) tb_64 (Nat.le_of_ble_eq_true rfl) (by decide) dX12_init_104 (fun h25 hf => ?_)
  refine g_putFR X hf (T := TX12) rfl (by decide) (by decide) in_RX12 tyX12 tyX12_ok nmX12 tb_1162 rfl rfl rfl rfl rfl dX12_init_106 (fun h26 hf => ?_)
  refine g_aload_n X dX12_init_109 0 rfl ?_
  refine g_bipush (v := 32) X dX12_init_110 (by decide) ?_
  refine g_newa (atype := .int) X hf (by decide) rfl rfl (fun _ _ q => q) tb_64 (Nat.le_of_ble_eq_true rfl) (by decide) dX12_init_112 (fun h27 hf => ?_)
  refine g_putFR X hf (T := TX12) rfl (by decide) (by decide) in_RX12 tyX12 tyX12_ok nmX12 tb_1163 rfl rfl rfl rfl rfl dX12_init_114 (fun h28 hf => ?_)
  refine g_aload_n X dX12_init_117 0 rfl ?_
  refine g_bipush (v := 9) X dX12_init_118 (by decide) ?_
  refine g_newa (atype := .int) X hf (by decide) rfl rfl (fun _ _ q => q) tb_64 (Nat.le_of_ble_eq_true rfl) (by decide) dX12_init_120 (fun h29 hf => ?_)
  refine g_putFR X hf (T := TX12) rfl (by decide) (by decide) in_RX12 tyX12 tyX12_ok nmX12 tb_1165 rfl rfl rfl rfl rfl dX12_init_122 (fun h30 hf => ?_)
  refine g_aload_n X dX12_init_125 0 rfl ?_
  refine g_iconst (v := 4) X dX12_init_126 (by decide) ?_
  refine g_newa (atype := .int) X hf (by decide) rfl rfl (fun _ _ q => q) tb_64 (Nat.le_of_ble_eq_true rfl) (by decide) dX12_init_127 (fun h31 hf => ?_)
  refine g_dup X dX12_init_129 rfl ?_
  refine g_iconst (v := 0) X dX12_init_130 (by decide) ?_
  refine g_iconst (v := (-1)) X dX12_init_131 (by decide) ?_
  refine g_iastore X hf dX12_init_132 (fun h32 hf => ?_)
  refine g_dup X dX12_init_133 rfl ?_
  refine g_iconst (v := 1) X dX12_init_134 (by decide) ?_
  refine g_iconst (v := (-1)) X dX12_init_135 (by decide) ?_
  refine g_iastore X hf dX12_init_136 (fun h33 hf => ?_)
  refine g_dup X dX12_init_137 rfl ?_
  refine g_iconst (v := 2) X dX12_init_138 (by decide) ?_
  refine g_iconst (v := (-1)) X dX12_init_139 (by decide) ?_
  refine g_iastore X hf dX12_init_140 (fun h34 hf => ?_)
  refine g_dup X dX12_init_141 rfl ?_
  refine g_iconst (v := 3) X dX12_init_142 (by decide) ?_
  refine g_iconst (v := (-1)) X dX12_init_143 (by decide) ?_
  refine g_iastore X hf dX12_init_144 (fun h35 hf => ?_)
  refine g_putFR X hf (T := TX12) rfl (by decide) (by decide) in_RX12 tyX12 tyX12_ok nmX12 tb_1166 rfl rfl rfl rfl rfl dX12_init_145 (fun h36 hf => ?_)
  refine g_aload_n X dX12_init_148 0 rfl ?_
  refine g_bipush (v := 8) X dX12_init_149 (by decide) ?_
  refine g_newa (atype := .int) X hf (by decide) rfl rfl (fun _ _ q => q) tb_64 (Nat.le_of_ble_eq_true rfl) (by decide) dX12_init_151 (fun h37 hf => ?_)
  refine g_putFR X hf (T := TX12) rfl (by decide) (by decide) in_RX12 tyX12 tyX12_ok nmX12 tb_1167 rfl rfl rfl rfl rfl dX12_init_153 (fun h38 hf => ?_)
  refine g_aload_n X dX12_init_156 0 rfl ?_
  refine g_bipush (v := 8) X dX12_init_157 (by decide) ?_
  refine g_newa (atype := .int) X hf (by decide) rfl rfl (fun _ _ q => q) tb_64 (Nat.le_of_ble_eq_true rfl) (by decide) dX12_init_159 (fun h39 hf => ?_)
  refine g_putFR X hf (T := TX12) rfl (by decide) (by decide) in_RX12 tyX12 tyX12_ok nmX12 tb_1168 rfl rfl rfl rfl rfl dX12_init_161 (fun h40 hf => ?_)
  refine g_aload_n X dX12_init_164 0 rfl ?_
  refine g_sipush (v := 320) X dX12_init_165 (by decide) ?_
  refine g_newa (atype := .int) X hf (by decide) rfl rfl (fun _ _ q => q) tb_64 (Nat.le_of_ble_eq_true rfl) (by decide) dX12_init_168 (fun h41 hf => ?_)
  refine g_putFR X hf (T := TX12) rfl (by decide) (by decide) in_RX12 tyX12 tyX12_ok nmX12 tb_1169 rfl rfl rfl rfl rfl dX12_init_170 (fun h42 hf => ?_)
  refine g_aload_n X dX12_init_173 0 rfl ?_
  refine g_iconst (v := 4) X dX12_init_174 (by decide) ?_
  refine g_newa (atype := .int) X hf (by decide) rfl rfl (fun _ _ q => q) tb_64 (Nat.le_of_ble_eq_true rfl) (by decide) dX12_init_175 (fun h43 hf => ?_)
  refine g_putFR X hf (T := TX12) rfl (by decide) (by decide) in_RX12 tyX12 tyX12_ok nmX12 tb_1170 rfl rfl rfl rfl rfl dX12_init_177 (fun h44 hf => ?_)
  refine g_aload_n X dX12_init_180 0 rfl ?_
  refine g_iconst (v := 4) X dX12_init_181 (by decide) ?_
  refine g_newa (atype := .int) X hf (by decide) rfl rfl (fun _ _ q => q) tb_64 (Nat.le_of_ble_eq_true rfl) (by decide) dX12_init_182 (fun h45 hf => ?_)
  refine g_putFR X hf (T := TX12) rfl (by decide) (by decide) in_RX12 tyX12 tyX12_ok nmX12 tb_1171 rfl rfl rfl rfl rfl dX12_init_184 (fun h46 hf => ?_)
  refine g_aload_n X dX12_init_187 0 rfl ?_
  refine g_bipush (v := 30) X dX12_init_188 (by decide) ?_
  refine g_newa (atype := .int) X hf (by decide) rfl rfl (fun _ _ q => q) tb_64 (Nat.le_of_ble_eq_true rfl) (by decide) dX12_init_190 (fun h47 hf => ?_)
  refine g_putFR X hf (T := TX12) rfl (by decide) (by decide) in_RX12 tyX12 tyX12_ok nmX12 tb_1172 rfl rfl rfl rfl rfl dX12_init_192 (fun h48 hf => ?_)
  refine g_aload_n X dX12_init_195 0 rfl ?_
  refine g_getR X hf (T := TX12) rfl (by decide) (by decide) in_RX12 tb_1135 rfl dX12_init_196 (fun v49 hf => ?_)
  refine g_bipush (v := 7) X dX12_init_199 (by decide) ?_
  refine g_iconst (v := (-1)) X dX12_init_201 (by decide) ?_
  refine g_iastore X hf dX12_init_202 (fun h50 hf => ?_)
  refine g_aload_n X dX12_init_203 0 rfl ?_
  refine g_getR X hf (T := TX12) rfl (by decide) (by decide) in_RX12 tb_1135 rfl dX12_init_204 (fun v51 hf => ?_)
  refine g_bipush (v := 9) X dX12_init_207 (by decide) ?_
  refine g_sipush (v := 300) X dX12_init_209 (by decide) ?_
  refine g_iastore X hf dX12_init_212 (fun h52 hf => ?_)
  refine g_aload_n X dX12_init_213 0 rfl ?_
  refine g_getR X hf (T := TX12) rfl (by decide) (by decide) in_RX12 tb_1135 rfl dX12_init_214 (fun v53 hf => ?_)
  refine g_bipush (v := 10) X dX12_init_217 (by decide) ?_
  refine g_iconst (v := 3) X dX12_init_219 (by decide) ?_
  refine g_iastore X hf dX12_init_220 (fun h54 hf => ?_)
  refine g_aload_n X dX12_init_221 0 rfl ?_
  refine g_getR X hf (T := TX12) rfl (by decide) (by decide) in_RX12 tb_1135 rfl dX12_init_222 (fun v55 hf => ?_)
  refine g_bipush (v := 11) X dX12_init_225 (by decide) ?_
  refine g_iconst (v := 1) X dX12_init_227 (by decide) ?_
  refine g_iastore X hf dX12_init_228 (fun h56 hf => ?_)
  refine g_aload_n X dX12_init_229 0 rfl ?_
  refine g_getR X hf (T := TX12) rfl (by decide) (by decide) in_RX12 tb_1135 rfl dX12_init_230 (fun v57 hf => ?_)
  refine g_bipush (v := 12) X dX12_init_233 (by decide) ?_
  refine g_iconst (v := 4) X dX12_init_235 (by decide) ?_
  refine g_iastore X hf dX12_init_236 (fun h58 hf => ?_)
  refine g_iconst (v := 0) X dX12_init_237 (by decide) ?_
  refine g_istore_n (lv' := [(0, tR (some a0)), (1, tI 0)]) X dX12_init_238 (by decide) (in_pick [1, 0] rfl) ?_
  exact w_X12_init_239 X FU (some a0) 0 h58 hf
