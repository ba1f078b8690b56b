def b_X6_isCertain_14    : Nat → Option Nat → Int32 → Int32 → AH → Option (Int32 × AH)
  | 0 => fun _ _ _ _ => none
  | n + 1 => fun x0 x2 x3 h =>
    (gI 6 0 h x0).bind fun v1 =>
    if x3 < v1 then
      if x3 = x2 then
        b_X6_isCertain_14 n x0 x2 (x3 + 1) h
      else
        (gR 6 3 h x0).bind fun v2 =>
        (aI h v2 x3).bind fun v3 =>
        (gR 6 2 h x0).bind fun v4 =>
        (aI h v4 x2).bind fun v5 =>
        if v3 < v5 then
          b_X6_isCertain_14 n x0 x2 (x3 + 1) h
        else
          some (0, h)
    else
      some (1, h)
set_option maxRecDepth 20000 in
theorem w_X6_isCertain_14 {K : KT} {w : (Int32 × AH)}   (X : CX K cX6_isCertain RX6 TB (some .boolean) "isCertain" (rmD 5 0 0) 4 0 0)  : ∀ (n : Nat) (x0 : Option Nat) (x2 : Int32) (x3 : Int32) (h : AH), b_X6_isCertain_14 n x0 x2 x3 h = some w → GG K (some (tI w.1), w.2) 0 0 14 [(0, tR x0), (2, tI x2), (3, tI x3)] [] h := by
  intro n
  induction n with
  | zero =>
    intro x0 x2 x3 h hf
    cases (show none = some w from hf)
  | succ n ih =>
    intro x0 x2 x3 h hf
    rw [b_X6_isCertain_14] at hf
    refine g_iload_n X dX6_isCertain_14 2 rfl ?_
    refine g_aload_n X dX6_isCertain_15 0 rfl ?_
    refine g_getI X hf (T := TX6) rfl (by decide) (by decide) in_RX6 tb_311 rfl dX6_isCertain_16 (fun v1 hf => ?_)
    refine g_icmpge (tgt := 50) X hf dX6_isCertain_19 (by decide) (fun hf => ?_) (fun hf => ?_)
    · refine g_iload_n X dX6_isCertain_22 2 rfl ?_
      refine g_iload_n X dX6_isCertain_23 1 rfl ?_
      refine g_icmpeq (tgt := 44) X hf dX6_isCertain_24 (by decide) (fun hf => ?_) (fun hf => ?_)
      · refine g_iinc (v := (x3 + 1)) (lv' := [(0, tR x0), (2, tI x2), (3, tI (x3 + 1))]) X dX6_isCertain_44 2 rfl (by rfl) (by decide) (in_pick [1, 2, 0] rfl) ?_
        refine g_goto (tgt := 14) X dX6_isCertain_47 (by decide) ?_
        exact ih x0 x2 (x3 + 1) h hf
      · refine g_aload_n X dX6_isCertain_27 0 rfl ?_
        refine g_getR X hf (T := TX6) rfl (by decide) (by decide) in_RX6 tb_316 rfl dX6_isCertain_28 (fun v2 hf => ?_)
        refine g_iload_n X dX6_isCertain_31 2 rfl ?_
        refine g_iaload X hf dX6_isCertain_32 (fun v3 hf => ?_)
        refine g_aload_n X dX6_isCertain_33 0 rfl ?_
        refine g_getR X hf (T := TX6) rfl (by decide) (by decide) in_RX6 tb_314 rfl dX6_isCertain_34 (fun v4 hf => ?_)
        refine g_iload_n X dX6_isCertain_37 1 rfl ?_
        refine g_iaload X hf dX6_isCertain_38 (fun v5 hf => ?_)
        refine g_icmplt (tgt := 44) X hf dX6_isCertain_39 (by decide) (fun hf => ?_) (fun hf => ?_)
        · refine g_iinc (v := (x3 + 1)) (lv' := [(0, tR x0), (2, tI x2), (3, tI (x3 + 1))]) X dX6_isCertain_44 2 rfl (by rfl) (by decide) (in_pick [1, 2, 0] rfl) ?_
          refine g_goto (tgt := 14) X dX6_isCertain_47 (by decide) ?_
          exact ih x0 x2 (x3 + 1) h hf
        · refine g_iconst (v := 0) X dX6_isCertain_42 (by decide) ?_
          exact g_zreturn X (zW hf) (by decide) (by decide) (by decide) dX6_isCertain_43
    · refine g_iconst (v := 1) X dX6_isCertain_50 (by decide) ?_
      exact g_zreturn X (zW hf) (by decide) (by decide) (by decide) dX6_isCertain_51
def f_X6_isCertain  (a0 : Option Nat) (a1 : Option Nat) (h : AH) : Option (Int32 × AH) :=
  (ck 6 h a0 (f_X6_whoGoes a0 a1 h)).bind fun p1 =>
  if p1.1 < 0 then
    some (0, p1.2)
  else
    b_X6_isCertain_14 FU a0 p1.1 0 p1.2
set_option maxRecDepth 20000 in
theorem m_X6_isCertain  {a0 : Option Nat} {a1 : Option Nat} {h : AH} {w : (Int32 × AH)} (hf : f_X6_isCertain a0 a1 h = some w) : CT yX6_isCertain (wU yX6_isCertain cX6_isCertain 4 (some .boolean)) (rmD 5 0 0) 0 0 [tR a0, tR a1] h (some (tI w.1), w.2) := by
  refine CT.of (cc := cX6_isCertain) (nL := 4) (ret := (some .boolean)) (by decide) (by simp [lg_sl, vOf_cat, wOf]) ?_
  intro K X
  refine g_locs (lv' := [(0, tR a0), (1, tR a1)]) (fun q hq => hq) ?_
  unfold f_X6_isCertain at hf
  refine g_aload_n X dX6_isCertain_0 0 rfl ?_
  refine g_aload_n X dX6_isCertain_1 1 rfl ?_
  refine g_callV (n := 1) (av := [tR a1]) (rest := []) (k := 6) X hf (fun p1 => (some (tI p1.1), p1.2)) (fun _ q => m_X6_whoGoes q) (gdV tb_841 tb_826 tb_827 tb_10 tb_828) rfl (by decide +kernel) rfl (by decide) rfl (by decide) (by decide) rfl (Nat.le_of_ble_eq_true rfl) dX6_isCertain_2 (fun p1 hf => ?_)
  refine g_istore_n (lv' := [(0, tR a0), (1, tR a1), (2, tI p1.1)]) X dX6_isCertain_5 (by decide) (in_pick [1, 2, 0] rfl) ?_
  refine g_iload_n X dX6_isCertain_6 2 rfl ?_
  refine g_ifge (tgt := 12) X hf dX6_isCertain_7 (by decide) (fun hf => ?_) (fun hf => ?_)
  · refine g_iconst (v := 0) X dX6_isCertain_10 (by decide) ?_
    exact g_zreturn X (zW hf) (by decide) (by decide) (by decide) dX6_isCertain_11
  · refine g_iconst (v := 0) X dX6_isCertain_12 (by decide) ?_
    refine g_istore_n (lv' := [(0, tR a0), (1, tR a1), (2, tI p1.1), (3, tI 0)]) X dX6_isCertain_13 (by decide) (in_pick [1, 2, 3, 0] rfl) ?_
    refine g_locs (lv' := [(0, tR a0), (2, tI p1.1), (3, tI 0)]) (in_pick [0, 2, 3] rfl) ?_
    exact w_X6_isCertain_14 X FU a0 p1.1 0 p1.2 hf
def b_X7_init_19   (s0 : Option Nat) (s1 : Int32) (h : AH) : Option AH :=
  (nA 100 40 (.int 0) s1 h).bind fun h1 =>
  (pR 7 1 h1 s0 (some h.1)).bind fun h2 =>
  some h2
set_option maxRecDepth 20000 in
theorem w_X7_init_19 {K : KT} {w : AH}   (X : CX K cX7_init RX7 TB none "<init>" (rmD 1 1 40) 3 1 40)  (s0 : Option Nat) (s1 : Int32) (h : AH) (hf : b_X7_init_19 s0 s1 h = some w) : GG K (none, w) 0 0 19 [] [tI s1, tR s0] h := by
  unfold b_X7_init_19 at hf
  refine g_newa (atype := .int) X hf (by decide) rfl rfl (fun _ _ q => q) tb_64 (Nat.le_of_ble_eq_true rfl) (by decide) dX7_init_19 (fun h1 hf => ?_)
  refine g_putFR X hf (T := TX7) rfl (by decide) (by decide) in_RX7 tyX7 tyX7_ok nmX7 tb_988 rfl rfl rfl rfl rfl dX7_init_21 (fun h2 hf => ?_)
  exact g_vreturn X (zV hf) (by decide) (by decide) dX7_init_24
def f_X7_init  (a0 : Nat) (a1 : Int32) (a2 : Int32) (h : AH) : Option AH :=
  (pI 7 0 h (some a0) a1).bind fun h1 =>
  if a2 < 0 then
    b_X7_init_19 (some a0) 0 h1
  else
    b_X7_init_19 (some a0) a2 h1
set_option maxRecDepth 20000 in
theorem m_X7_init  {a0 : Nat} {a1 : Int32} {a2 : Int32} {h : AH} {w : AH} (hf : f_X7_init a0 a1 a2 h = some w) : CT yX7_init (wU yX7_init cX7_init 3 none) (rmD 1 1 40) 1 40 [tR (some a0), tI a1, tI a2] h (none, w) := by
  refine CT.of (cc := cX7_init) (nL := 3) (ret := none) (by decide) (by simp [lg_sl, vOf_cat, wOf]) ?_
  intro K X
  refine g_locs (lv' := [(0, tR (some a0)), (1, tI a1), (2, tI a2)]) (fun q hq => hq) ?_
  unfold f_X7_init at hf
  refine g_aload_n X dX7_init_0 0 rfl ?_
  refine g_objInit X tb_985 tb_27 tb_28 ⟨Nat.le_of_ble_eq_true rfl, Nat.le_of_ble_eq_true rfl⟩ dX7_init_1 ?_
  refine g_aload_n X dX7_init_4 0 rfl ?_
  refine g_iload_n X dX7_init_5 1 rfl ?_
  refine g_putFI X hf (T := TX7) rfl (by decide) (by decide) in_RX7 tyX7 tyX7_ok nmX7 tb_986 rfl rfl rfl rfl rfl dX7_init_6 (fun h1 hf => ?_)
  refine g_aload_n X dX7_init_9 0 rfl ?_
  refine g_iload_n X dX7_init_10 2 rfl ?_
  refine g_ifge (tgt := 18) X hf dX7_init_11 (by decide) (fun hf => ?_) (fun hf => ?_)
  · refine g_iconst (v := 0) X dX7_init_14 (by decide) ?_
    refine g_goto (tgt := 19) X dX7_init_15 (by decide) ?_
    refine g_locs (lv' := []) (in_pick [] rfl) ?_
    exact w_X7_init_19 X (some a0) 0 h1 hf
  · refine g_iload_n X dX7_init_18 2 rfl ?_
    refine g_locs (lv' := []) (in_pick [] rfl) ?_
    exact w_X7_init_19 X (some a0) a2 h1 hf
def f_X7_narrowed  (a0 : Option Nat) (a1 : Int32) (h : AH) : Option Int32 :=
  (gI 7 0 h a0).bind fun v1 =>
  if v1 < 0 ∨ 4 < v1 then
    some a1
  else if v1 = 0 then
    some ((a1 : Int32).toInt8.toInt32)
  else if v1 = 1 then
    some ((a1 : Int32).toInt16.toInt32)
  else if v1 = 2 then
    some a1
  else if v1 = 3 then
    some a1
  else if v1 = 4 then
    if a1 = 0 then
      some 0
    else
      some 1
  else none
set_option maxRecDepth 20000 in
theorem m_X7_narrowed  {a0 : Option Nat} {a1 : Int32} {h : AH} {w : Int32} (hf : f_X7_narrowed a0 a1 h = some w) : CT yX7_narrowed (wU yX7_narrowed cX7_narrowed 2 (some .int)) (rmD 1 0 0) 0 0 [tR a0, tI a1] h (some (tI w), h) := by
  refine CT.of (cc := cX7_narrowed) (nL := 2) (ret := (some .int)) (by decide) (by simp [lg_sl, vOf_cat, wOf]) ?_
  intro K X
  refine g_locs (lv' := [(0, tR a0), (1, tI a1)]) (fun q hq => hq) ?_
  unfold f_X7_narrowed at hf
  refine g_aload_n X dX7_narrowed_0 0 rfl ?_
  refine g_getI X hf (T := TX7) rfl (by decide) (by decide) in_RX7 tb_986 rfl dX7_narrowed_1 (fun v1 hf => ?_)
  by_cases hsw : v1 < 0 ∨ 4 < v1
  · rw [if_pos hsw] at hf
    refine g_tabOut (tgt := 56) X dX7_narrowed_4 (tab_out hsw) (by decide) ?_
    refine g_iload_n X dX7_narrowed_56 1 rfl ?_
    exact g_ireturn X (zP hf) (by decide) (by decide) dX7_narrowed_57
  rw [if_neg hsw] at hf
  by_cases hs0 : v1 = 0
  · rw [if_pos hs0] at hf
    refine g_tabIn (off := 36) (tgt := 40) X 0 hs0 dX7_narrowed_4 (by decide) (by decide) (by decide +kernel) (by decide) ?_
    refine g_iload_n X dX7_narrowed_40 1 rfl ?_
    refine g_i2b X dX7_narrowed_41 ?_
    exact g_ireturn X (zP hf) (by decide) (by decide) dX7_narrowed_42
  rw [if_neg hs0] at hf
  by_cases hs1 : v1 = 1
  · rw [if_pos hs1] at hf
    refine g_tabIn (off := 39) (tgt := 43) X 1 hs1 dX7_narrowed_4 (by decide) (by decide) (by decide +kernel) (by decide) ?_
    refine g_iload_n X dX7_narrowed_43 1 rfl ?_
    refine g_i2s X dX7_narrowed_44 ?_
    exact g_ireturn X (zP hf) (by decide) (by decide) dX7_narrowed_45
  rw [if_neg hs1] at hf
  by_cases hs2 : v1 = 2
  · rw [if_pos hs2] at hf
    refine g_tabIn (off := 52) (tgt := 56) X 2 hs2 dX7_narrowed_4 (by decide) (by decide) (by decide +kernel) (by decide) ?_
    refine g_iload_n X dX7_narrowed_56 1 rfl ?_
    exact g_ireturn X (zP hf) (by decide) (by decide) dX7_narrowed_57
  rw [if_neg hs2] at hf
  by_cases hs3 : v1 = 3
  · rw [if_pos hs3] at hf
    refine g_tabIn (off := 52) (tgt := 56) X 3 hs3 dX7_narrowed_4 (by decide) (by decide) (by decide +kernel) (by decide) ?_
    refine g_iload_n X dX7_narrowed_56 1 rfl ?_
    exact g_ireturn X (zP hf) (by decide) (by decide) dX7_narrowed_57
  rw [if_neg hs3] at hf
  by_cases hs4 : v1 = 4
  · rw [if_pos hs4] at hf
    refine g_tabIn (off := 42) (tgt := 46) X 4 hs4 dX7_narrowed_4 (by decide) (by decide) (by decide +kernel) (by decide) ?_
    refine g_iload_n X dX7_narrowed_46 1 rfl ?_
    refine g_ifeq (tgt := 54) X hf dX7_narrowed_47 (by decide) (fun hf => ?_) (fun hf => ?_)
    · refine g_iconst (v := 0) X dX7_narrowed_54 (by decide) ?_
      exact g_ireturn X (zP hf) (by decide) (by decide) dX7_narrowed_55
    · refine g_iconst (v := 1) X dX7_narrowed_50 (by decide) ?_
      refine g_goto (tgt := 55) X dX7_narrowed_51 (by decide) ?_
      exact g_ireturn X (zP hf) (by decide) (by decide) dX7_narrowed_55
  rw [if_neg hs4] at hf
  cases hf
def f_X8_howMeant  (a0 : Option Nat) (h : AH) : Option Int32 :=
  (ck 8 h a0 (f_X8_meant a0 h)).bind fun v1 =>
  (f_J6_bitCount_0f7a4 v1 h).bind fun v2 =>
  if 1 < v2 then
    some 3
  else
    if v2 = 0 then
      some 0
    else
      (ck 8 h a0 (f_X8_isSure a0 h)).bind fun v3 =>
      if v3 = 0 then
        some 2
      else
        some 1
set_option maxRecDepth 20000 in
theorem m_X8_howMeant  {a0 : Option Nat} {h : AH} {w : Int32} (hf : f_X8_howMeant a0 h = some w) : CT yX8_howMeant (wU yX8_howMeant cX8_howMeant 2 (some .int)) (rmD 3 0 0) 0 0 [tR a0] h (some (tI w), h) := by
  refine CT.of (cc := cX8_howMeant) (nL := 2) (ret := (some .int)) (by decide) (by simp [lg_sl, vOf_cat, wOf]) ?_
  intro K X
  refine g_locs (lv' := [(0, tR a0)]) (fun q hq => hq) ?_
  unfold f_X8_howMeant at hf
  refine g_aload_n X dX8_howMeant_0 0 rfl ?_
  refine g_callV (n := 0) (av := []) (rest := []) (k := 8) X hf (fun v1 => (some (tI v1), h)) (fun _ q => m_X8_meant q) (gdV tb_607 tb_608 tb_609 tb_7 tb_610) rfl (by decide +kernel) rfl (by decide) rfl (by decide) (by decide) rfl (Nat.le_of_ble_eq_true rfl) dX8_howMeant_1 (fun v1 hf => ?_)
  refine g_callS (n := 1) (av := [tI v1]) (rest := []) X hf (fun v2 => (some (tI v2), h)) (fun _ q => m_J6_bitCount_0f7a4 q) (gdS tb_611 tb_612 tb_14 tb_613) rfl (by decide +kernel) rfl (by decide) (by decide) rfl (Nat.le_of_ble_eq_true rfl) dX8_howMeant_4 (fun v2 hf => ?_)
  refine g_istore_n (lv' := [(0, tR a0), (1, tI v2)]) X dX8_howMeant_7 (by decide) (in_pick [1, 0] rfl) ?_
  refine g_iload_n X dX8_howMeant_8 1 rfl ?_
  refine g_iconst (v := 1) X dX8_howMeant_9 (by decide) ?_
  refine g_icmple (tgt := 15) X hf dX8_howMeant_10 (by decide) (fun hf => ?_) (fun hf => ?_)
  · refine g_iconst (v := 3) X dX8_howMeant_13 (by decide) ?_
    exact g_ireturn X (zP hf) (by decide) (by decide) dX8_howMeant_14
  · refine g_iload_n X dX8_howMeant_15 1 rfl ?_
    refine g_ifne (tgt := 21) X hf dX8_howMeant_16 (by decide) (fun hf => ?_) (fun hf => ?_)
    · refine g_iconst (v := 0) X dX8_howMeant_19 (by decide) ?_
      exact g_ireturn X (zP hf) (by decide) (by decide) dX8_howMeant_20
    · refine g_aload_n X dX8_howMeant_21 0 rfl ?_
      refine g_callV (n := 0) (av := []) (rest := []) (k := 8) X hf (fun v3 => (some (tI v3), h)) (fun _ q => m_X8_isSure q) (gdV tb_617 tb_618 tb_619 tb_7 tb_620) rfl (by decide +kernel) rfl (by decide) rfl (by decide) (by decide) rfl (Nat.le_of_ble_eq_true rfl) dX8_howMeant_22 (fun v3 hf => ?_)
      refine g_ifeq (tgt := 32) X hf dX8_howMeant_25 (by decide) (fun hf => ?_) (fun hf => ?_)
      · refine g_iconst (v := 2) X dX8_howMeant_32 (by decide) ?_
        exact g_ireturn X (zP hf) (by decide) (by decide) dX8_howMeant_33
      · refine g_iconst (v := 1) X dX8_howMeant_28 (by decide) ?_
        refine g_goto (tgt := 33) X dX8_howMeant_29 (by decide) ?_
        exact g_ireturn X (zP hf) (by decide) (by decide) dX8_howMeant_33
def f_X8_kind  (a0 : Option Nat) (h : AH) : Option Int32 :=
  (ck 8 h a0 (f_X8_meant a0 h)).bind fun v1 =>
  if v1 = 0 then
    some 3
  else
    (gI 8 4 h a0).bind fun v2 =>
    if v2 = 0 then
      (gI 8 5 h a0).bind fun v3 =>
      if v3 = 0 then
        some 1
      else
        some 2
    else
      some 3
set_option maxRecDepth 20000 in
theorem m_X8_kind  {a0 : Option Nat} {h : AH} {w : Int32} (hf : f_X8_kind a0 h = some w) : CT yX8_kind (wU yX8_kind cX8_kind 1 (some .int)) (rmD 2 0 0) 0 0 [tR a0] h (some (tI w), h) := by
  refine CT.of (cc := cX8_kind) (nL := 1) (ret := (some .int)) (by decide) (by simp [lg_sl, vOf_cat, wOf]) ?_
  intro K X
  refine g_locs (lv' := [(0, tR a0)]) (fun q hq => hq) ?_
  unfold f_X8_kind at hf
  refine g_aload_n X dX8_kind_0 0 rfl ?_
  refine g_callV (n := 0) (av := []) (rest := []) (k := 8) X hf (fun v1 => (some (tI v1), h)) (fun _ q => m_X8_meant q) (gdV tb_607 tb_608 tb_609 tb_7 tb_610) rfl (by decide +kernel) rfl (by decide) rfl (by decide) (by decide) rfl (Nat.le_of_ble_eq_true rfl) dX8_kind_1 (fun v1 hf => ?_)
  refine g_ifeq (tgt := 14) X hf dX8_kind_4 (by decide) (fun hf => ?_) (fun hf => ?_)
  · refine g_iconst (v := 3) X dX8_kind_14 (by decide) ?_
    exact g_ireturn X (zP hf) (by decide) (by decide) dX8_kind_15
  · refine g_aload_n X dX8_kind_7 0 rfl ?_
    refine g_getI X hf (T := TX8) rfl (by decide) (by decide) in_RX8 tb_156 rfl dX8_kind_8 (fun v2 hf => ?_)
    refine g_ifeq (tgt := 16) X hf dX8_kind_11 (by decide) (fun hf => ?_) (fun hf => ?_)
    · refine g_aload_n X dX8_kind_16 0 rfl ?_
      refine g_getI X hf (T := TX8) rfl (by decide) (by decide) in_RX8 tb_159 rfl dX8_kind_17 (fun v3 hf => ?_)
      refine g_ifeq (tgt := 27) X hf dX8_kind_20 (by decide) (fun hf => ?_) (fun hf => ?_)
      · refine g_iconst (v := 1) X dX8_kind_27 (by decide) ?_
        exact g_ireturn X (zP hf) (by decide) (by decide) dX8_kind_28
      · refine g_iconst (v := 2) X dX8_kind_23 (by decide) ?_
        refine g_goto (tgt := 28) X dX8_kind_24 (by decide) ?_
        exact g_ireturn X (zP hf) (by decide) (by decide) dX8_kind_28
    · refine g_iconst (v := 3) X dX8_kind_14 (by decide) ?_
      exact g_ireturn X (zP hf) (by decide) (by decide) dX8_kind_15
def b_X10_begin_12    : Nat → Option Nat → Int32 → AH → Option AH
  | 0 => fun _ _ _ => none
  | n + 1 => fun x0 x3 h =>
    if x3 < 16 then
      (gR 10 2 h x0).bind fun v1 =>
      (sI h v1 x3 (-1)).bind fun h2 =>
      b_X10_begin_12 n x0 (x3 + 1) h2
    else
      some h
set_option maxRecDepth 20000 in
theorem w_X10_begin_12 {K : KT} {w : AH}   (X : CX K cX10_begin RX10 TB none "begin" (rmD 1 0 0) 4 0 0)  : ∀ (n : Nat) (x0 : Option Nat) (x3 : Int32) (h : AH), b_X10_begin_12 n x0 x3 h = some w → GG K (none, w) 0 0 12 [(0, tR x0), (3, tI x3)] [] h := by
  intro n
  induction n with
  | zero =>
    intro x0 x3 h hf
    cases (show none = some w from hf)
  | succ n ih =>
    intro x0 x3 h hf
    rw [b_X10_begin_12] at hf
    refine g_iload_n X dX10_begin_12 1 rfl ?_
    refine g_bipush (v := 16) X dX10_begin_13 (by decide) ?_
    refine g_icmpge (tgt := 31) X hf dX10_begin_15 (by decide) (fun hf => ?_) (fun hf => ?_)
    · refine g_aload_n X dX10_begin_18 0 rfl ?_
      refine g_getR X hf (T := TX10) rfl (by decide) (by decide) in_RX10 tb_114 rfl dX10_begin_19 (fun v1 hf => ?_)
      refine g_iload_n X dX10_begin_22 1 rfl ?_
      refine g_iconst (v := (-1)) X dX10_begin_23 (by decide) ?_
      refine g_iastore X hf dX10_begin_24 (fun h2 hf => ?_)
      refine g_iinc (v := (x3 + 1)) (lv' := [(0, tR x0), (3, tI (x3 + 1))]) X dX10_begin_25 1 rfl (by rfl) (by decide) (in_pick [1, 0] rfl) ?_
      refine g_goto (tgt := 12) X dX10_begin_28 (by decide) ?_
      exact ih x0 (x3 + 1) h2 hf
    · exact g_vreturn X (zV hf) (by decide) (by decide) dX10_begin_31
def f_X10_begin  (a0 : Option Nat) (a1 : Int32) (a2 : Int32) (h : AH) : Option AH :=
  (pI 10 0 h a0 a1).bind fun h1 =>
  (pI 10 1 h1 a0 a2).bind fun h2 =>
  b_X10_begin_12 FU a0 0 h2
set_option maxRecDepth 20000 in
theorem m_X10_begin  {a0 : Option Nat} {a1 : Int32} {a2 : Int32} {h : AH} {w : AH} (hf : f_X10_begin a0 a1 a2 h = some w) : CT yX10_begin (wU yX10_begin cX10_begin 4 none) (rmD 1 0 0) 0 0 [tR a0, tI a1, tI a2] h (none, w) := by
  refine CT.of (cc := cX10_begin) (nL := 4) (ret := none) (by decide) (by simp [lg_sl, vOf_cat, wOf]) ?_
  intro K X
  refine g_locs (lv' := [(0, tR a0), (1, tI a1), (2, tI a2)]) (fun q hq => hq) ?_
  unfold f_X10_begin at hf
  refine g_aload_n X dX10_begin_0 0 rfl ?_
  refine g_iload_n X dX10_begin_1 1 rfl ?_
  refine g_putI X hf (T := TX10) rfl (by decide) (by decide) in_RX10 tyX10 tyX10_ok nmX10 tb_110 rfl rfl rfl dX10_begin_2 (fun h1 hf => ?_)
  refine g_aload_n X dX10_begin_5 0 rfl ?_
  refine g_iload_n X dX10_begin_6 2 rfl ?_
  refine g_putI X hf (T := TX10) rfl (by decide) (by decide) in_RX10 tyX10 tyX10_ok nmX10 tb_112 rfl rfl rfl dX10_begin_7 (fun h2 hf => ?_)
  refine g_iconst (v := 0) X dX10_begin_10 (by decide) ?_
  refine g_istore_n (lv' := [(0, tR a0), (1, tI a1), (2, tI a2), (3, tI 0)]) X dX10_begin_11 (by decide) (in_pick [1, 2, 3, 0] rfl) ?_
  refine g_locs (lv' := [(0, tR a0), (3, tI 0)]) (in_pick [0, 3] rfl) ?_
  exact w_X10_begin_12 X FU a0 0 h2 hf
def b_X11_init_89    : Nat → Option Nat → Int32 → AH → Option AH
  | 0 => fun _ _ _ => none
  | n + 1 => fun x0 x1 h =>
    if x1 < 4 then
      (gR 11 11 h x0).bind fun v1 =>
      (sI h v1 x1 4).bind fun h2 =>
      b_X11_init_89 n x0 (x1 + 1) h2
    else
      (nA 100 4 (.int 0) 4 h).bind fun h3 =>
      (pR 11 12 h3 x0 (some h.1)).bind fun h4 =>
      (nA 106 4 .null 4 h4).bind fun h5 =>
      (pR 11 13 h5 x0 (some h4.1)).bind fun h6 =>
      (nA 100 9 (.int 0) 9 h6).bind fun h7 =>
      (pR 11 14 h7 x0 (some h6.1)).bind fun h8 =>
      (nA 100 9 (.int 0) 9 h8).bind fun h9 =>
      (pR 11 15 h9 x0 (some h8.1)).bind fun h10 =>
      (nA 100 9 (.int 0) 9 h10).bind fun h11 =>
      (pR 11 16 h11 x0 (some h10.1)).bind fun h12 =>
      some h12
set_option maxRecDepth 20000 in
theorem w_X11_init_89 {K : KT} {w : AH}   (X : CX K cX11_init RX11 TB none "<init>" (rmD 3 187 4773) 2 187 4773)  : ∀ (n : Nat) (x0 : Option Nat) (x1 : Int32) (h : AH), b_X11_init_89 n x0 x1 h = some w → GG K (none, w) 182 4738 89 [(0, tR x0), (1, tI x1)] [] h := by
  intro n
  induction n with
  | zero =>
    intro x0 x1 h hf
    cases (show none = some w from hf)
  | succ n ih =>
    intro x0 x1 h hf
    rw [b_X11_init_89] at hf
    refine g_iload_n X dX11_init_89 1 rfl ?_
    refine g_iconst (v := 4) X dX11_init_90 (by decide) ?_
    refine g_icmpge (tgt := 107) X hf dX11_init_91 (by decide) (fun hf => ?_) (fun hf => ?_)
    · refine g_aload_n X dX11_init_94 0 rfl ?_
      refine g_getR X hf (T := TX11) rfl (by decide) (by decide) in_RX11 tb_361 rfl dX11_init_95 (fun v1 hf => ?_)
      refine g_iload_n X dX11_init_98 1 rfl ?_
      refine g_iconst (v := 4) X dX11_init_99 (by decide) ?_
      refine g_iastore X hf dX11_init_100 (fun h2 hf => ?_)
      refine g_iinc (v := (x1 + 1)) (lv' := [(0, tR x0), (1, tI (x1 + 1))]) X dX11_init_101 1 rfl (by rfl) (by decide) (in_pick [1, 0] rfl) ?_
      refine g_goto (tgt := 89) X dX11_init_104 (by decide) ?_
      exact ih x0 (x1 + 1) h2 hf
    · refine g_aload_n X dX11_init_107 0 rfl ?_
      refine g_iconst (v := 4) X dX11_init_108 (by decide) ?_
      refine g_newa (atype := .int) X hf (by decide) rfl rfl (fun _ _ q => q) tb_64 (Nat.le_of_ble_eq_true rfl) (by decide) dX11_init_109 (fun h3 hf => ?_)
      refine g_putFR X hf (T := TX11) rfl (by decide) (by decide) in_RX11 tyX11 tyX11_ok nmX11 tb_362 rfl rfl rfl rfl rfl dX11_init_111 (fun h4 hf => ?_)
      refine g_aload_n X dX11_init_114 0 rfl ?_
      refine g_iconst (v := 4) X dX11_init_115 (by decide) ?_
      refine g_anew X hf (by decide) rfl (by decide) tb_349 (Nat.le_of_ble_eq_true rfl) (by decide) dX11_init_116 (fun h5 hf => ?_)
      refine g_putFR X hf (T := TX11) rfl (by decide) (by decide) in_RX11 tyX11 tyX11_ok nmX11 tb_363 rfl rfl rfl rfl rfl dX11_init_119 (fun h6 hf => ?_)
      refine g_aload_n X dX11_init_122 0 rfl ?_
      refine g_bipush (v := 9) X dX11_init_123 (by decide) ?_
      refine g_newa (atype := .int) X hf (by decide) rfl rfl (fun _ _ q => q) tb_64 (Nat.le_of_ble_eq_true rfl) (by decide) dX11_init_125 (fun h7 hf => ?_)
      refine g_putFR X hf (T := TX11) rfl (by decide) (by decide) in_RX11 tyX11 tyX11_ok nmX11 tb_364 rfl rfl rfl rfl rfl dX11_init_127 (fun h8 hf => ?_)
      refine g_aload_n X dX11_init_130 0 rfl ?_
      refine g_bipush (v := 9) X dX11_init_131 (by decide) ?_
      refine g_newa (atype := .int) X hf (by decide) rfl rfl (fun _ _ q => q) tb_64 (Nat.le_of_ble_eq_true rfl) (by decide) dX11_init_133 (fun h9 hf => ?_)
      refine g_putFR X hf (T := TX11) rfl (by decide) (by decide) in_RX11 tyX11 tyX11_ok nmX11 tb_365 rfl rfl rfl rfl rfl dX11_init_135 (fun h10 hf => ?_)
      refine g_aload_n X dX11_init_138 0 rfl ?_
      refine g_bipush (v := 9) X dX11_init_139 (by decide) ?_
      refine g_newa (atype := .int) X hf (by decide) rfl rfl (fun _ _ q => q) tb_64 (Nat.le_of_ble_eq_true rfl) (by decide) dX11_init_141 (fun h11 hf => ?_)
      refine g_putFR X hf (T := TX11) rfl (by decide) (by decide) in_RX11 tyX11 tyX11_ok nmX11 tb_366 rfl rfl rfl rfl rfl dX11_init_143 (fun h12 hf => ?_)
      exact g_vreturn X (zV hf) (by decide) (by decide) dX11_init_146
def f_X11_init  (a0 : Nat) (h : AH) : Option AH :=
  (nO 2 20 tyX2 h).bind fun h1 =>
  (f_X2_init h.1 h1).bind fun h2 =>
  (pR 11 0 h2 (some a0) (some h.1)).bind fun h3 =>
  (nO 4 13 tyX4 h3).bind fun h4 =>
  (f_X4_init h3.1 h4).bind fun h5 =>
  (pR 11 2 h5 (some a0) (some h3.1)).bind fun h6 =>
  (nO 6 6 tyX6 h6).bind fun h7 =>
  (f_X6_init h6.1 h7).bind fun h8 =>
  (pR 11 3 h8 (some a0) (some h6.1)).bind fun h9 =>
  (nO 0 6 tyX0 h9).bind fun h10 =>
  (f_X0_init h9.1 h10).bind fun h11 =>
  (pR 11 4 h11 (some a0) (some h9.1)).bind fun h12 =>
  (nA 100 16 (.int 0) 16 h12).bind fun h13 =>
  (pR 11 5 h13 (some a0) (some h12.1)).bind fun h14 =>
  (nA 100 16 (.int 0) 16 h14).bind fun h15 =>
  (pR 11 7 h15 (some a0) (some h14.1)).bind fun h16 =>
  (nA 100 16 (.int 0) 16 h16).bind fun h17 =>
  (pR 11 8 h17 (some a0) (some h16.1)).bind fun h18 =>
  (nA 106 4 .null 4 h18).bind fun h19 =>
  (pR 11 10 h19 (some a0) (some h18.1)).bind fun h20 =>
  (nA 100 4 (.int 0) 4 h20).bind fun h21 =>
  (pR 11 11 h21 (some a0) (some h20.1)).bind fun h22 =>
  b_X11_init_89 FU (some a0) 0 h22
set_option maxRecDepth 20000 in
theorem m_X11_init  {a0 : Nat} {h : AH} {w : AH} (hf : f_X11_init a0 h = some w) : CT yX11_init (wU yX11_init cX11_init 2 none) (rmD 3 187 4773) 187 4773 [tR (some a0)] h (none, w) := by
  refine CT.of (cc := cX11_init) (nL := 2) (ret := none) (by decide) (by simp [lg_sl, vOf_cat, wOf]) ?_
  intro K X
  refine g_locs (lv' := [(0, tR (some a0))]) (fun q hq => hq) ?_
  unfold f_X11_init at hf
  refine g_aload_n X dX11_init_0 0 rfl ?_
  refine g_objInit X tb_26 tb_27 tb_28 ⟨Nat.le_of_ble_eq_true rfl, Nat.le_of_ble_eq_true rfl⟩ dX11_init_1 ?_
  refine g_aload_n X dX11_init_4 0 rfl ?_
  refine g_new X hf (T := TX2) rfl (by decide) in_RX2 tyX2_ok tb_29 tb_30 tb_2 (by decide) dX11_init_5 (fun h1 hf => ?_)
  refine g_dup X dX11_init_8 rfl ?_
  refine g_callI (n := 0) (av := []) (rest := [tR (some h.1), tR (some a0)]) X hf (fun _ q => m_X2_init q) (gd0 tb_33) rfl tb_31 tb_2 rfl tb_32 (by decide +kernel) rfl (by decide) (by decide) rfl (Nat.le_of_ble_eq_true rfl) dX11_init_9 (fun h2 hf => ?_)
  refine g_putFR X hf (T := TX11) rfl (by decide) (by decide) in_RX11 tyX11 tyX11_ok nmX11 tb_350 rfl rfl rfl rfl rfl dX11_init_12 (fun h3 hf => ?_)
  refine g_aload_n X dX11_init_15 0 rfl ?_
  refine g_new X hf (T := TX4) rfl (by decide) in_RX4 tyX4_ok tb_271 tb_272 tb_9 (by decide) dX11_init_16 (fun h4 hf => ?_)
  refine g_dup X dX11_init_19 rfl ?_
  refine g_callIN (n := 0) (av := []) (rest := [tR (some h3.1), tR (some a0)]) X hf (fun _ q => m_X4_init q) (gd0 tb_274) rfl (by decide +kernel) tb_9 rfl tb_273 (by decide +kernel) rfl (by decide) (by decide) rfl (Nat.le_of_ble_eq_true rfl) dX11_init_20 (fun h5 hf => ?_)
  refine g_putFR X hf (T := TX11) rfl (by decide) (by decide) in_RX11 tyX11 tyX11_ok nmX11 tb_352 rfl rfl rfl rfl rfl dX11_init_23 (fun h6 hf => ?_)
  refine g_aload_n X dX11_init_26 0 rfl ?_
  refine g_new X hf (T := TX6) rfl (by decide) in_RX6 tyX6_ok tb_306 tb_307 tb_10 (by decide) dX11_init_27 (fun h7 hf => ?_)
  refine g_dup X dX11_init_30 rfl ?_
  refine g_callIN (n := 0) (av := []) (rest := [tR (some h6.1), tR (some a0)]) X hf (fun _ q => m_X6_init q) (gd0 tb_309) rfl (by decide +kernel) tb_10 rfl tb_308 (by decide +kernel) rfl (by decide) (by decide) rfl (Nat.le_of_ble_eq_true rfl) dX11_init_31 (fun h8 hf => ?_)
  refine g_putFR X hf (T := TX11) rfl (by decide) (by decide) in_RX11 tyX11 tyX11_ok nmX11 tb_353 rfl rfl rfl rfl rfl dX11_init_34 (fun h9 hf => ?_)
  refine g_aload_n X dX11_init_37 0 rfl ?_
  refine g_new X hf (T := TX0) rfl (by decide) in_RX0 tyX0_ok tb_327 tb_328 tb_11 (by decide) dX11_init_38 (fun h10 hf => ?_)
  refine g_dup X dX11_init_41 rfl ?_
  refine g_callIN (n := 0) (av := []) (rest := [tR (some h9.1), tR (some a0)]) X hf (fun _ q => m_X0_init q) (gd0 tb_330) rfl (by decide +kernel) tb_11 rfl tb_329 (by decide +kernel) rfl (by decide) (by decide) rfl (Nat.le_of_ble_eq_true rfl) dX11_init_42 (fun h11 hf => ?_)
  refine g_putFR X hf (T := TX11) rfl (by decide) (by decide) in_RX11 tyX11 tyX11_ok nmX11 tb_354 rfl rfl rfl rfl rfl dX11_init_45 (fun h12 hf => ?_)
  refine g_aload_n X dX11_init_48 0 rfl ?_
  refine g_bipush (v := 16) X dX11_init_49 (by decide) ?_
  refine g_newa (atype := .int) X hf (by decide) rfl rfl (fun _ _ q => q) tb_64 (Nat.le_of_ble_eq_true rfl) (by decide) dX11_init_51 (fun h13 hf => ?_)
  refine g_putFR X hf (T := TX11) rfl (by decide) (by decide) in_RX11 tyX11 tyX11_ok nmX11 tb_355 rfl rfl rfl rfl rfl dX11_init_53 (fun h14 hf => ?_)
  refine g_aload_n X dX11_init_56 0 rfl ?_
  refine g_bipush (v := 16) X dX11_init_57 (by decide) ?_
  refine g_newa (atype := .int) X hf (by decide) rfl rfl (fun _ _ q => q) tb_64 (Nat.le_of_ble_eq_true rfl) (by decide) dX11_init_59 (fun h15 hf => ?_)
  refine g_putFR X hf (T := TX11) rfl (by decide) (by decide) in_RX11 tyX11 tyX11_ok nmX11 tb_357 rfl rfl rfl rfl rfl dX11_init_61 (fun h16 hf => ?_)
  refine g_aload_n X dX11_init_64 0 rfl ?_
  refine g_bipush (v := 16) X dX11_init_65 (by decide) ?_
  refine g_newa (atype := .int) X hf (by decide) rfl rfl (fun _ _ q => q) tb_64 (Nat.le_of_ble_eq_true rfl) (by decide) dX11_init_67 (fun h17 hf => ?_)
  refine g_putFR X hf (T := TX11) rfl (by decide) (by decide) in_RX11 tyX11 tyX11_ok nmX11 tb_358 rfl rfl rfl rfl rfl dX11_init_69 (fun h18 hf => ?_)
  refine g_aload_n X dX11_init_72 0 rfl ?_
  refine g_iconst (v := 4) X dX11_init_73 (by decide) ?_
  refine g_anew X hf (by decide) rfl (by decide) tb_349 (Nat.le_of_ble_eq_true rfl) (by decide) dX11_init_74 (fun h19 hf => ?_)
  refine g_putFR X hf (T := TX11) rfl (by decide) (by decide) in_RX11 tyX11 tyX11_ok nmX11 tb_360 rfl rfl rfl rfl rfl dX11_init_77 (fun h20 hf => ?_)
  refine g_aload_n X dX11_init_80 0 rfl ?_
  refine g_iconst (v := 4) X dX11_init_81 (by decide) ?_
  refine g_newa (atype := .int) X hf (by decide) rfl rfl (fun _ _ q => q) tb_64 (Nat.le_of_ble_eq_true rfl) (by decide) dX11_init_82 (fun h21 hf => ?_)
  refine g_putFR X hf (T := TX11) rfl (by decide) (by decide) in_RX11 tyX11 tyX11_ok nmX11 tb_361 rfl rfl rfl rfl rfl dX11_init_84 (fun h22 hf => ?_)
  refine g_iconst (v := 0) X dX11_init_87 (by decide) ?_
  refine g_istore_n (lv' := [(0, tR (some a0)), (1, tI 0)]) X dX11_init_88 (by decide) (in_pick [1, 0] rfl) ?_
  exact w_X11_init_89 X FU (some a0) 0 h22 hf
def f_X11_within  (a0 : Int32) (a1 : Int32) (a2 : Int32) (h : AH) : Option Int32 :=
  if a0 < a1 then
    some 0
  else
    if a2 < a0 then
      some 0
    else
      some 1
set_option maxRecDepth 20000 in
theorem m_X11_within  {a0 : Int32} {a1 : Int32} {a2 : Int32} {h : AH} {w : Int32} (hf : f_X11_within a0 a1 a2 h = some w) : CT yX11_within (wU yX11_within cX11_within 3 (some .boolean)) (rmD 1 0 0) 0 0 [tI a0, tI a1, tI a2] h (some (tI w), h) := by
  refine CT.of (cc := cX11_within) (nL := 3) (ret := (some .boolean)) (by decide) (by simp [lg_sl, vOf_cat, wOf]) ?_
  intro K X
  refine g_locs (lv' := [(0, tI a0), (1, tI a1), (2, tI a2)]) (fun q hq => hq) ?_
  unfold f_X11_within at hf
  refine g_iload_n X dX11_within_0 0 rfl ?_
  refine g_iload_n X dX11_within_1 1 rfl ?_
  refine g_icmplt (tgt := 14) X hf dX11_within_2 (by decide) (fun hf => ?_) (fun hf => ?_)
  · refine g_iconst (v := 0) X dX11_within_14 (by decide) ?_
    exact g_zreturn X (zP hf) (by decide) (by decide) (by decide) dX11_within_15
  · refine g_iload_n X dX11_within_5 0 rfl ?_
    refine g_iload_n X dX11_within_6 2 rfl ?_
    refine g_icmpgt (tgt := 14) X hf dX11_within_7 (by decide) (fun hf => ?_) (fun hf => ?_)
    · refine g_iconst (v := 0) X dX11_within_14 (by decide) ?_
      exact g_zreturn X (zP hf) (by decide) (by decide) (by decide) dX11_within_15
    · refine g_iconst (v := 1) X dX11_within_10 (by decide) ?_
      refine g_goto (tgt := 15) X dX11_within_11 (by decide) ?_
      exact g_zreturn X (zP hf) (by decide) (by decide) (by decide) dX11_within_15
def f_X11_isDay  (a0 : Int32) (h : AH) : Option Int32 :=
  (f_X11_within a0 0 9999 h).bind fun v1 =>
  rZ v1
set_option maxRecDepth 20000 in
theorem m_X11_isDay  {a0 : Int32} {h : AH} {w : Int32} (hf : f_X11_isDay a0 h = some w) : CT yX11_isDay (wU yX11_isDay cX11_isDay 1 (some .boolean)) (rmD 2 0 0) 0 0 [tI a0] h (some (tI w), h) := by
  refine CT.of (cc := cX11_isDay) (nL := 1) (ret := (some .boolean)) (by decide) (by simp [lg_sl, vOf_cat, wOf]) ?_
  intro K X
  refine g_locs (lv' := [(0, tI a0)]) (fun q hq => hq) ?_
  unfold f_X11_isDay at hf
  refine g_iload_n X dX11_isDay_0 0 rfl ?_
  refine g_iconst (v := 0) X dX11_isDay_1 (by decide) ?_
  refine g_sipush (v := 9999) X dX11_isDay_2 (by decide) ?_
  refine g_callS (n := 3) (av := [tI a0, tI 0, tI 9999]) (rest := []) X hf (fun v1 => (some (tI v1), h)) (fun _ q => m_X11_within q) (gdS tb_388 tb_389 tb_1 tb_390) rfl (by decide +kernel) rfl (by decide) (by decide) rfl (Nat.le_of_ble_eq_true rfl) dX11_isDay_5 (fun v1 hf => ?_)
  exact g_zreturn2 X hf (by decide) (by decide) dX11_isDay_8
def f_X11_isClub  (a0 : Int32) (h : AH) : Option Int32 :=
  (f_X11_within a0 0 5 h).bind fun v1 =>
  rZ v1
set_option maxRecDepth 20000 in
theorem m_X11_isClub  {a0 : Int32} {h : AH} {w : Int32} (hf : f_X11_isClub a0 h = some w) : CT yX11_isClub (wU yX11_isClub cX11_isClub 1 (some .boolean)) (rmD 2 0 0) 0 0 [tI a0] h (some (tI w), h) := by
  refine CT.of (cc := cX11_isClub) (nL := 1) (ret := (some .boolean)) (by decide) (by simp [lg_sl, vOf_cat, wOf]) ?_
  intro K X
  refine g_locs (lv' := [(0, tI a0)]) (fun q hq => hq) ?_
  unfold f_X11_isClub at hf
  refine g_iload_n X dX11_isClub_0 0 rfl ?_
  refine g_iconst (v := 0) X dX11_isClub_1 (by decide) ?_
  refine g_iconst (v := 5) X dX11_isClub_2 (by decide) ?_
  refine g_callS (n := 3) (av := [tI a0, tI 0, tI 5]) (rest := []) X hf (fun v1 => (some (tI v1), h)) (fun _ q => m_X11_within q) (gdS tb_388 tb_389 tb_1 tb_390) rfl (by decide +kernel) rfl (by decide) (by decide) rfl (Nat.le_of_ble_eq_true rfl) dX11_isClub_3 (fun v1 hf => ?_)
  exact g_zreturn2 X hf (by decide) (by decide) dX11_isClub_6
def b_X11_isName_15   (h : AH) : Nat → Int32 → Option Int32
  | 0 => fun _ => none
  | n + 1 => fun x1 =>
    if 0 < x1 then
      if (iRem x1 27) = 0 then
        some 0
      else
        b_X11_isName_15 h n (x1 / 27)
    else
      some 1
set_option maxRecDepth 20000 in
theorem w_X11_isName_15 {K : KT} {w : Int32} {h : AH}   (X : CX K cX11_isName RX11 TB (some .boolean) "isName" (rmD 1 0 0) 2 0 0)  : ∀ (n : Nat) (x1 : Int32), b_X11_isName_15 h n x1 = some w → GG K (some (tI w), h) 0 0 15 [(1, tI x1)] [] h := by
  intro n
  induction n with
  | zero =>
    intro x1 hf
    cases (show none = some w from hf)
  | succ n ih =>
    intro x1 hf
    rw [b_X11_isName_15] at hf
    refine g_iload_n X dX11_isName_15 0 rfl ?_
    refine g_ifle (tgt := 36) X hf dX11_isName_16 (by decide) (fun hf => ?_) (fun hf => ?_)
    · refine g_iload_n X dX11_isName_19 0 rfl ?_
      refine g_bipush (v := 27) X dX11_isName_20 (by decide) ?_
      refine g_iremc X dX11_isName_22 (by decide) ?_
      refine g_ifne (tgt := 28) X hf dX11_isName_23 (by decide) (fun hf => ?_) (fun hf => ?_)
      · refine g_iconst (v := 0) X dX11_isName_26 (by decide) ?_
        exact g_zreturn X (zP hf) (by decide) (by decide) (by decide) dX11_isName_27
      · refine g_iload_n X dX11_isName_28 0 rfl ?_
        refine g_bipush (v := 27) X dX11_isName_29 (by decide) ?_
        refine g_idivc X dX11_isName_31 (by decide) ?_
        refine g_istore_n (lv' := [(1, tI (x1 / 27))]) X dX11_isName_32 (by decide) (in_pick [0] rfl) ?_
        refine g_goto (tgt := 15) X dX11_isName_33 (by decide) ?_
        exact ih (x1 / 27) hf
    · refine g_iconst (v := 1) X dX11_isName_36 (by decide) ?_
      exact g_zreturn X (zP hf) (by decide) (by decide) (by decide) dX11_isName_37
def f_X11_isName  (a0 : Int32) (h : AH) : Option Int32 :=
  if a0 < 1 then
    some 0
  else
    if a0 < 387420489 then
      b_X11_isName_15 h FU a0
    else
      some 0
set_option maxRecDepth 20000 in
theorem m_X11_isName  {a0 : Int32} {h : AH} {w : Int32} (hf : f_X11_isName a0 h = some w) : CT yX11_isName (wU yX11_isName cX11_isName 2 (some .boolean)) (rmD 1 0 0) 0 0 [tI a0] h (some (tI w), h) := by
  refine CT.of (cc := cX11_isName) (nL := 2) (ret := (some .boolean)) (by decide) (by simp [lg_sl, vOf_cat, wOf]) ?_
  intro K X
  refine g_locs (lv' := [(0, tI a0)]) (fun q hq => hq) ?_
  unfold f_X11_isName at hf
  refine g_iload_n X dX11_isName_0 0 rfl ?_
  refine g_iconst (v := 1) X dX11_isName_1 (by decide) ?_
  refine g_icmplt (tgt := 11) X hf dX11_isName_2 (by decide) (fun hf => ?_) (fun hf => ?_)
  · refine g_iconst (v := 0) X dX11_isName_11 (by decide) ?_
    exact g_zreturn X (zP hf) (by decide) (by decide) (by decide) dX11_isName_12
  · refine g_iload_n X dX11_isName_5 0 rfl ?_
    refine g_ldc (v := 387420489) X dX11_isName_6 tb_436 ?_
    refine g_icmplt (tgt := 13) X hf dX11_isName_8 (by decide) (fun hf => ?_) (fun hf => ?_)
    · refine g_iload_n X dX11_isName_13 0 rfl ?_
      refine g_istore_n (lv' := [(0, tI a0), (1, tI a0)]) X dX11_isName_14 (by decide) (in_pick [1, 0] rfl) ?_
      refine g_locs (lv' := [(1, tI a0)]) (in_pick [1] rfl) ?_
      exact w_X11_isName_15 X FU a0 hf
    · refine g_iconst (v := 0) X dX11_isName_11 (by decide) ?_
      exact g_zreturn X (zP hf) (by decide) (by decide) (by decide) dX11_isName_12
def b_X11_days_81   (x0 : Option Nat) (x2 : Int32) (h : AH) : Option (Int32 × AH) :=
  (gR 11 0 h x0).bind fun v1 =>
  (pI 2 0 h v1 x2).bind fun h2 =>
  some (x2, h2)
set_option maxRecDepth 20000 in
theorem w_X11_days_81 {K : KT} {w : (Int32 × AH)}   (X : CX K cX11_days RX11 TB (some .int) "days" (rmD 4 0 0) 5 0 0)  (x0 : Option Nat) (x2 : Int32) (h : AH) (hf : b_X11_days_81 x0 x2 h = some w) : GG K (some (tI w.1), w.2) 0 0 81 [(0, tR x0), (2, tI x2)] [] h := by
  unfold b_X11_days_81 at hf
  refine g_aload_n X dX11_days_81 0 rfl ?_
  refine g_getR X hf (T := TX11) rfl (by decide) (by decide) in_RX11 tb_350 rfl dX11_days_82 (fun v1 hf => ?_)
  refine g_iload_n X dX11_days_85 1 rfl ?_
  refine g_putI X hf (T := TX2) rfl (by decide) (by decide) in_RX2 tyX2 tyX2_ok nmX2 tb_212 rfl rfl rfl dX11_days_86 (fun h2 hf => ?_)
  refine g_iload_n X dX11_days_89 1 rfl ?_
  exact g_ireturn X (zW hf) (by decide) (by decide) dX11_days_90
def b_X11_days_46    : Nat → Option Nat → Int32 → Int32 → Int32 → Int32 → AH → Option (Int32 × AH)
  | 0 => fun _ _ _ _ _ _ => none
  | n + 1 => fun x0 x1 x2 x3 x4 h =>
    if x4 < x1 then
      if x3 < 3 then
        (gR 11 0 h x0).bind fun v1 =>
        (ck 2 h v1 (f_X2_passDay v1 h)).bind fun p2 =>
        if p2.1 = 0 then
          b_X11_days_46 n x0 x1 x2 (x3 + 1) (x4 + 1) p2.2
        else
          b_X11_days_46 n x0 x1 x2 0 (x4 + 1) p2.2
      else
        b_X11_days_81 x0 x2 h
    else
      b_X11_days_81 x0 x2 h
set_option maxRecDepth 20000 in
theorem w_X11_days_46 {K : KT} {w : (Int32 × AH)}   (X : CX K cX11_days RX11 TB (some .int) "days" (rmD 4 0 0) 5 0 0)  : ∀ (n : Nat) (x0 : Option Nat) (x1 : Int32) (x2 : Int32) (x3 : Int32) (x4 : Int32) (h : AH), b_X11_days_46 n x0 x1 x2 x3 x4 h = some w → GG K (some (tI w.1), w.2) 0 0 46 [(0, tR x0), (1, tI x1), (2, tI x2), (3, tI x3), (4, tI x4)] [] h := by
  intro n
  induction n with
  | zero =>
    intro x0 x1 x2 x3 x4 h hf
    cases (show none = some w from hf)
  | succ n ih =>
    intro x0 x1 x2 x3 x4 h hf
    rw [b_X11_days_46] at hf
    refine g_iload X dX11_days_46 4 rfl ?_
    refine g_iload_n X dX11_days_48 1 rfl ?_
    refine g_icmpge (tgt := 81) X hf dX11_days_49 (by decide) (fun hf => ?_) (fun hf => ?_)
    · refine g_iload_n X dX11_days_52 3 rfl ?_
      refine g_iconst (v := 3) X dX11_days_53 (by decide) ?_
      refine g_icmpge (tgt := 81) X hf dX11_days_54 (by decide) (fun hf => ?_) (fun hf => ?_)
      · refine g_aload_n X dX11_days_57 0 rfl ?_
        refine g_getR X hf (T := TX11) rfl (by decide) (by decide) in_RX11 tb_350 rfl dX11_days_58 (fun v1 hf => ?_)
        refine g_callV (n := 0) (av := []) (rest := []) (k := 2) X hf (fun p2 => (some (tI p2.1), p2.2)) (fun _ q => m_X2_passDay q) (gdV tb_391 tb_392 tb_393 tb_2 tb_394) rfl (by decide +kernel) rfl (by decide) rfl (by decide) (by decide) rfl (Nat.le_of_ble_eq_true rfl) dX11_days_61 (fun p2 hf => ?_)
        refine g_ifeq (tgt := 71) X hf dX11_days_64 (by decide) (fun hf => ?_) (fun hf => ?_)
        · refine g_iload_n X dX11_days_71 3 rfl ?_
          refine g_iconst (v := 1) X dX11_days_72 (by decide) ?_
          refine g_iadd X dX11_days_73 ?_
          refine g_istore_n (lv' := [(0, tR x0), (1, tI x1), (2, tI x2), (3, tI (x3 + 1)), (4, tI x4)]) X dX11_days_74 (by decide) (in_pick [1, 2, 3, 0, 4] rfl) ?_
          refine g_iinc (v := (x4 + 1)) (lv' := [(0, tR x0), (1, tI x1), (2, tI x2), (3, tI (x3 + 1)), (4, tI (x4 + 1))]) X dX11_days_75 4 rfl (by rfl) (by decide) (in_pick [1, 2, 3, 4, 0] rfl) ?_
          refine g_goto (tgt := 46) X dX11_days_78 (by decide) ?_
          exact ih x0 x1 x2 (x3 + 1) (x4 + 1) p2.2 hf
        · refine g_iconst (v := 0) X dX11_days_67 (by decide) ?_
          refine g_goto (tgt := 74) X dX11_days_68 (by decide) ?_
          refine g_istore_n (lv' := [(0, tR x0), (1, tI x1), (2, tI x2), (3, tI 0), (4, tI x4)]) X dX11_days_74 (by decide) (in_pick [1, 2, 3, 0, 4] rfl) ?_
          refine g_iinc (v := (x4 + 1)) (lv' := [(0, tR x0), (1, tI x1), (2, tI x2), (3, tI 0), (4, tI (x4 + 1))]) X dX11_days_75 4 rfl (by rfl) (by decide) (in_pick [1, 2, 3, 4, 0] rfl) ?_
          refine g_goto (tgt := 46) X dX11_days_78 (by decide) ?_
          exact ih x0 x1 x2 0 (x4 + 1) p2.2 hf
      · refine g_locs (lv' := [(0, tR x0), (2, tI x2)]) (in_pick [0, 2] rfl) ?_
        exact w_X11_days_81 X x0 x2 h hf
    · refine g_locs (lv' := [(0, tR x0), (2, tI x2)]) (in_pick [0, 2] rfl) ?_
      exact w_X11_days_81 X x0 x2 h hf
def f_X11_days  (a0 : Option Nat) (a1 : Int32) (h : AH) : Option (Int32 × AH) :=
  (f_X11_within a1 1 400 h).bind fun v1 =>
  if v1 = 0 then
    some ((-1), h)
  else
    (gR 11 0 h a0).bind fun v2 =>
    (gI 2 0 h v2).bind fun v3 =>
    if (9999 - a1) < v3 then
      some ((-4), h)
    else
      (gR 11 0 h a0).bind fun v4 =>
      (gI 2 0 h v4).bind fun v5 =>
      b_X11_days_46 FU a0 a1 (v5 + a1) 0 0 h
set_option maxRecDepth 20000 in
theorem m_X11_days  {a0 : Option Nat} {a1 : Int32} {h : AH} {w : (Int32 × AH)} (hf : f_X11_days a0 a1 h = some w) : CT yX11_days (wU yX11_days cX11_days 5 (some .int)) (rmD 4 0 0) 0 0 [tR a0, tI a1] h (some (tI w.1), w.2) := by
  refine CT.of (cc := cX11_days) (nL := 5) (ret := (some .int)) (by decide) (by simp [lg_sl, vOf_cat, wOf]) ?_
  intro K X
  refine g_locs (lv' := [(0, tR a0), (1, tI a1)]) (fun q hq => hq) ?_
  unfold f_X11_days at hf
  refine g_iload_n X dX11_days_0 1 rfl ?_
  refine g_iconst (v := 1) X dX11_days_1 (by decide) ?_
  refine g_sipush (v := 400) X dX11_days_2 (by decide) ?_
  refine g_callS (n := 3) (av := [tI a1, tI 1, tI 400]) (rest := []) X hf (fun v1 => (some (tI v1), h)) (fun _ q => m_X11_within q) (gdS tb_388 tb_389 tb_1 tb_390) rfl (by decide +kernel) rfl (by decide) (by decide) rfl (Nat.le_of_ble_eq_true rfl) dX11_days_5 (fun v1 hf => ?_)
  refine g_ifne (tgt := 13) X hf dX11_days_8 (by decide) (fun hf => ?_) (fun hf => ?_)
  · refine g_iconst (v := (-1)) X dX11_days_11 (by decide) ?_
    exact g_ireturn X (zW hf) (by decide) (by decide) dX11_days_12
  · refine g_aload_n X dX11_days_13 0 rfl ?_
    refine g_getR X hf (T := TX11) rfl (by decide) (by decide) in_RX11 tb_350 rfl dX11_days_14 (fun v2 hf => ?_)
    refine g_getI X hf (T := TX2) rfl (by decide) (by decide) in_RX2 tb_212 rfl dX11_days_17 (fun v3 hf => ?_)
    refine g_sipush (v := 9999) X dX11_days_20 (by decide) ?_
    refine g_iload_n X dX11_days_23 1 rfl ?_
    refine g_isub X dX11_days_24 ?_
    refine g_icmple (tgt := 31) X hf dX11_days_25 (by decide) (fun hf => ?_) (fun hf => ?_)
    · refine g_bipush (v := (-4)) X dX11_days_28 (by decide) ?_
      exact g_ireturn X (zW hf) (by decide) (by decide) dX11_days_30
    · refine g_aload_n X dX11_days_31 0 rfl ?_
      refine g_getR X hf (T := TX11) rfl (by decide) (by decide) in_RX11 tb_350 rfl dX11_days_32 (fun v4 hf => ?_)
      refine g_getI X hf (T := TX2) rfl (by decide) (by decide) in_RX2 tb_212 rfl dX11_days_35 (fun v5 hf => ?_)
      refine g_iload_n X dX11_days_38 1 rfl ?_
      refine g_iadd X dX11_days_39 ?_
      refine g_istore_n (lv' := [(0, tR a0), (1, tI a1), (2, tI (v5 + a1))]) X dX11_days_40 (by decide) (in_pick [1, 2, 0] rfl) ?_
      refine g_iconst (v := 0) X dX11_days_41 (by decide) ?_
      refine g_istore_n (lv' := [(0, tR a0), (1, tI a1), (2, tI (v5 + a1)), (3, tI 0)]) X dX11_days_42 (by decide) (in_pick [1, 2, 3, 0] rfl) ?_
      refine g_iconst (v := 0) X dX11_days_43 (by decide) ?_
      refine g_istore (lv' := [(0, tR a0), (1, tI a1), (2, tI (v5 + a1)), (3, tI 0), (4, tI 0)]) X dX11_days_44 (by decide) (in_pick [1, 2, 3, 4, 0] rfl) ?_
      exact w_X11_days_46 X FU a0 a1 (v5 + a1) 0 0 h hf
def f_X11_wet  (a0 : Option Nat) (a1 : Int32) (h : AH) : Option (Int32 × AH) :=
  (f_X11_isDay a1 h).bind fun v1 =>
  if v1 = 0 then
    some ((-1), h)
  else
    (gR 11 0 h a0).bind fun v2 =>
    (ck 2 h v2 (f_X2_isWet v2 a1 h)).bind fun v3 =>
    if v3 = 0 then
      (gR 11 0 h a0).bind fun v4 =>
      (gI 2 2 h v4).bind fun v5 =>
      if v5 < 20 then
        (gR 11 0 h a0).bind fun v6 =>
        (gR 2 1 h v6).bind fun v7 =>
        (gR 11 0 h a0).bind fun v8 =>
        (gI 2 2 h v8).bind fun v9 =>
        (sI h v7 v9 a1).bind fun h10 =>
        (gR 11 0 h10 a0).bind fun v11 =>
        (gI 2 2 h10 v11).bind fun v12 =>
        (pI 2 2 h10 v11 (v12 + 1)).bind fun h13 =>
        (gR 11 0 h13 a0).bind fun v14 =>
        (gI 2 2 h13 v14).bind fun v15 =>
        some (v15, h13)
      else
        some ((-2), h)
    else
      some ((-4), h)
set_option maxRecDepth 20000 in
theorem m_X11_wet  {a0 : Option Nat} {a1 : Int32} {h : AH} {w : (Int32 × AH)} (hf : f_X11_wet a0 a1 h = some w) : CT yX11_wet (wU yX11_wet cX11_wet 2 (some .int)) (rmD 3 0 0) 0 0 [tR a0, tI a1] h (some (tI w.1), w.2) := by
  refine CT.of (cc := cX11_wet) (nL := 2) (ret := (some .int)) (by decide) (by simp [lg_sl, vOf_cat, wOf]) ?_
  intro K X
  refine g_locs (lv' := [(0, tR a0), (1, tI a1)]) (fun q hq => hq) ?_
  unfold f_X11_wet at hf
  refine g_iload_n X dX11_wet_0 1 rfl ?_
  refine g_callS (n := 1) (av := [tI a1]) (rest := []) X hf (fun v1 => (some (tI v1), h)) (fun _ q => m_X11_isDay q) (gdS tb_406 tb_407 tb_1 tb_408) rfl (by decide +kernel) rfl (by decide) (by decide) rfl (Nat.le_of_ble_eq_true rfl) dX11_wet_1 (fun v1 hf => ?_)
  refine g_ifne (tgt := 9) X hf dX11_wet_4 (by decide) (fun hf => ?_) (fun hf => ?_)
  · refine g_iconst (v := (-1)) X dX11_wet_7 (by decide) ?_
    exact g_ireturn X (zW hf) (by decide) (by decide) dX11_wet_8
  · refine g_aload_n X dX11_wet_9 0 rfl ?_
    refine g_getR X hf (T := TX11) rfl (by decide) (by decide) in_RX11 tb_350 rfl dX11_wet_10 (fun v2 hf => ?_)
    refine g_iload_n X dX11_wet_13 1 rfl ?_
    refine g_callV (n := 1) (av := [tI a1]) (rest := []) (k := 2) X hf (fun v3 => (some (tI v3), h)) (fun _ q => m_X2_isWet q) (gdV tb_409 tb_410 tb_411 tb_2 tb_412) rfl (by decide +kernel) rfl (by decide) rfl (by decide) (by decide) rfl (Nat.le_of_ble_eq_true rfl) dX11_wet_14 (fun v3 hf => ?_)
    refine g_ifeq (tgt := 23) X hf dX11_wet_17 (by decide) (fun hf => ?_) (fun hf => ?_)
    · refine g_aload_n X dX11_wet_23 0 rfl ?_
      refine g_getR X hf (T := TX11) rfl (by decide) (by decide) in_RX11 tb_350 rfl dX11_wet_24 (fun v4 hf => ?_)
      refine g_getI X hf (T := TX2) rfl (by decide) (by decide) in_RX2 tb_216 rfl dX11_wet_27 (fun v5 hf => ?_)
      refine g_bipush (v := 20) X dX11_wet_30 (by decide) ?_
      refine g_icmplt (tgt := 38) X hf dX11_wet_32 (by decide) (fun hf => ?_) (fun hf => ?_)
      · refine g_aload_n X dX11_wet_38 0 rfl ?_
        refine g_getR X hf (T := TX11) rfl (by decide) (by decide) in_RX11 tb_350 rfl dX11_wet_39 (fun v6 hf => ?_)
        refine g_getR X hf (T := TX2) rfl (by decide) (by decide) in_RX2 tb_214 rfl dX11_wet_42 (fun v7 hf => ?_)
        refine g_aload_n X dX11_wet_45 0 rfl ?_
        refine g_getR X hf (T := TX11) rfl (by decide) (by decide) in_RX11 tb_350 rfl dX11_wet_46 (fun v8 hf => ?_)
        refine g_getI X hf (T := TX2) rfl (by decide) (by decide) in_RX2 tb_216 rfl dX11_wet_49 (fun v9 hf => ?_)
        refine g_iload_n X dX11_wet_52 1 rfl ?_
        refine g_iastore X hf dX11_wet_53 (fun h10 hf => ?_)
        refine g_aload_n X dX11_wet_54 0 rfl ?_
        refine g_getR X hf (T := TX11) rfl (by decide) (by decide) in_RX11 tb_350 rfl dX11_wet_55 (fun v11 hf => ?_)
        refine g_dup X dX11_wet_58 rfl ?_
        refine g_getI X hf (T := TX2) rfl (by decide) (by decide) in_RX2 tb_216 rfl dX11_wet_59 (fun v12 hf => ?_)
        refine g_iconst (v := 1) X dX11_wet_62 (by decide) ?_
        refine g_iadd X dX11_wet_63 ?_
        refine g_putI X hf (T := TX2) rfl (by decide) (by decide) in_RX2 tyX2 tyX2_ok nmX2 tb_216 rfl rfl rfl dX11_wet_64 (fun h13 hf => ?_)
        refine g_aload_n X dX11_wet_67 0 rfl ?_
        refine g_getR X hf (T := TX11) rfl (by decide) (by decide) in_RX11 tb_350 rfl dX11_wet_68 (fun v14 hf => ?_)
        refine g_getI X hf (T := TX2) rfl (by decide) (by decide) in_RX2 tb_216 rfl dX11_wet_71 (fun v15 hf => ?_)
        exact g_ireturn X (zW hf) (by decide) (by decide) dX11_wet_74
      · refine g_bipush (v := (-2)) X dX11_wet_35 (by decide) ?_
        exact g_ireturn X (zW hf) (by decide) (by decide) dX11_wet_37
    · refine g_bipush (v := (-4)) X dX11_wet_20 (by decide) ?_
      exact g_ireturn X (zW hf) (by decide) (by decide) dX11_wet_22
def f_X11_ward  (a0 : Option Nat) (a1 : Int32) (a2 : Int32) (h : AH) : Option (Int32 × AH) :=
  (f_X11_within a1 0 4 h).bind fun v1 =>
  if v1 = 0 then
    some ((-1), h)
  else
    (f_X11_within a2 0 600 h).bind fun v2 =>
    if v2 = 0 then
      some ((-1), h)
    else
      (gR 11 0 h a0).bind fun v3 =>
      (gI 2 4 h v3).bind fun v4 =>
      if v4 < 8 then
        (gR 11 0 h a0).bind fun v5 =>
        (gR 2 3 h v5).bind fun v6 =>
        (gR 11 0 h a0).bind fun v7 =>
        (gI 2 4 h v7).bind fun v8 =>
        (aR h v6 v8).bind fun v9 =>
        (ck 9 h v9 (f_X9_begin v9 a1 a2 h)).bind fun h10 =>
        (gR 11 0 h10 a0).bind fun v11 =>
        (gI 2 4 h10 v11).bind fun v12 =>
        (pI 2 4 h10 v11 (v12 + 1)).bind fun h13 =>
        (gR 11 0 h13 a0).bind fun v14 =>
        (gI 2 4 h13 v14).bind fun v15 =>
        some ((v15 - 1), h13)
      else
        some ((-2), h)
set_option maxRecDepth 20000 in
theorem m_X11_ward  {a0 : Option Nat} {a1 : Int32} {a2 : Int32} {h : AH} {w : (Int32 × AH)} (hf : f_X11_ward a0 a1 a2 h = some w) : CT yX11_ward (wU yX11_ward cX11_ward 3 (some .int)) (rmD 2 0 0) 0 0 [tR a0, tI a1, tI a2] h (some (tI w.1), w.2) := by
  refine CT.of (cc := cX11_ward) (nL := 3) (ret := (some .int)) (by decide) (by simp [lg_sl, vOf_cat, wOf]) ?_
  intro K X
  refine g_locs (lv' := [(0, tR a0), (1, tI a1), (2, tI a2)]) (fun q hq => hq) ?_
  unfold f_X11_ward at hf
  refine g_iload_n X dX11_ward_0 1 rfl ?_
  refine g_iconst (v := 0) X dX11_ward_1 (by decide) ?_
  refine g_iconst (v := 4) X dX11_ward_2 (by decide) ?_
  refine g_callS (n := 3) (av := [tI a1, tI 0, tI 4]) (rest := []) X hf (fun v1 => (some (tI v1), h)) (fun _ q => m_X11_within q) (gdS tb_388 tb_389 tb_1 tb_390) rfl (by decide +kernel) rfl (by decide) (by decide) rfl (Nat.le_of_ble_eq_true rfl) dX11_ward_3 (fun v1 hf => ?_)
  refine g_ifeq (tgt := 20) X hf dX11_ward_6 (by decide) (fun hf => ?_) (fun hf => ?_)
  · refine g_iconst (v := (-1)) X dX11_ward_20 (by decide) ?_
    exact g_ireturn X (zW hf) (by decide) (by decide) dX11_ward_21
  · refine g_iload_n X dX11_ward_9 2 rfl ?_
    refine g_iconst (v := 0) X dX11_ward_10 (by decide) ?_
    refine g_sipush (v := 600) X dX11_ward_11 (by decide) ?_
    refine g_callS (n := 3) (av := [tI a2, tI 0, tI 600]) (rest := []) X hf (fun v2 => (some (tI v2), h)) (fun _ q => m_X11_within q) (gdS tb_388 tb_389 tb_1 tb_390) rfl (by decide +kernel) rfl (by decide) (by decide) rfl (Nat.le_of_ble_eq_true rfl) dX11_ward_14 (fun v2 hf => ?_)
    refine g_ifne (tgt := 22) X hf dX11_ward_17 (by decide) (fun hf => ?_) (fun hf => ?_)
    · refine g_iconst (v := (-1)) X dX11_ward_20 (by decide) ?_
      exact g_ireturn X (zW hf) (by decide) (by decide) dX11_ward_21
    · refine g_aload_n X dX11_ward_22 0 rfl ?_
      refine g_getR X hf (T := TX11) rfl (by decide) (by decide) in_RX11 tb_350 rfl dX11_ward_23 (fun v3 hf => ?_)
      refine g_getI X hf (T := TX2) rfl (by decide) (by decide) in_RX2 tb_220 rfl dX11_ward_26 (fun v4 hf => ?_)
      refine g_bipush (v := 8) X dX11_ward_29 (by decide) ?_
      refine g_icmplt (tgt := 37) X hf dX11_ward_31 (by decide) (fun hf => ?_) (fun hf => ?_)
      · refine g_aload_n X dX11_ward_37 0 rfl ?_
        refine g_getR X hf (T := TX11) rfl (by decide) (by decide) in_RX11 tb_350 rfl dX11_ward_38 (fun v5 hf => ?_)
        refine g_getR X hf (T := TX2) rfl (by decide) (by decide) in_RX2 tb_218 rfl dX11_ward_41 (fun v6 hf => ?_)
        refine g_aload_n X dX11_ward_44 0 rfl ?_
        refine g_getR X hf (T := TX11) rfl (by decide) (by decide) in_RX11 tb_350 rfl dX11_ward_45 (fun v7 hf => ?_)
        refine g_getI X hf (T := TX2) rfl (by decide) (by decide) in_RX2 tb_220 rfl dX11_ward_48 (fun v8 hf => ?_)
        refine g_aaload X hf dX11_ward_51 (fun v9 hf => ?_)
        refine g_iload_n X dX11_ward_52 1 rfl ?_
        refine g_iload_n X dX11_ward_53 2 rfl ?_
        refine g_callV (n := 2) (av := [tI a1, tI a2]) (rest := []) (k := 9) X hf (fun h10 => (none, h10)) (fun _ q => m_X9_begin q) (gdV tb_417 tb_418 tb_419 tb_3 tb_420) rfl (by decide +kernel) rfl (by decide) rfl (by decide) (by decide) rfl (Nat.le_of_ble_eq_true rfl) dX11_ward_54 (fun h10 hf => ?_)
        refine g_aload_n X dX11_ward_57 0 rfl ?_
        refine g_getR X hf (T := TX11) rfl (by decide) (by decide) in_RX11 tb_350 rfl dX11_ward_58 (fun v11 hf => ?_)
        refine g_dup X dX11_ward_61 rfl ?_
        refine g_getI X hf (T := TX2) rfl (by decide) (by decide) in_RX2 tb_220 rfl dX11_ward_62 (fun v12 hf => ?_)
        refine g_iconst (v := 1) X dX11_ward_65 (by decide) ?_
        refine g_iadd X dX11_ward_66 ?_
        refine g_putI X hf (T := TX2) rfl (by decide) (by decide) in_RX2 tyX2 tyX2_ok nmX2 tb_220 rfl rfl rfl dX11_ward_67 (fun h13 hf => ?_)
        refine g_aload_n X dX11_ward_70 0 rfl ?_
        refine g_getR X hf (T := TX11) rfl (by decide) (by decide) in_RX11 tb_350 rfl dX11_ward_71 (fun v14 hf => ?_)
        refine g_getI X hf (T := TX2) rfl (by decide) (by decide) in_RX2 tb_220 rfl dX11_ward_74 (fun v15 hf => ?_)
        refine g_iconst (v := 1) X dX11_ward_77 (by decide) ?_
        refine g_isub X dX11_ward_78 ?_
        exact g_ireturn X (zW hf) (by decide) (by decide) dX11_ward_79
      · refine g_bipush (v := (-2)) X dX11_ward_34 (by decide) ?_
        exact g_ireturn X (zW hf) (by decide) (by decide) dX11_ward_36
def f_X11_harvest  (a0 : Option Nat) (a1 : Int32) (a2 : Int32) (a3 : Int32) (h : AH) : Option (Int32 × AH) :=
  (gR 11 0 h a0).bind fun v1 =>
  (ck 2 h v1 (f_X2_hasWard v1 a1 h)).bind fun v2 =>
  if v2 = 0 then
    some ((-1), h)
  else
    (f_X11_isDay a2 h).bind fun v3 =>
    if v3 = 0 then
      some ((-1), h)
    else
      (f_X11_isDay a3 h).bind fun v4 =>
      if v4 = 0 then
        some ((-1), h)
      else
        if a3 < a2 then
          some ((-1), h)
        else
          (gR 11 0 h a0).bind fun v5 =>
          (gR 2 3 h v5).bind fun v6 =>
          (aR h v6 a1).bind fun v7 =>
          (pI 9 2 h v7 a2).bind fun h8 =>
          (gR 11 0 h8 a0).bind fun v9 =>
          (gR 2 3 h8 v9).bind fun v10 =>
          (aR h8 v10 a1).bind fun v11 =>
          (pI 9 3 h8 v11 a3).bind fun h12 =>
          some (1, h12)
set_option maxRecDepth 20000 in
theorem m_X11_harvest  {a0 : Option Nat} {a1 : Int32} {a2 : Int32} {a3 : Int32} {h : AH} {w : (Int32 × AH)} (hf : f_X11_harvest a0 a1 a2 a3 h = some w) : CT yX11_harvest (wU yX11_harvest cX11_harvest 4 (some .int)) (rmD 3 0 0) 0 0 [tR a0, tI a1, tI a2, tI a3] h (some (tI w.1), w.2) := by
  refine CT.of (cc := cX11_harvest) (nL := 4) (ret := (some .int)) (by decide) (by simp [lg_sl, vOf_cat, wOf]) ?_
  intro K X
  refine g_locs (lv' := [(0, tR a0), (1, tI a1), (2, tI a2), (3, tI a3)]) (fun q hq => hq) ?_
  unfold f_X11_harvest at hf
  refine g_aload_n X dX11_harvest_0 0 rfl ?_
  refine g_getR X hf (T := TX11) rfl (by decide) (by decide) in_RX11 tb_350 rfl dX11_harvest_1 (fun v1 hf => ?_)
  refine g_iload_n X dX11_harvest_4 1 rfl ?_
  refine g_callV (n := 1) (av := [tI a1]) (rest := []) (k := 2) X hf (fun v2 => (some (tI v2), h)) (fun _ q => m_X2_hasWard q) (gdV tb_425 tb_426 tb_427 tb_2 tb_428) rfl (by decide +kernel) rfl (by decide) rfl (by decide) (by decide) rfl (Nat.le_of_ble_eq_true rfl) dX11_harvest_5 (fun v2 hf => ?_)
  refine g_ifeq (tgt := 30) X hf dX11_harvest_8 (by decide) (fun hf => ?_) (fun hf => ?_)
  · refine g_iconst (v := (-1)) X dX11_harvest_30 (by decide) ?_
    exact g_ireturn X (zW hf) (by decide) (by decide) dX11_harvest_31
  · refine g_iload_n X dX11_harvest_11 2 rfl ?_
    refine g_callS (n := 1) (av := [tI a2]) (rest := []) X hf (fun v3 => (some (tI v3), h)) (fun _ q => m_X11_isDay q) (gdS tb_406 tb_407 tb_1 tb_408) rfl (by decide +kernel) rfl (by decide) (by decide) rfl (Nat.le_of_ble_eq_true rfl) dX11_harvest_12 (fun v3 hf => ?_)
    refine g_ifeq (tgt := 30) X hf dX11_harvest_15 (by decide) (fun hf => ?_) (fun hf => ?_)
    · refine g_iconst (v := (-1)) X dX11_harvest_30 (by decide) ?_
      exact g_ireturn X (zW hf) (by decide) (by decide) dX11_harvest_31
    · refine g_iload_n X dX11_harvest_18 3 rfl ?_
      refine g_callS (n := 1) (av := [tI a3]) (rest := []) X hf (fun v4 => (some (tI v4), h)) (fun _ q => m_X11_isDay q) (gdS tb_406 tb_407 tb_1 tb_408) rfl (by decide +kernel) rfl (by decide) (by decide) rfl (Nat.le_of_ble_eq_true rfl) dX11_harvest_19 (fun v4 hf => ?_)
      refine g_ifeq (tgt := 30) X hf dX11_harvest_22 (by decide) (fun hf => ?_) (fun hf => ?_)
      · refine g_iconst (v := (-1)) X dX11_harvest_30 (by decide) ?_
        exact g_ireturn X (zW hf) (by decide) (by decide) dX11_harvest_31
      · refine g_iload_n X dX11_harvest_25 3 rfl ?_
        refine g_iload_n X dX11_harvest_26 2 rfl ?_
        refine g_icmpge (tgt := 32) X hf dX11_harvest_27 (by decide) (fun hf => ?_) (fun hf => ?_)
        · refine g_iconst (v := (-1)) X dX11_harvest_30 (by decide) ?_
          exact g_ireturn X (zW hf) (by decide) (by decide) dX11_harvest_31
        · refine g_aload_n X dX11_harvest_32 0 rfl ?_
          refine g_getR X hf (T := TX11) rfl (by decide) (by decide) in_RX11 tb_350 rfl dX11_harvest_33 (fun v5 hf => ?_)
          refine g_getR X hf (T := TX2) rfl (by decide) (by decide) in_RX2 tb_218 rfl dX11_harvest_36 (fun v6 hf => ?_)
          refine g_iload_n X dX11_harvest_39 1 rfl ?_
          refine g_aaload X hf dX11_harvest_40 (fun v7 hf => ?_)
          refine g_iload_n X dX11_harvest_41 2 rfl ?_
          refine g_putI X hf (T := TX9) rfl (by decide) (by decide) in_RX9 tyX9 tyX9_ok nmX9 tb_57 rfl rfl rfl dX11_harvest_42 (fun h8 hf => ?_)
          refine g_aload_n X dX11_harvest_45 0 rfl ?_
          refine g_getR X hf (T := TX11) rfl (by decide) (by decide) in_RX11 tb_350 rfl dX11_harvest_46 (fun v9 hf => ?_)
          refine g_getR X hf (T := TX2) rfl (by decide) (by decide) in_RX2 tb_218 rfl dX11_harvest_49 (fun v10 hf => ?_)
          refine g_iload_n X dX11_harvest_52 1 rfl ?_
          refine g_aaload X hf dX11_harvest_53 (fun v11 hf => ?_)
          refine g_iload_n X dX11_harvest_54 3 rfl ?_
          refine g_putI X hf (T := TX9) rfl (by decide) (by decide) in_RX9 tyX9 tyX9_ok nmX9 tb_59 rfl rfl rfl dX11_harvest_55 (fun h12 hf => ?_)
          refine g_iconst (v := 1) X dX11_harvest_58 (by decide) ?_
          exact g_ireturn X (zW hf) (by decide) (by decide) dX11_harvest_59
def f_X11_man  (a0 : Option Nat) (a1 : Int32) (a2 : Int32) (a3 : Int32) (a4 : Int32) (h : AH) : Option (Int32 × AH) :=
  (gR 11 0 h a0).bind fun v1 =>
  (ck 2 h v1 (f_X2_hasWard v1 a1 h)).bind fun v2 =>
  if v2 = 0 then
    some ((-1), h)
  else
    (f_X11_within a2 (-1) 5 h).bind fun v3 =>
    if v3 = 0 then
      some ((-1), h)
    else
      (f_X11_isName a3 h).bind fun v4 =>
      if v4 = 0 then
        some ((-1), h)
      else
        (f_X11_isName a4 h).bind fun v5 =>
        if v5 = 0 then
          some ((-1), h)
        else
          (gR 11 0 h a0).bind fun v6 =>
          (gI 2 6 h v6).bind fun v7 =>
          if v7 < 16 then
            (gR 11 0 h a0).bind fun v8 =>
            (ck 2 h v8 (f_X2_addMan v8 a1 a2 a3 a4 h)).bind fun p9 =>
            some (p9.1, p9.2)
          else
            some ((-2), h)
set_option maxRecDepth 20000 in
theorem m_X11_man  {a0 : Option Nat} {a1 : Int32} {a2 : Int32} {a3 : Int32} {a4 : Int32} {h : AH} {w : (Int32 × AH)} (hf : f_X11_man a0 a1 a2 a3 a4 h = some w) : CT yX11_man (wU yX11_man cX11_man 5 (some .int)) (rmD 4 0 0) 0 0 [tR a0, tI a1, tI a2, tI a3, tI a4] h (some (tI w.1), w.2) := by
  refine CT.of (cc := cX11_man) (nL := 5) (ret := (some .int)) (by decide) (by simp [lg_sl, vOf_cat, wOf]) ?_
  intro K X
  refine g_locs (lv' := [(0, tR a0), (1, tI a1), (2, tI a2), (3, tI a3), (4, tI a4)]) (fun q hq => hq) ?_
  unfold f_X11_man at hf
  refine g_aload_n X dX11_man_0 0 rfl ?_
  refine g_getR X hf (T := TX11) rfl (by decide) (by decide) in_RX11 tb_350 rfl dX11_man_1 (fun v1 hf => ?_)
  refine g_iload_n X dX11_man_4 1 rfl ?_
  refine g_callV (n := 1) (av := [tI a1]) (rest := []) (k := 2) X hf (fun v2 => (some (tI v2), h)) (fun _ q => m_X2_hasWard q) (gdV tb_425 tb_426 tb_427 tb_2 tb_428) rfl (by decide +kernel) rfl (by decide) rfl (by decide) (by decide) rfl (Nat.le_of_ble_eq_true rfl) dX11_man_5 (fun v2 hf => ?_)
  refine g_ifeq (tgt := 35) X hf dX11_man_8 (by decide) (fun hf => ?_) (fun hf => ?_)
  · refine g_iconst (v := (-1)) X dX11_man_35 (by decide) ?_
    exact g_ireturn X (zW hf) (by decide) (by decide) dX11_man_36
  · refine g_iload_n X dX11_man_11 2 rfl ?_
    refine g_iconst (v := (-1)) X dX11_man_12 (by decide) ?_
    refine g_iconst (v := 5) X dX11_man_13 (by decide) ?_
    refine g_callS (n := 3) (av := [tI a2, tI (-1), tI 5]) (rest := []) X hf (fun v3 => (some (tI v3), h)) (fun _ q => m_X11_within q) (gdS tb_388 tb_389 tb_1 tb_390) rfl (by decide +kernel) rfl (by decide) (by decide) rfl (Nat.le_of_ble_eq_true rfl) dX11_man_14 (fun v3 hf => ?_)
    refine g_ifeq (tgt := 35) X hf dX11_man_17 (by decide) (fun hf => ?_) (fun hf => ?_)
    · refine g_iconst (v := (-1)) X dX11_man_35 (by decide) ?_
      exact g_ireturn X (zW hf) (by decide) (by decide) dX11_man_36
    · refine g_iload_n X dX11_man_20 3 rfl ?_
      refine g_callS (n := 1) (av := [tI a3]) (rest := []) X hf (fun v4 => (some (tI v4), h)) (fun _ q => m_X11_isName q) (gdS tb_433 tb_434 tb_1 tb_435) rfl (by decide +kernel) rfl (by decide) (by decide) rfl (Nat.le_of_ble_eq_true rfl) dX11_man_21 (fun v4 hf => ?_)
      refine g_ifeq (tgt := 35) X hf dX11_man_24 (by decide) (fun hf => ?_) (fun hf => ?_)
      · refine g_iconst (v := (-1)) X dX11_man_35 (by decide) ?_
        exact g_ireturn X (zW hf) (by decide) (by decide) dX11_man_36
      · refine g_iload X dX11_man_27 4 rfl ?_
        refine g_callS (n := 1) (av := [tI a4]) (rest := []) X hf (fun v5 => (some (tI v5), h)) (fun _ q => m_X11_isName q) (gdS tb_433 tb_434 tb_1 tb_435) rfl (by decide +kernel) rfl (by decide) (by decide) rfl (Nat.le_of_ble_eq_true rfl) dX11_man_29 (fun v5 hf => ?_)
        refine g_ifne (tgt := 37) X hf dX11_man_32 (by decide) (fun hf => ?_) (fun hf => ?_)
        · refine g_iconst (v := (-1)) X dX11_man_35 (by decide) ?_
          exact g_ireturn X (zW hf) (by decide) (by decide) dX11_man_36
        · refine g_aload_n X dX11_man_37 0 rfl ?_
          refine g_getR X hf (T := TX11) rfl (by decide) (by decide) in_RX11 tb_350 rfl dX11_man_38 (fun v6 hf => ?_)
          refine g_getI X hf (T := TX2) rfl (by decide) (by decide) in_RX2 tb_224 rfl dX11_man_41 (fun v7 hf => ?_)
          refine g_bipush (v := 16) X dX11_man_44 (by decide) ?_
          refine g_icmplt (tgt := 52) X hf dX11_man_46 (by decide) (fun hf => ?_) (fun hf => ?_)
          · refine g_aload_n X dX11_man_52 0 rfl ?_
            refine g_getR X hf (T := TX11) rfl (by decide) (by decide) in_RX11 tb_350 rfl dX11_man_53 (fun v8 hf => ?_)
            refine g_iload_n X dX11_man_56 1 rfl ?_
            refine g_iload_n X dX11_man_57 2 rfl ?_
            refine g_iload_n X dX11_man_58 3 rfl ?_
            refine g_iload X dX11_man_59 4 rfl ?_
            refine g_callV (n := 4) (av := [tI a1, tI a2, tI a3, tI a4]) (rest := []) (k := 2) X hf (fun p9 => (some (tI p9.1), p9.2)) (fun _ q => m_X2_addMan q) (gdV tb_437 tb_438 tb_439 tb_2 tb_440) rfl (by decide +kernel) rfl (by decide) rfl (by decide) (by decide) rfl (Nat.le_of_ble_eq_true rfl) dX11_man_61 (fun p9 hf => ?_)
            exact g_ireturn X (zW hf) (by decide) (by decide) dX11_man_64
          · refine g_bipush (v := (-2)) X dX11_man_49 (by decide) ?_
            exact g_ireturn X (zW hf) (by decide) (by decide) dX11_man_51
def f_X11_style  (a0 : Option Nat) (a1 : Int32) (a2 : Int32) (a3 : Int32) (h : AH) : Option (Int32 × AH) :=
  (gR 11 0 h a0).bind fun v1 =>
  (ck 2 h v1 (f_X2_hasMan v1 a1 h)).bind fun v2 =>
  if v2 = 0 then
    some ((-1), h)
  else
    (f_X11_within a2 0 9999 h).bind fun v3 =>
    if v3 = 0 then
      some ((-1), h)
    else
      (f_X11_within a3 0 3 h).bind fun v4 =>
      if v4 = 0 then
        some ((-1), h)
      else
        (gR 11 0 h a0).bind fun v5 =>
        (gR 2 5 h v5).bind fun v6 =>
        (aR h v6 a1).bind fun v7 =>
        (pI 5 4 h v7 a2).bind fun h8 =>
        (gR 11 0 h8 a0).bind fun v9 =>
        (gR 2 5 h8 v9).bind fun v10 =>
        (aR h8 v10 a1).bind fun v11 =>
        (pI 5 5 h8 v11 a3).bind fun h12 =>
        some (1, h12)
set_option maxRecDepth 20000 in
theorem m_X11_style  {a0 : Option Nat} {a1 : Int32} {a2 : Int32} {a3 : Int32} {h : AH} {w : (Int32 × AH)} (hf : f_X11_style a0 a1 a2 a3 h = some w) : CT yX11_style (wU yX11_style cX11_style 4 (some .int)) (rmD 2 0 0) 0 0 [tR a0, tI a1, tI a2, tI a3] h (some (tI w.1), w.2) := by
  refine CT.of (cc := cX11_style) (nL := 4) (ret := (some .int)) (by decide) (by simp [lg_sl, vOf_cat, wOf]) ?_
  intro K X
  refine g_locs (lv' := [(0, tR a0), (1, tI a1), (2, tI a2), (3, tI a3)]) (fun q hq => hq) ?_
  unfold f_X11_style at hf
  refine g_aload_n X dX11_style_0 0 rfl ?_
  refine g_getR X hf (T := TX11) rfl (by decide) (by decide) in_RX11 tb_350 rfl dX11_style_1 (fun v1 hf => ?_)
  refine g_iload_n X dX11_style_4 1 rfl ?_
  refine g_callV (n := 1) (av := [tI a1]) (rest := []) (k := 2) X hf (fun v2 => (some (tI v2), h)) (fun _ q => m_X2_hasMan q) (gdV tb_457 tb_458 tb_459 tb_2 tb_460) rfl (by decide +kernel) rfl (by decide) rfl (by decide) (by decide) rfl (Nat.le_of_ble_eq_true rfl) dX11_style_5 (fun v2 hf => ?_)
  refine g_ifeq (tgt := 31) X hf dX11_style_8 (by decide) (fun hf => ?_) (fun hf => ?_)
  · refine g_iconst (v := (-1)) X dX11_style_31 (by decide) ?_
    exact g_ireturn X (zW hf) (by decide) (by decide) dX11_style_32
  · refine g_iload_n X dX11_style_11 2 rfl ?_
    refine g_iconst (v := 0) X dX11_style_12 (by decide) ?_
    refine g_sipush (v := 9999) X dX11_style_13 (by decide) ?_
    refine g_callS (n := 3) (av := [tI a2, tI 0, tI 9999]) (rest := []) X hf (fun v3 => (some (tI v3), h)) (fun _ q => m_X11_within q) (gdS tb_388 tb_389 tb_1 tb_390) rfl (by decide +kernel) rfl (by decide) (by decide) rfl (Nat.le_of_ble_eq_true rfl) dX11_style_16 (fun v3 hf => ?_)
    refine g_ifeq (tgt := 31) X hf dX11_style_19 (by decide) (fun hf => ?_) (fun hf => ?_)
    · refine g_iconst (v := (-1)) X dX11_style_31 (by decide) ?_
      exact g_ireturn X (zW hf) (by decide) (by decide) dX11_style_32
    · refine g_iload_n X dX11_style_22 3 rfl ?_
      refine g_iconst (v := 0) X dX11_style_23 (by decide) ?_
      refine g_iconst (v := 3) X dX11_style_24 (by decide) ?_
      refine g_callS (n := 3) (av := [tI a3, tI 0, tI 3]) (rest := []) X hf (fun v4 => (some (tI v4), h)) (fun _ q => m_X11_within q) (gdS tb_388 tb_389 tb_1 tb_390) rfl (by decide +kernel) rfl (by decide) (by decide) rfl (Nat.le_of_ble_eq_true rfl) dX11_style_25 (fun v4 hf => ?_)
      refine g_ifne (tgt := 33) X hf dX11_style_28 (by decide) (fun hf => ?_) (fun hf => ?_)
      · refine g_iconst (v := (-1)) X dX11_style_31 (by decide) ?_
        exact g_ireturn X (zW hf) (by decide) (by decide) dX11_style_32
      · refine g_aload_n X dX11_style_33 0 rfl ?_
        refine g_getR X hf (T := TX11) rfl (by decide) (by decide) in_RX11 tb_350 rfl dX11_style_34 (fun v5 hf => ?_)
        refine g_getR X hf (T := TX2) rfl (by decide) (by decide) in_RX2 tb_222 rfl dX11_style_37 (fun v6 hf => ?_)
        refine g_iload_n X dX11_style_40 1 rfl ?_
        refine g_aaload X hf dX11_style_41 (fun v7 hf => ?_)
        refine g_iload_n X dX11_style_42 2 rfl ?_
        refine g_putI X hf (T := TX5) rfl (by decide) (by decide) in_RX5 tyX5 tyX5_ok nmX5 tb_82 rfl rfl rfl dX11_style_43 (fun h8 hf => ?_)
        refine g_aload_n X dX11_style_46 0 rfl ?_
        refine g_getR X hf (T := TX11) rfl (by decide) (by decide) in_RX11 tb_350 rfl dX11_style_47 (fun v9 hf => ?_)
        refine g_getR X hf (T := TX2) rfl (by decide) (by decide) in_RX2 tb_222 rfl dX11_style_50 (fun v10 hf => ?_)
        refine g_iload_n X dX11_style_53 1 rfl ?_
        refine g_aaload X hf dX11_style_54 (fun v11 hf => ?_)
        refine g_iload_n X dX11_style_55 3 rfl ?_
        refine g_putI X hf (T := TX5) rfl (by decide) (by decide) in_RX5 tyX5 tyX5_ok nmX5 tb_84 rfl rfl rfl dX11_style_56 (fun h12 hf => ?_)
        refine g_iconst (v := 1) X dX11_style_59 (by decide) ?_
        exact g_ireturn X (zW hf) (by decide) (by decide) dX11_style_60
def f_X11_fear  (a0 : Option Nat) (a1 : Int32) (a2 : Int32) (a3 : Int32) (h : AH) : Option (Int32 × AH) :=
  (gR 11 0 h a0).bind fun v1 =>
  (ck 2 h v1 (f_X2_areTwoMen v1 a1 a2 h)).bind fun v2 =>
  if v2 = 0 then
    some ((-1), h)
  else
    (f_X11_within a3 0 9 h).bind fun v3 =>
    if v3 = 0 then
      some ((-1), h)
    else
      (gR 11 0 h a0).bind fun v4 =>
      (gR 2 5 h v4).bind fun v5 =>
      (aR h v5 a1).bind fun v6 =>
      (gR 5 9 h v6).bind fun v7 =>
      (aI h v7 a2).bind fun v8 =>
      (gR 11 0 h a0).bind fun v9 =>
      (gR 2 5 h v9).bind fun v10 =>
      (aR h v10 a1).bind fun v11 =>
      (gR 5 9 h v11).bind fun v12 =>
      (sI h v12 a2 a3).bind fun h13 =>
      some (v8, h13)
set_option maxRecDepth 20000 in
theorem m_X11_fear  {a0 : Option Nat} {a1 : Int32} {a2 : Int32} {a3 : Int32} {h : AH} {w : (Int32 × AH)} (hf : f_X11_fear a0 a1 a2 a3 h = some w) : CT yX11_fear (wU yX11_fear cX11_fear 5 (some .int)) (rmD 3 0 0) 0 0 [tR a0, tI a1, tI a2, tI a3] h (some (tI w.1), w.2) := by
  refine CT.of (cc := cX11_fear) (nL := 5) (ret := (some .int)) (by decide) (by simp [lg_sl, vOf_cat, wOf]) ?_
  intro K X
  refine g_locs (lv' := [(0, tR a0), (1, tI a1), (2, tI a2), (3, tI a3)]) (fun q hq => hq) ?_
  unfold f_X11_fear at hf
  refine g_aload_n X dX11_fear_0 0 rfl ?_
  refine g_getR X hf (T := TX11) rfl (by decide) (by decide) in_RX11 tb_350 rfl dX11_fear_1 (fun v1 hf => ?_)
  refine g_iload_n X dX11_fear_4 1 rfl ?_
  refine g_iload_n X dX11_fear_5 2 rfl ?_
  refine g_callV (n := 2) (av := [tI a1, tI a2]) (rest := []) (k := 2) X hf (fun v2 => (some (tI v2), h)) (fun _ q => m_X2_areTwoMen q) (gdV tb_465 tb_466 tb_467 tb_2 tb_468) rfl (by decide +kernel) rfl (by decide) rfl (by decide) (by decide) rfl (Nat.le_of_ble_eq_true rfl) dX11_fear_6 (fun v2 hf => ?_)
  refine g_ifeq (tgt := 22) X hf dX11_fear_9 (by decide) (fun hf => ?_) (fun hf => ?_)
  · refine g_iconst (v := (-1)) X dX11_fear_22 (by decide) ?_
    exact g_ireturn X (zW hf) (by decide) (by decide) dX11_fear_23
  · refine g_iload_n X dX11_fear_12 3 rfl ?_
    refine g_iconst (v := 0) X dX11_fear_13 (by decide) ?_
    refine g_bipush (v := 9) X dX11_fear_14 (by decide) ?_
    refine g_callS (n := 3) (av := [tI a3, tI 0, tI 9]) (rest := []) X hf (fun v3 => (some (tI v3), h)) (fun _ q => m_X11_within q) (gdS tb_388 tb_389 tb_1 tb_390) rfl (by decide +kernel) rfl (by decide) (by decide) rfl (Nat.le_of_ble_eq_true rfl) dX11_fear_16 (fun v3 hf => ?_)
    refine g_ifne (tgt := 24) X hf dX11_fear_19 (by decide) (fun hf => ?_) (fun hf => ?_)
    · refine g_iconst (v := (-1)) X dX11_fear_22 (by decide) ?_
      exact g_ireturn X (zW hf) (by decide) (by decide) dX11_fear_23
    · refine g_aload_n X dX11_fear_24 0 rfl ?_
      refine g_getR X hf (T := TX11) rfl (by decide) (by decide) in_RX11 tb_350 rfl dX11_fear_25 (fun v4 hf => ?_)
      refine g_getR X hf (T := TX2) rfl (by decide) (by decide) in_RX2 tb_222 rfl dX11_fear_28 (fun v5 hf => ?_)
      refine g_iload_n X dX11_fear_31 1 rfl ?_
      refine g_aaload X hf dX11_fear_32 (fun v6 hf => ?_)
      refine g_getR X hf (T := TX5) rfl (by decide) (by decide) in_RX5 tb_94 rfl dX11_fear_33 (fun v7 hf => ?_)
      refine g_iload_n X dX11_fear_36 2 rfl ?_
      refine g_iaload X hf dX11_fear_37 (fun v8 hf => ?_)
      refine g_istore (lv' := [(0, tR a0), (1, tI a1), (2, tI a2), (3, tI a3), (4, tI v8)]) X dX11_fear_38 (by decide) (in_pick [1, 2, 3, 4, 0] rfl) ?_
      refine g_aload_n X dX11_fear_40 0 rfl ?_
      refine g_getR X hf (T := TX11) rfl (by decide) (by decide) in_RX11 tb_350 rfl dX11_fear_41 (fun v9 hf => ?_)
      refine g_getR X hf (T := TX2) rfl (by decide) (by decide) in_RX2 tb_222 rfl dX11_fear_44 (fun v10 hf => ?_)
      refine g_iload_n X dX11_fear_47 1 rfl ?_
      refine g_aaload X hf dX11_fear_48 (fun v11 hf => ?_)
      refine g_getR X hf (T := TX5) rfl (by decide) (by decide) in_RX5 tb_94 rfl dX11_fear_49 (fun v12 hf => ?_)
      refine g_iload_n X dX11_fear_52 2 rfl ?_
      refine g_iload_n X dX11_fear_53 3 rfl ?_
      refine g_iastore X hf dX11_fear_54 (fun h13 hf => ?_)
      refine g_iload X dX11_fear_55 4 rfl ?_
      exact g_ireturn X (zW hf) (by decide) (by decide) dX11_fear_57
def f_X11_word  (a0 : Option Nat) (a1 : Int32) (a2 : Int32) (a3 : Int32) (h : AH) : Option (Int32 × AH) :=
  (gR 11 0 h a0).bind fun v1 =>
  (ck 2 h v1 (f_X2_hasMan v1 a1 h)).bind fun v2 =>
  if v2 = 0 then
    some ((-1), h)
  else
    (gR 11 0 h a0).bind fun v3 =>
    (ck 2 h v3 (f_X2_hasMan v3 a3 h)).bind fun v4 =>
    if v4 = 0 then
      some ((-1), h)
    else
      (f_X11_within a2 (-5) 5 h).bind fun v5 =>
      if v5 = 0 then
        some ((-1), h)
      else
        (gR 11 0 h a0).bind fun v6 =>
        (gI 2 8 h v6).bind fun v7 =>
        if v7 < 8 then
          (gR 11 0 h a0).bind fun v8 =>
          (gR 2 7 h v8).bind fun v9 =>
          (gR 11 0 h a0).bind fun v10 =>
          (gI 2 8 h v10).bind fun v11 =>
          (aR h v9 v11).bind fun v12 =>
          (ck 10 h v12 (f_X10_begin v12 a1 a2 h)).bind fun h13 =>
          (gR 10 2 h13 v12).bind fun v14 =>
          (gR 11 0 h13 a0).bind fun v15 =>
          (gI 2 0 h13 v15).bind fun v16 =>
          (sI h13 v14 a3 v16).bind fun h17 =>
          (gR 11 0 h17 a0).bind fun v18 =>
          (gI 2 8 h17 v18).bind fun v19 =>
          (pI 2 8 h17 v18 (v19 + 1)).bind fun h20 =>
          (gR 11 0 h20 a0).bind fun v21 =>
          (gI 2 8 h20 v21).bind fun v22 =>
          some ((v22 - 1), h20)
        else
          some ((-2), h)
set_option maxRecDepth 20000 in
theorem m_X11_word  {a0 : Option Nat} {a1 : Int32} {a2 : Int32} {a3 : Int32} {h : AH} {w : (Int32 × AH)} (hf : f_X11_word a0 a1 a2 a3 h = some w) : CT yX11_word (wU yX11_word cX11_word 5 (some .int)) (rmD 2 0 0) 0 0 [tR a0, tI a1, tI a2, tI a3] h (some (tI w.1), w.2) := by
  refine CT.of (cc := cX11_word) (nL := 5) (ret := (some .int)) (by decide) (by simp [lg_sl, vOf_cat, wOf]) ?_
  intro K X
  refine g_locs (lv' := [(0, tR a0), (1, tI a1), (2, tI a2), (3, tI a3)]) (fun q hq => hq) ?_
  unfold f_X11_word at hf
  refine g_aload_n X dX11_word_0 0 rfl ?_
  refine g_getR X hf (T := TX11) rfl (by decide) (by decide) in_RX11 tb_350 rfl dX11_word_1 (fun v1 hf => ?_)
  refine g_iload_n X dX11_word_4 1 rfl ?_
  refine g_callV (n := 1) (av := [tI a1]) (rest := []) (k := 2) X hf (fun v2 => (some (tI v2), h)) (fun _ q => m_X2_hasMan q) (gdV tb_457 tb_458 tb_459 tb_2 tb_460) rfl (by decide +kernel) rfl (by decide) rfl (by decide) (by decide) rfl (Nat.le_of_ble_eq_true rfl) dX11_word_5 (fun v2 hf => ?_)
  refine g_ifeq (tgt := 32) X hf dX11_word_8 (by decide) (fun hf => ?_) (fun hf => ?_)
  · refine g_iconst (v := (-1)) X dX11_word_32 (by decide) ?_
    exact g_ireturn X (zW hf) (by decide) (by decide) dX11_word_33
  · refine g_aload_n X dX11_word_11 0 rfl ?_
    refine g_getR X hf (T := TX11) rfl (by decide) (by decide) in_RX11 tb_350 rfl dX11_word_12 (fun v3 hf => ?_)
    refine g_iload_n X dX11_word_15 3 rfl ?_
    refine g_callV (n := 1) (av := [tI a3]) (rest := []) (k := 2) X hf (fun v4 => (some (tI v4), h)) (fun _ q => m_X2_hasMan q) (gdV tb_457 tb_458 tb_459 tb_2 tb_460) rfl (by decide +kernel) rfl (by decide) rfl (by decide) (by decide) rfl (Nat.le_of_ble_eq_true rfl) dX11_word_16 (fun v4 hf => ?_)
    refine g_ifeq (tgt := 32) X hf dX11_word_19 (by decide) (fun hf => ?_) (fun hf => ?_)
    · refine g_iconst (v := (-1)) X dX11_word_32 (by decide) ?_
      exact g_ireturn X (zW hf) (by decide) (by decide) dX11_word_33
    · refine g_iload_n X dX11_word_22 2 rfl ?_
      refine g_bipush (v := (-5)) X dX11_word_23 (by decide) ?_
      refine g_iconst (v := 5) X dX11_word_25 (by decide) ?_
      refine g_callS (n := 3) (av := [tI a2, tI (-5), tI 5]) (rest := []) X hf (fun v5 => (some (tI v5), h)) (fun _ q => m_X11_within q) (gdS tb_388 tb_389 tb_1 tb_390) rfl (by decide +kernel) rfl (by decide) (by decide) rfl (Nat.le_of_ble_eq_true rfl) dX11_word_26 (fun v5 hf => ?_)
      refine g_ifne (tgt := 34) X hf dX11_word_29 (by decide) (fun hf => ?_) (fun hf => ?_)
      · refine g_iconst (v := (-1)) X dX11_word_32 (by decide) ?_
        exact g_ireturn X (zW hf) (by decide) (by decide) dX11_word_33
      · refine g_aload_n X dX11_word_34 0 rfl ?_
        refine g_getR X hf (T := TX11) rfl (by decide) (by decide) in_RX11 tb_350 rfl dX11_word_35 (fun v6 hf => ?_)
        refine g_getI X hf (T := TX2) rfl (by decide) (by decide) in_RX2 tb_228 rfl dX11_word_38 (fun v7 hf => ?_)
        refine g_bipush (v := 8) X dX11_word_41 (by decide) ?_
        refine g_icmplt (tgt := 49) X hf dX11_word_43 (by decide) (fun hf => ?_) (fun hf => ?_)
        · refine g_aload_n X dX11_word_49 0 rfl ?_
          refine g_getR X hf (T := TX11) rfl (by decide) (by decide) in_RX11 tb_350 rfl dX11_word_50 (fun v8 hf => ?_)
          refine g_getR X hf (T := TX2) rfl (by decide) (by decide) in_RX2 tb_226 rfl dX11_word_53 (fun v9 hf => ?_)
          refine g_aload_n X dX11_word_56 0 rfl ?_
          refine g_getR X hf (T := TX11) rfl (by decide) (by decide) in_RX11 tb_350 rfl dX11_word_57 (fun v10 hf => ?_)
          refine g_getI X hf (T := TX2) rfl (by decide) (by decide) in_RX2 tb_228 rfl dX11_word_60 (fun v11 hf => ?_)
          refine g_aaload X hf dX11_word_63 (fun v12 hf => ?_)
          refine g_astore (lv' := [(0, tR a0), (1, tI a1), (2, tI a2), (3, tI a3), (4, tR v12)]) X dX11_word_64 (by decide) (in_pick [1, 2, 3, 4, 0] rfl) ?_
          refine g_aload X dX11_word_66 4 rfl ?_
          refine g_iload_n X dX11_word_68 1 rfl ?_
          refine g_iload_n X dX11_word_69 2 rfl ?_
          refine g_callV (n := 2) (av := [tI a1, tI a2]) (rest := []) (k := 10) X hf (fun h13 => (none, h13)) (fun _ q => m_X10_begin q) (gdV tb_474 tb_475 tb_476 tb_5 tb_477) rfl (by decide +kernel) rfl (by decide) rfl (by decide) (by decide) rfl (Nat.le_of_ble_eq_true rfl) dX11_word_70 (fun h13 hf => ?_)
          refine g_aload X dX11_word_73 4 rfl ?_
          refine g_getR X hf (T := TX10) rfl (by decide) (by decide) in_RX10 tb_116 rfl dX11_word_75 (fun v14 hf => ?_)
          refine g_iload_n X dX11_word_78 3 rfl ?_
          refine g_aload_n X dX11_word_79 0 rfl ?_
          refine g_getR X hf (T := TX11) rfl (by decide) (by decide) in_RX11 tb_350 rfl dX11_word_80 (fun v15 hf => ?_)
          refine g_getI X hf (T := TX2) rfl (by decide) (by decide) in_RX2 tb_212 rfl dX11_word_83 (fun v16 hf => ?_)
          refine g_iastore X hf dX11_word_86 (fun h17 hf => ?_)
          refine g_aload_n X dX11_word_87 0 rfl ?_
          refine g_getR X hf (T := TX11) rfl (by decide) (by decide) in_RX11 tb_350 rfl dX11_word_88 (fun v18 hf => ?_)
          refine g_dup X dX11_word_91 rfl ?_
          refine g_getI X hf (T := TX2) rfl (by decide) (by decide) in_RX2 tb_228 rfl dX11_word_92 (fun v19 hf => ?_)
          refine g_iconst (v := 1) X dX11_word_95 (by decide) ?_
          refine g_iadd X dX11_word_96 ?_
          refine g_putI X hf (T := TX2) rfl (by decide) (by decide) in_RX2 tyX2 tyX2_ok nmX2 tb_228 rfl rfl rfl dX11_word_97 (fun h20 hf => ?_)
          refine g_aload_n X dX11_word_100 0 rfl ?_
          refine g_getR X hf (T := TX11) rfl (by decide) (by decide) in_RX11 tb_350 rfl dX11_word_101 (fun v21 hf => ?_)
          refine g_getI X hf (T := TX2) rfl (by decide) (by decide) in_RX2 tb_228 rfl dX11_word_104 (fun v22 hf => ?_)
          refine g_iconst (v := 1) X dX11_word_107 (by decide) ?_
          refine g_isub X dX11_word_108 ?_
          exact g_ireturn X (zW hf) (by decide) (by decide) dX11_word_109
        · refine g_bipush (v := (-2)) X dX11_word_46 (by decide) ?_
          exact g_ireturn X (zW hf) (by decide) (by decide) dX11_word_48
def f_X11_heard  (a0 : Option Nat) (a1 : Int32) (a2 : Int32) (h : AH) : Option Int32 :=
  (gR 11 0 h a0).bind fun v1 =>
  (ck 2 h v1 (f_X2_hasMan v1 a1 h)).bind fun v2 =>
  if v2 = 0 then
    some (-1)
  else
    (gR 11 0 h a0).bind fun v3 =>
    (gI 2 8 h v3).bind fun v4 =>
    (f_X11_within a2 0 (v4 - 1) h).bind fun v5 =>
    if v5 = 0 then
      some (-1)
    else
      (gR 11 0 h a0).bind fun v6 =>
      (gR 2 7 h v6).bind fun v7 =>
      (aR h v7 a2).bind fun v8 =>
      (gR 10 2 h v8).bind fun v9 =>
      (aI h v9 a1).bind fun v10 =>
      if v10 < 0 then
        some (-3)
      else
        some v10
set_option maxRecDepth 20000 in
theorem m_X11_heard  {a0 : Option Nat} {a1 : Int32} {a2 : Int32} {h : AH} {w : Int32} (hf : f_X11_heard a0 a1 a2 h = some w) : CT yX11_heard (wU yX11_heard cX11_heard 4 (some .int)) (rmD 2 0 0) 0 0 [tR a0, tI a1, tI a2] h (some (tI w), h) := by
  refine CT.of (cc := cX11_heard) (nL := 4) (ret := (some .int)) (by decide) (by simp [lg_sl, vOf_cat, wOf]) ?_
  intro K X
  refine g_locs (lv' := [(0, tR a0), (1, tI a1), (2, tI a2)]) (fun q hq => hq) ?_
  unfold f_X11_heard at hf
  refine g_aload_n X dX11_heard_0 0 rfl ?_
  refine g_getR X hf (T := TX11) rfl (by decide) (by decide) in_RX11 tb_350 rfl dX11_heard_1 (fun v1 hf => ?_)
  refine g_iload_n X dX11_heard_4 1 rfl ?_
  refine g_callV (n := 1) (av := [tI a1]) (rest := []) (k := 2) X hf (fun v2 => (some (tI v2), h)) (fun _ q => m_X2_hasMan q) (gdV tb_457 tb_458 tb_459 tb_2 tb_460) rfl (by decide +kernel) rfl (by decide) rfl (by decide) (by decide) rfl (Nat.le_of_ble_eq_true rfl) dX11_heard_5 (fun v2 hf => ?_)
  refine g_ifeq (tgt := 28) X hf dX11_heard_8 (by decide) (fun hf => ?_) (fun hf => ?_)
  · refine g_iconst (v := (-1)) X dX11_heard_28 (by decide) ?_
    exact g_ireturn X (zP hf) (by decide) (by decide) dX11_heard_29
  · refine g_iload_n X dX11_heard_11 2 rfl ?_
    refine g_iconst (v := 0) X dX11_heard_12 (by decide) ?_
    refine g_aload_n X dX11_heard_13 0 rfl ?_
    refine g_getR X hf (T := TX11) rfl (by decide) (by decide) in_RX11 tb_350 rfl dX11_heard_14 (fun v3 hf => ?_)
    refine g_getI X hf (T := TX2) rfl (by decide) (by decide) in_RX2 tb_228 rfl dX11_heard_17 (fun v4 hf => ?_)
    refine g_iconst (v := 1) X dX11_heard_20 (by decide) ?_
    refine g_isub X dX11_heard_21 ?_
    refine g_callS (n := 3) (av := [tI a2, tI 0, tI (v4 - 1)]) (rest := []) X hf (fun v5 => (some (tI v5), h)) (fun _ q => m_X11_within q) (gdS tb_388 tb_389 tb_1 tb_390) rfl (by decide +kernel) rfl (by decide) (by decide) rfl (Nat.le_of_ble_eq_true rfl) dX11_heard_22 (fun v5 hf => ?_)
    refine g_ifne (tgt := 30) X hf dX11_heard_25 (by decide) (fun hf => ?_) (fun hf => ?_)
    · refine g_iconst (v := (-1)) X dX11_heard_28 (by decide) ?_
      exact g_ireturn X (zP hf) (by decide) (by decide) dX11_heard_29
    · refine g_aload_n X dX11_heard_30 0 rfl ?_
      refine g_getR X hf (T := TX11) rfl (by decide) (by decide) in_RX11 tb_350 rfl dX11_heard_31 (fun v6 hf => ?_)
      refine g_getR X hf (T := TX2) rfl (by decide) (by decide) in_RX2 tb_226 rfl dX11_heard_34 (fun v7 hf => ?_)
      refine g_iload_n X dX11_heard_37 2 rfl ?_
      refine g_aaload X hf dX11_heard_38 (fun v8 hf => ?_)
      refine g_getR X hf (T := TX10) rfl (by decide) (by decide) in_RX10 tb_116 rfl dX11_heard_39 (fun v9 hf => ?_)
      refine g_iload_n X dX11_heard_42 1 rfl ?_
      refine g_iaload X hf dX11_heard_43 (fun v10 hf => ?_)
      refine g_istore_n (lv' := [(0, tR a0), (1, tI a1), (2, tI a2), (3, tI v10)]) X dX11_heard_44 (by decide) (in_pick [1, 2, 3, 0] rfl) ?_
      refine g_iload_n X dX11_heard_45 3 rfl ?_
      refine g_ifge (tgt := 54) X hf dX11_heard_46 (by decide) (fun hf => ?_) (fun hf => ?_)
      · refine g_bipush (v := (-3)) X dX11_heard_49 (by decide) ?_
        refine g_goto (tgt := 55) X dX11_heard_51 (by decide) ?_
        exact g_ireturn X (zP hf) (by decide) (by decide) dX11_heard_55
      · refine g_iload_n X dX11_heard_54 3 rfl ?_
        exact g_ireturn X (zP hf) (by decide) (by decide) dX11_heard_55
def f_X11_dread  (a0 : Option Nat) (a1 : Int32) (a2 : Int32) (a3 : Int32) (h : AH) : Option Int32 :=
  (gR 11 0 h a0).bind fun v1 =>
  (ck 2 h v1 (f_X2_areTwoMen v1 a1 a2 h)).bind fun v2 =>
  if v2 = 0 then
    some (-1)
  else
    (f_X11_isDay a3 h).bind fun v3 =>
    if v3 = 0 then
      some (-1)
    else
      (gR 11 0 h a0).bind fun v4 =>
      (ck 2 h v4 (f_X2_dreadOf v4 a1 a2 a3 h)).bind fun v5 =>
      some v5
set_option maxRecDepth 20000 in
theorem m_X11_dread  {a0 : Option Nat} {a1 : Int32} {a2 : Int32} {a3 : Int32} {h : AH} {w : Int32} (hf : f_X11_dread a0 a1 a2 a3 h = some w) : CT yX11_dread (wU yX11_dread cX11_dread 4 (some .int)) (rmD 3 0 0) 0 0 [tR a0, tI a1, tI a2, tI a3] h (some (tI w), h) := by
  refine CT.of (cc := cX11_dread) (nL := 4) (ret := (some .int)) (by decide) (by simp [lg_sl, vOf_cat, wOf]) ?_
  intro K X
  refine g_locs (lv' := [(0, tR a0), (1, tI a1), (2, tI a2), (3, tI a3)]) (fun q hq => hq) ?_
  unfold f_X11_dread at hf
  refine g_aload_n X dX11_dread_0 0 rfl ?_
  refine g_getR X hf (T := TX11) rfl (by decide) (by decide) in_RX11 tb_350 rfl dX11_dread_1 (fun v1 hf => ?_)
  refine g_iload_n X dX11_dread_4 1 rfl ?_
  refine g_iload_n X dX11_dread_5 2 rfl ?_
  refine g_callV (n := 2) (av := [tI a1, tI a2]) (rest := []) (k := 2) X hf (fun v2 => (some (tI v2), h)) (fun _ q => m_X2_areTwoMen q) (gdV tb_465 tb_466 tb_467 tb_2 tb_468) rfl (by decide +kernel) rfl (by decide) rfl (by decide) (by decide) rfl (Nat.le_of_ble_eq_true rfl) dX11_dread_6 (fun v2 hf => ?_)
  refine g_ifeq (tgt := 19) X hf dX11_dread_9 (by decide) (fun hf => ?_) (fun hf => ?_)
  · refine g_iconst (v := (-1)) X dX11_dread_19 (by decide) ?_
    exact g_ireturn X (zP hf) (by decide) (by decide) dX11_dread_20
  · refine g_iload_n X dX11_dread_12 3 rfl ?_
    refine g_callS (n := 1) (av := [tI a3]) (rest := []) X hf (fun v3 => (some (tI v3), h)) (fun _ q => m_X11_isDay q) (gdS tb_406 tb_407 tb_1 tb_408) rfl (by decide +kernel) rfl (by decide) (by decide) rfl (Nat.le_of_ble_eq_true rfl) dX11_dread_13 (fun v3 hf => ?_)
    refine g_ifne (tgt := 21) X hf dX11_dread_16 (by decide) (fun hf => ?_) (fun hf => ?_)
    · refine g_iconst (v := (-1)) X dX11_dread_19 (by decide) ?_
      exact g_ireturn X (zP hf) (by decide) (by decide) dX11_dread_20
    · refine g_aload_n X dX11_dread_21 0 rfl ?_
      refine g_getR X hf (T := TX11) rfl (by decide) (by decide) in_RX11 tb_350 rfl dX11_dread_22 (fun v4 hf => ?_)
      refine g_iload_n X dX11_dread_25 1 rfl ?_
      refine g_iload_n X dX11_dread_26 2 rfl ?_
      refine g_iload_n X dX11_dread_27 3 rfl ?_
      refine g_callV (n := 3) (av := [tI a1, tI a2, tI a3]) (rest := []) (k := 2) X hf (fun v5 => (some (tI v5), h)) (fun _ q => m_X2_dreadOf q) (gdV tb_486 tb_487 tb_488 tb_2 tb_489) rfl (by decide +kernel) rfl (by decide) rfl (by decide) (by decide) rfl (Nat.le_of_ble_eq_true rfl) dX11_dread_28 (fun v5 hf => ?_)
      exact g_ireturn X (zP hf) (by decide) (by decide) dX11_dread_31
def f_X11_rule  (a0 : Option Nat) (a1 : Int32) (a2 : Int32) (h : AH) : Option (Int32 × AH) :=
  (f_X11_within a1 0 3 h).bind fun v1 =>
  if v1 = 0 then
    some ((-1), h)
  else
    (aI h (some (h.2.2 1)) a1).bind fun v2 =>
    (f_X11_within a2 0 v2 h).bind fun v3 =>
    if v3 = 0 then
      some ((-1), h)
    else
      (gR 11 0 h a0).bind fun v4 =>
      (gR 2 15 h v4).bind fun v5 =>
      (aI h v5 a1).bind fun v6 =>
      (gR 11 0 h a0).bind fun v7 =>
      (gR 2 15 h v7).bind fun v8 =>
      (sI h v8 a1 a2).bind fun h9 =>
      some (v6, h9)
set_option maxRecDepth 20000 in
theorem m_X11_rule  {a0 : Option Nat} {a1 : Int32} {a2 : Int32} {h : AH} {w : (Int32 × AH)} (hf : f_X11_rule a0 a1 a2 h = some w) : CT yX11_rule (wU yX11_rule cX11_rule 4 (some .int)) (rmD 2 0 0) 0 0 [tR a0, tI a1, tI a2] h (some (tI w.1), w.2) := by
  refine CT.of (cc := cX11_rule) (nL := 4) (ret := (some .int)) (by decide) (by simp [lg_sl, vOf_cat, wOf]) ?_
  intro K X
  refine g_locs (lv' := [(0, tR a0), (1, tI a1), (2, tI a2)]) (fun q hq => hq) ?_
  unfold f_X11_rule at hf
  refine g_iload_n X dX11_rule_0 1 rfl ?_
  refine g_iconst (v := 0) X dX11_rule_1 (by decide) ?_
  refine g_iconst (v := 3) X dX11_rule_2 (by decide) ?_
  refine g_callS (n := 3) (av := [tI a1, tI 0, tI 3]) (rest := []) X hf (fun v1 => (some (tI v1), h)) (fun _ q => m_X11_within q) (gdS tb_388 tb_389 tb_1 tb_390) rfl (by decide +kernel) rfl (by decide) (by decide) rfl (Nat.le_of_ble_eq_true rfl) dX11_rule_3 (fun v1 hf => ?_)
  refine g_ifeq (tgt := 22) X hf dX11_rule_6 (by decide) (fun hf => ?_) (fun hf => ?_)
  · refine g_iconst (v := (-1)) X dX11_rule_22 (by decide) ?_
    exact g_ireturn X (zW hf) (by decide) (by decide) dX11_rule_23
  · refine g_iload_n X dX11_rule_9 2 rfl ?_
    refine g_iconst (v := 0) X dX11_rule_10 (by decide) ?_
    refine g_gets 1 (by decide) X tb_498 dX11_rule_11 ?_
    refine g_iload_n X dX11_rule_14 1 rfl ?_
    refine g_iaload X hf dX11_rule_15 (fun v2 hf => ?_)
    refine g_callS (n := 3) (av := [tI a2, tI 0, tI v2]) (rest := []) X hf (fun v3 => (some (tI v3), h)) (fun _ q => m_X11_within q) (gdS tb_388 tb_389 tb_1 tb_390) rfl (by decide +kernel) rfl (by decide) (by decide) rfl (Nat.le_of_ble_eq_true rfl) dX11_rule_16 (fun v3 hf => ?_)
    refine g_ifne (tgt := 24) X hf dX11_rule_19 (by decide) (fun hf => ?_) (fun hf => ?_)
    · refine g_iconst (v := (-1)) X dX11_rule_22 (by decide) ?_
      exact g_ireturn X (zW hf) (by decide) (by decide) dX11_rule_23
    · refine g_aload_n X dX11_rule_24 0 rfl ?_
      refine g_getR X hf (T := TX11) rfl (by decide) (by decide) in_RX11 tb_350 rfl dX11_rule_25 (fun v4 hf => ?_)
      refine g_getR X hf (T := TX2) rfl (by decide) (by decide) in_RX2 tb_242 rfl dX11_rule_28 (fun v5 hf => ?_)
      refine g_iload_n X dX11_rule_31 1 rfl ?_
      refine g_iaload X hf dX11_rule_32 (fun v6 hf => ?_)
      refine g_istore_n (lv' := [(0, tR a0), (1, tI a1), (2, tI a2), (3, tI v6)]) X dX11_rule_33 (by decide) (in_pick [1, 2, 3, 0] rfl) ?_
      refine g_aload_n X dX11_rule_34 0 rfl ?_
      refine g_getR X hf (T := TX11) rfl (by decide) (by decide) in_RX11 tb_350 rfl dX11_rule_35 (fun v7 hf => ?_)
      refine g_getR X hf (T := TX2) rfl (by decide) (by decide) in_RX2 tb_242 rfl dX11_rule_38 (fun v8 hf => ?_)
      refine g_iload_n X dX11_rule_41 1 rfl ?_
      refine g_iload_n X dX11_rule_42 2 rfl ?_
      refine g_iastore X hf dX11_rule_43 (fun h9 hf => ?_)
      refine g_iload_n X dX11_rule_44 3 rfl ?_
      exact g_ireturn X (zW hf) (by decide) (by decide) dX11_rule_45
def f_X11_of  (a0 : Option Nat) (a1 : Int32) (a2 : Int32) (h : AH) : Option Int32 :=
  (gR 11 0 h a0).bind fun v1 =>
  (ck 2 h v1 (f_X2_hasMan v1 a1 h)).bind fun v2 =>
  if v2 = 0 then
    some (-1)
  else
    (gR 11 0 h a0).bind fun v3 =>
    (gR 2 5 h v3).bind fun v4 =>
    (aR h v4 a1).bind fun v5 =>
    if a2 < 0 ∨ 7 < a2 then
      some (-1)
    else if a2 = 0 then
      (gI 5 0 h v5).bind fun v6 =>
      some v6
    else if a2 = 1 then
      (gI 5 1 h v5).bind fun v7 =>
      if v7 < 0 then
        some (-3)
      else
        (gI 5 1 h v5).bind fun v8 =>
        some v8
    else if a2 = 2 then
      (gI 5 2 h v5).bind fun v9 =>
      some v9
    else if a2 = 3 then
      (gI 5 3 h v5).bind fun v10 =>
      some v10
    else if a2 = 4 then
      (gI 5 4 h v5).bind fun v11 =>
      some v11
    else if a2 = 5 then
      (ck 5 h v5 (f_X5_wasSent v5 h)).bind fun v12 =>
      if v12 = 0 then
        some (-3)
      else
        (gI 5 6 h v5).bind fun v13 =>
        some v13
    else if a2 = 6 then
      (ck 5 h v5 (f_X5_wasSent v5 h)).bind fun v14 =>
      if v14 = 0 then
        some (-3)
      else
        (gI 5 7 h v5).bind fun v15 =>
        some v15
    else if a2 = 7 then
      (gI 5 8 h v5).bind fun v16 =>
      (f_X11_asAnswer v16 h).bind fun v17 =>
      some v17
    else none
set_option maxRecDepth 20000 in
theorem m_X11_of  {a0 : Option Nat} {a1 : Int32} {a2 : Int32} {h : AH} {w : Int32} (hf : f_X11_of a0 a1 a2 h = some w) : CT yX11_of (wU yX11_of cX11_of 4 (some .int)) (rmD 2 0 0) 0 0 [tR a0, tI a1, tI a2] h (some (tI w), h) := by
  refine CT.of (cc := cX11_of) (nL := 4) (ret := (some .int)) (by decide) (by simp [lg_sl, vOf_cat, wOf]) ?_
  intro K X
  refine g_locs (lv' := [(0, tR a0), (1, tI a1), (2, tI a2)]) (fun q hq => hq) ?_
  unfold f_X11_of at hf
  refine g_aload_n X dX11_of_0 0 rfl ?_
  refine g_getR X hf (T := TX11) rfl (by decide) (by decide) in_RX11 tb_350 rfl dX11_of_1 (fun v1 hf => ?_)
  refine g_iload_n X dX11_of_4 1 rfl ?_
  refine g_callV (n := 1) (av := [tI a1]) (rest := []) (k := 2) X hf (fun v2 => (some (tI v2), h)) (fun _ q => m_X2_hasMan q) (gdV tb_457 tb_458 tb_459 tb_2 tb_460) rfl (by decide +kernel) rfl (by decide) rfl (by decide) (by decide) rfl (Nat.le_of_ble_eq_true rfl) dX11_of_5 (fun v2 hf => ?_)
  refine g_ifne (tgt := 13) X hf dX11_of_8 (by decide) (fun hf => ?_) (fun hf => ?_)
  · refine g_iconst (v := (-1)) X dX11_of_11 (by decide) ?_
    exact g_ireturn X (zP hf) (by decide) (by decide) dX11_of_12
  · refine g_aload_n X dX11_of_13 0 rfl ?_
    refine g_getR X hf (T := TX11) rfl (by decide) (by decide) in_RX11 tb_350 rfl dX11_of_14 (fun v3 hf => ?_)
    refine g_getR X hf (T := TX2) rfl (by decide) (by decide) in_RX2 tb_222 rfl dX11_of_17 (fun v4 hf => ?_)
    refine g_iload_n X dX11_of_20 1 rfl ?_
    refine g_aaload X hf dX11_of_21 (fun v5 hf => ?_)
    refine g_astore_n (lv' := [(0, tR a0), (1, tI a1), (2, tI a2), (3, tR v5)]) X dX11_of_22 (by decide) (in_pick [1, 2, 3, 0] rfl) ?_
    refine g_iload_n X dX11_of_23 2 rfl ?_
    by_cases hsw : a2 < 0 ∨ 7 < a2
    · rw [if_pos hsw] at hf
      refine g_tabOut (tgt := 151) X dX11_of_24 (tab_out hsw) (by decide) ?_
      refine g_iconst (v := (-1)) X dX11_of_151 (by decide) ?_
      exact g_ireturn X (zP hf) (by decide) (by decide) dX11_of_152
    rw [if_neg hsw] at hf
    by_cases hs0 : a2 = 0
    · rw [if_pos hs0] at hf
      refine g_tabIn (off := 48) (tgt := 72) X 0 hs0 dX11_of_24 (by decide) (by decide) (by decide +kernel) (by decide) ?_
      refine g_aload_n X dX11_of_72 3 rfl ?_
      refine g_getI X hf (T := TX5) rfl (by decide) (by decide) in_RX5 tb_71 rfl dX11_of_73 (fun v6 hf => ?_)
      exact g_ireturn X (zP hf) (by decide) (by decide) dX11_of_76
    rw [if_neg hs0] at hf
    by_cases hs1 : a2 = 1
    · rw [if_pos hs1] at hf
      refine g_tabIn (off := 53) (tgt := 77) X 1 hs1 dX11_of_24 (by decide) (by decide) (by decide +kernel) (by decide) ?_
      refine g_aload_n X dX11_of_77 3 rfl ?_
      refine g_getI X hf (T := TX5) rfl (by decide) (by decide) in_RX5 tb_73 rfl dX11_of_78 (fun v7 hf => ?_)
      refine g_ifge (tgt := 89) X hf dX11_of_81 (by decide) (fun hf => ?_) (fun hf => ?_)
      · refine g_bipush (v := (-3)) X dX11_of_84 (by decide) ?_
        refine g_goto (tgt := 93) X dX11_of_86 (by decide) ?_
        exact g_ireturn X (zP hf) (by decide) (by decide) dX11_of_93
      · refine g_aload_n X dX11_of_89 3 rfl ?_
        refine g_getI X hf (T := TX5) rfl (by decide) (by decide) in_RX5 tb_73 rfl dX11_of_90 (fun v8 hf => ?_)
        exact g_ireturn X (zP hf) (by decide) (by decide) dX11_of_93
    rw [if_neg hs1] at hf
    by_cases hs2 : a2 = 2
    · rw [if_pos hs2] at hf
      refine g_tabIn (off := 70) (tgt := 94) X 2 hs2 dX11_of_24 (by decide) (by decide) (by decide +kernel) (by decide) ?_
      refine g_aload_n X dX11_of_94 3 rfl ?_
      refine g_getI X hf (T := TX5) rfl (by decide) (by decide) in_RX5 tb_77 rfl dX11_of_95 (fun v9 hf => ?_)
      exact g_ireturn X (zP hf) (by decide) (by decide) dX11_of_98
    rw [if_neg hs2] at hf
    by_cases hs3 : a2 = 3
    · rw [if_pos hs3] at hf
      refine g_tabIn (off := 75) (tgt := 99) X 3 hs3 dX11_of_24 (by decide) (by decide) (by decide +kernel) (by decide) ?_
      refine g_aload_n X dX11_of_99 3 rfl ?_
      refine g_getI X hf (T := TX5) rfl (by decide) (by decide) in_RX5 tb_80 rfl dX11_of_100 (fun v10 hf => ?_)
      exact g_ireturn X (zP hf) (by decide) (by decide) dX11_of_103
    rw [if_neg hs3] at hf
    by_cases hs4 : a2 = 4
    · rw [if_pos hs4] at hf
      refine g_tabIn (off := 80) (tgt := 104) X 4 hs4 dX11_of_24 (by decide) (by decide) (by decide +kernel) (by decide) ?_
      refine g_aload_n X dX11_of_104 3 rfl ?_
      refine g_getI X hf (T := TX5) rfl (by decide) (by decide) in_RX5 tb_82 rfl dX11_of_105 (fun v11 hf => ?_)
      exact g_ireturn X (zP hf) (by decide) (by decide) dX11_of_108
    rw [if_neg hs4] at hf
    by_cases hs5 : a2 = 5
    · rw [if_pos hs5] at hf
      refine g_tabIn (off := 85) (tgt := 109) X 5 hs5 dX11_of_24 (by decide) (by decide) (by decide +kernel) (by decide) ?_
      refine g_aload_n X dX11_of_109 3 rfl ?_
      refine g_callV (n := 0) (av := []) (rest := []) (k := 5) X hf (fun v12 => (some (tI v12), h)) (fun _ q => m_X5_wasSent q) (gdV tb_503 tb_504 tb_505 tb_4 tb_506) rfl (by decide +kernel) rfl (by decide) rfl (by decide) (by decide) rfl (Nat.le_of_ble_eq_true rfl) dX11_of_110 (fun v12 hf => ?_)
      refine g_ifeq (tgt := 123) X hf dX11_of_113 (by decide) (fun hf => ?_) (fun hf => ?_)
      · refine g_bipush (v := (-3)) X dX11_of_123 (by decide) ?_
        exact g_ireturn X (zP hf) (by decide) (by decide) dX11_of_125
      · refine g_aload_n X dX11_of_116 3 rfl ?_
        refine g_getI X hf (T := TX5) rfl (by decide) (by decide) in_RX5 tb_87 rfl dX11_of_117 (fun v13 hf => ?_)
        refine g_goto (tgt := 125) X dX11_of_120 (by decide) ?_
        exact g_ireturn X (zP hf) (by decide) (by decide) dX11_of_125
    rw [if_neg hs5] at hf
    by_cases hs6 : a2 = 6
    · rw [if_pos hs6] at hf
      refine g_tabIn (off := 102) (tgt := 126) X 6 hs6 dX11_of_24 (by decide) (by decide) (by decide +kernel) (by decide) ?_
      refine g_aload_n X dX11_of_126 3 rfl ?_
      refine g_callV (n := 0) (av := []) (rest := []) (k := 5) X hf (fun v14 => (some (tI v14), h)) (fun _ q => m_X5_wasSent q) (gdV tb_503 tb_504 tb_505 tb_4 tb_506) rfl (by decide +kernel) rfl (by decide) rfl (by decide) (by decide) rfl (Nat.le_of_ble_eq_true rfl) dX11_of_127 (fun v14 hf => ?_)
      refine g_ifeq (tgt := 140) X hf dX11_of_130 (by decide) (fun hf => ?_) (fun hf => ?_)
      · refine g_bipush (v := (-3)) X dX11_of_140 (by decide) ?_
        exact g_ireturn X (zP hf) (by decide) (by decide) dX11_of_142
      · refine g_aload_n X dX11_of_133 3 rfl ?_
        refine g_getI X hf (T := TX5) rfl (by decide) (by decide) in_RX5 tb_90 rfl dX11_of_134 (fun v15 hf => ?_)
        refine g_goto (tgt := 142) X dX11_of_137 (by decide) ?_
        exact g_ireturn X (zP hf) (by decide) (by decide) dX11_of_142
    rw [if_neg hs6] at hf
    by_cases hs7 : a2 = 7
    · rw [if_pos hs7] at hf
      refine g_tabIn (off := 119) (tgt := 143) X 7 hs7 dX11_of_24 (by decide) (by decide) (by decide +kernel) (by decide) ?_
      refine g_aload_n X dX11_of_143 3 rfl ?_
      refine g_getI X hf (T := TX5) rfl (by decide) (by decide) in_RX5 tb_92 rfl dX11_of_144 (fun v16 hf => ?_)
      refine g_callS (n := 1) (av := [tI v16]) (rest := []) X hf (fun v17 => (some (tI v17), h)) (fun _ q => m_X11_asAnswer q) (gdS tb_507 tb_508 tb_1 tb_509) rfl (by decide +kernel) rfl (by decide) (by decide) rfl (Nat.le_of_ble_eq_true rfl) dX11_of_147 (fun v17 hf => ?_)
      exact g_ireturn X (zP hf) (by decide) (by decide) dX11_of_150
    rw [if_neg hs7] at hf
    cases hf
def f_X11_bargain  (a0 : Option Nat) (a1 : Int32) (a2 : Int32) (a3 : Int32) (a4 : Int32) (h : AH) : Option (Int32 × AH) :=
  (f_X11_isClub a1 h).bind fun v1 =>
  if v1 = 0 then
    some ((-1), h)
  else
    (gR 11 0 h a0).bind fun v2 =>
    (ck 2 h v2 (f_X2_hasMan v2 a2 h)).bind fun v3 =>
    if v3 = 0 then
      some ((-1), h)
    else
      (f_X11_isDay a3 h).bind fun v4 =>
      if v4 = 0 then
        some ((-1), h)
      else
        (f_X11_isDay a4 h).bind fun v5 =>
        if v5 = 0 then
          some ((-1), h)
        else
          if a4 < a3 then
            some ((-1), h)
          else
            (gR 11 0 h a0).bind fun v6 =>
            (gI 2 10 h v6).bind fun v7 =>
            if v7 < 8 then
              (gR 11 0 h a0).bind fun v8 =>
              (gR 2 9 h v8).bind fun v9 =>
              (gR 11 0 h a0).bind fun v10 =>
              (gI 2 10 h v10).bind fun v11 =>
              (aR h v9 v11).bind fun v12 =>
              (ck 1 h v12 (f_X1_begin v12 a1 a2 a3 a4 h)).bind fun h13 =>
              (gR 11 0 h13 a0).bind fun v14 =>
              (gI 2 10 h13 v14).bind fun v15 =>
              (pI 2 10 h13 v14 (v15 + 1)).bind fun h16 =>
              (gR 11 0 h16 a0).bind fun v17 =>
              (gI 2 10 h16 v17).bind fun v18 =>
              some ((v18 - 1), h16)
            else
              some ((-2), h)
set_option maxRecDepth 20000 in
theorem m_X11_bargain  {a0 : Option Nat} {a1 : Int32} {a2 : Int32} {a3 : Int32} {a4 : Int32} {h : AH} {w : (Int32 × AH)} (hf : f_X11_bargain a0 a1 a2 a3 a4 h = some w) : CT yX11_bargain (wU yX11_bargain cX11_bargain 5 (some .int)) (rmD 3 0 0) 0 0 [tR a0, tI a1, tI a2, tI a3, tI a4] h (some (tI w.1), w.2) := by
  refine CT.of (cc := cX11_bargain) (nL := 5) (ret := (some .int)) (by decide) (by simp [lg_sl, vOf_cat, wOf]) ?_
  intro K X
  refine g_locs (lv' := [(0, tR a0), (1, tI a1), (2, tI a2), (3, tI a3), (4, tI a4)]) (fun q hq => hq) ?_
  unfold f_X11_bargain at hf
  refine g_iload_n X dX11_bargain_0 1 rfl ?_
  refine g_callS (n := 1) (av := [tI a1]) (rest := []) X hf (fun v1 => (some (tI v1), h)) (fun _ q => m_X11_isClub q) (gdS tb_514 tb_515 tb_1 tb_516) rfl (by decide +kernel) rfl (by decide) (by decide) rfl (Nat.le_of_ble_eq_true rfl) dX11_bargain_1 (fun v1 hf => ?_)
  refine g_ifeq (tgt := 39) X hf dX11_bargain_4 (by decide) (fun hf => ?_) (fun hf => ?_)
  · refine g_iconst (v := (-1)) X dX11_bargain_39 (by decide) ?_
    exact g_ireturn X (zW hf) (by decide) (by decide) dX11_bargain_40
  · refine g_aload_n X dX11_bargain_7 0 rfl ?_
    refine g_getR X hf (T := TX11) rfl (by decide) (by decide) in_RX11 tb_350 rfl dX11_bargain_8 (fun v2 hf => ?_)
    refine g_iload_n X dX11_bargain_11 2 rfl ?_
    refine g_callV (n := 1) (av := [tI a2]) (rest := []) (k := 2) X hf (fun v3 => (some (tI v3), h)) (fun _ q => m_X2_hasMan q) (gdV tb_457 tb_458 tb_459 tb_2 tb_460) rfl (by decide +kernel) rfl (by decide) rfl (by decide) (by decide) rfl (Nat.le_of_ble_eq_true rfl) dX11_bargain_12 (fun v3 hf => ?_)
    refine g_ifeq (tgt := 39) X hf dX11_bargain_15 (by decide) (fun hf => ?_) (fun hf => ?_)
    · refine g_iconst (v := (-1)) X dX11_bargain_39 (by decide) ?_
      exact g_ireturn X (zW hf) (by decide) (by decide) dX11_bargain_40
    · refine g_iload_n X dX11_bargain_18 3 rfl ?_
      refine g_callS (n := 1) (av := [tI a3]) (rest := []) X hf (fun v4 => (some (tI v4), h)) (fun _ q => m_X11_isDay q) (gdS tb_406 tb_407 tb_1 tb_408) rfl (by decide +kernel) rfl (by decide) (by decide) rfl (Nat.le_of_ble_eq_true rfl) dX11_bargain_19 (fun v4 hf => ?_)
      refine g_ifeq (tgt := 39) X hf dX11_bargain_22 (by decide) (fun hf => ?_) (fun hf => ?_)
      · refine g_iconst (v := (-1)) X dX11_bargain_39 (by decide) ?_
        exact g_ireturn X (zW hf) (by decide) (by decide) dX11_bargain_40
      · refine g_iload X dX11_bargain_25 4 rfl ?_
        refine g_callS (n := 1) (av := [tI a4]) (rest := []) X hf (fun v5 => (some (tI v5), h)) (fun _ q => m_X11_isDay q) (gdS tb_406 tb_407 tb_1 tb_408) rfl (by decide +kernel) rfl (by decide) (by decide) rfl (Nat.le_of_ble_eq_true rfl) dX11_bargain_27 (fun v5 hf => ?_)
        refine g_ifeq (tgt := 39) X hf dX11_bargain_30 (by decide) (fun hf => ?_) (fun hf => ?_)
        · refine g_iconst (v := (-1)) X dX11_bargain_39 (by decide) ?_
          exact g_ireturn X (zW hf) (by decide) (by decide) dX11_bargain_40
        · refine g_iload X dX11_bargain_33 4 rfl ?_
          refine g_iload_n X dX11_bargain_35 3 rfl ?_
          refine g_icmpge (tgt := 41) X hf dX11_bargain_36 (by decide) (fun hf => ?_) (fun hf => ?_)
          · refine g_iconst (v := (-1)) X dX11_bargain_39 (by decide) ?_
            exact g_ireturn X (zW hf) (by decide) (by decide) dX11_bargain_40
          · refine g_aload_n X dX11_bargain_41 0 rfl ?_
            refine g_getR X hf (T := TX11) rfl (by decide) (by decide) in_RX11 tb_350 rfl dX11_bargain_42 (fun v6 hf => ?_)
            refine g_getI X hf (T := TX2) rfl (by decide) (by decide) in_RX2 tb_232 rfl dX11_bargain_45 (fun v7 hf => ?_)
            refine g_bipush (v := 8) X dX11_bargain_48 (by decide) ?_
            refine g_icmplt (tgt := 56) X hf dX11_bargain_50 (by decide) (fun hf => ?_) (fun hf => ?_)
            · refine g_aload_n X dX11_bargain_56 0 rfl ?_
              refine g_getR X hf (T := TX11) rfl (by decide) (by decide) in_RX11 tb_350 rfl dX11_bargain_57 (fun v8 hf => ?_)
              refine g_getR X hf (T := TX2) rfl (by decide) (by decide) in_RX2 tb_230 rfl dX11_bargain_60 (fun v9 hf => ?_)
              refine g_aload_n X dX11_bargain_63 0 rfl ?_
              refine g_getR X hf (T := TX11) rfl (by decide) (by decide) in_RX11 tb_350 rfl dX11_bargain_64 (fun v10 hf => ?_)
              refine g_getI X hf (T := TX2) rfl (by decide) (by decide) in_RX2 tb_232 rfl dX11_bargain_67 (fun v11 hf => ?_)
              refine g_aaload X hf dX11_bargain_70 (fun v12 hf => ?_)
              refine g_iload_n X dX11_bargain_71 1 rfl ?_
              refine g_iload_n X dX11_bargain_72 2 rfl ?_
              refine g_iload_n X dX11_bargain_73 3 rfl ?_
              refine g_iload X dX11_bargain_74 4 rfl ?_
              refine g_callV (n := 4) (av := [tI a1, tI a2, tI a3, tI a4]) (rest := []) (k := 1) X hf (fun h13 => (none, h13)) (fun _ q => m_X1_begin q) (gdV tb_517 tb_518 tb_519 tb_6 tb_520) rfl (by decide +kernel) rfl (by decide) rfl (by decide) (by decide) rfl (Nat.le_of_ble_eq_true rfl) dX11_bargain_76 (fun h13 hf => ?_)
              refine g_aload_n X dX11_bargain_79 0 rfl ?_
              refine g_getR X hf (T := TX11) rfl (by decide) (by decide) in_RX11 tb_350 rfl dX11_bargain_80 (fun v14 hf => ?_)
              refine g_dup X dX11_bargain_83 rfl ?_
              refine g_getI X hf (T := TX2) rfl (by decide) (by decide) in_RX2 tb_232 rfl dX11_bargain_84 (fun v15 hf => ?_)
              refine g_iconst (v := 1) X dX11_bargain_87 (by decide) ?_
              refine g_iadd X dX11_bargain_88 ?_
              refine g_putI X hf (T := TX2) rfl (by decide) (by decide) in_RX2 tyX2 tyX2_ok nmX2 tb_232 rfl rfl rfl dX11_bargain_89 (fun h16 hf => ?_)
              refine g_aload_n X dX11_bargain_92 0 rfl ?_
              refine g_getR X hf (T := TX11) rfl (by decide) (by decide) in_RX11 tb_350 rfl dX11_bargain_93 (fun v17 hf => ?_)
              refine g_getI X hf (T := TX2) rfl (by decide) (by decide) in_RX2 tb_232 rfl dX11_bargain_96 (fun v18 hf => ?_)
              refine g_iconst (v := 1) X dX11_bargain_99 (by decide) ?_
              refine g_isub X dX11_bargain_100 ?_
              exact g_ireturn X (zW hf) (by decide) (by decide) dX11_bargain_101
            · refine g_bipush (v := (-2)) X dX11_bargain_53 (by decide) ?_
              exact g_ireturn X (zW hf) (by decide) (by decide) dX11_bargain_55
def f_X11_bound  (a0 : Option Nat) (a1 : Int32) (a2 : Int32) (h : AH) : Option Int32 :=
  (f_X11_isClub a1 h).bind fun v1 =>
  if v1 = 0 then
    some (-1)
  else
    (f_X11_isDay a2 h).bind fun v2 =>
    if v2 = 0 then
      some (-1)
    else
      (gR 11 0 h a0).bind fun v3 =>
      (ck 2 h v3 (f_X2_boundTo v3 a1 a2 h)).bind fun v4 =>
      if v4 < 0 then
        some (-3)
      else
        some v4
set_option maxRecDepth 20000 in
theorem m_X11_bound  {a0 : Option Nat} {a1 : Int32} {a2 : Int32} {h : AH} {w : Int32} (hf : f_X11_bound a0 a1 a2 h = some w) : CT yX11_bound (wU yX11_bound cX11_bound 4 (some .int)) (rmD 3 0 0) 0 0 [tR a0, tI a1, tI a2] h (some (tI w), h) := by
  refine CT.of (cc := cX11_bound) (nL := 4) (ret := (some .int)) (by decide) (by simp [lg_sl, vOf_cat, wOf]) ?_
  intro K X
  refine g_locs (lv' := [(0, tR a0), (1, tI a1), (2, tI a2)]) (fun q hq => hq) ?_
  unfold f_X11_bound at hf
  refine g_iload_n X dX11_bound_0 1 rfl ?_
  refine g_callS (n := 1) (av := [tI a1]) (rest := []) X hf (fun v1 => (some (tI v1), h)) (fun _ q => m_X11_isClub q) (gdS tb_514 tb_515 tb_1 tb_516) rfl (by decide +kernel) rfl (by decide) (by decide) rfl (Nat.le_of_ble_eq_true rfl) dX11_bound_1 (fun v1 hf => ?_)
  refine g_ifeq (tgt := 14) X hf dX11_bound_4 (by decide) (fun hf => ?_) (fun hf => ?_)
  · refine g_iconst (v := (-1)) X dX11_bound_14 (by decide) ?_
    exact g_ireturn X (zP hf) (by decide) (by decide) dX11_bound_15
  · refine g_iload_n X dX11_bound_7 2 rfl ?_
    refine g_callS (n := 1) (av := [tI a2]) (rest := []) X hf (fun v2 => (some (tI v2), h)) (fun _ q => m_X11_isDay q) (gdS tb_406 tb_407 tb_1 tb_408) rfl (by decide +kernel) rfl (by decide) (by decide) rfl (Nat.le_of_ble_eq_true rfl) dX11_bound_8 (fun v2 hf => ?_)
    refine g_ifne (tgt := 16) X hf dX11_bound_11 (by decide) (fun hf => ?_) (fun hf => ?_)
    · refine g_iconst (v := (-1)) X dX11_bound_14 (by decide) ?_
      exact g_ireturn X (zP hf) (by decide) (by decide) dX11_bound_15
    · refine g_aload_n X dX11_bound_16 0 rfl ?_
      refine g_getR X hf (T := TX11) rfl (by decide) (by decide) in_RX11 tb_350 rfl dX11_bound_17 (fun v3 hf => ?_)
      refine g_iload_n X dX11_bound_20 1 rfl ?_
      refine g_iload_n X dX11_bound_21 2 rfl ?_
      refine g_callV (n := 2) (av := [tI a1, tI a2]) (rest := []) (k := 2) X hf (fun v4 => (some (tI v4), h)) (fun _ q => m_X2_boundTo q) (gdV tb_525 tb_526 tb_527 tb_2 tb_528) rfl (by decide +kernel) rfl (by decide) rfl (by decide) (by decide) rfl (Nat.le_of_ble_eq_true rfl) dX11_bound_22 (fun v4 hf => ?_)
      refine g_istore_n (lv' := [(0, tR a0), (1, tI a1), (2, tI a2), (3, tI v4)]) X dX11_bound_25 (by decide) (in_pick [1, 2, 3, 0] rfl) ?_
      refine g_iload_n X dX11_bound_26 3 rfl ?_
      refine g_ifge (tgt := 35) X hf dX11_bound_27 (by decide) (fun hf => ?_) (fun hf => ?_)
      · refine g_bipush (v := (-3)) X dX11_bound_30 (by decide) ?_
        refine g_goto (tgt := 36) X dX11_bound_32 (by decide) ?_
        exact g_ireturn X (zP hf) (by decide) (by decide) dX11_bound_36
      · refine g_iload_n X dX11_bound_35 3 rfl ?_
        exact g_ireturn X (zP hf) (by decide) (by decide) dX11_bound_36
def f_X11_comes  (a0 : Option Nat) (a1 : Int32) (a2 : Int32) (h : AH) : Option Int32 :=
  (gR 11 0 h a0).bind fun v1 =>
  (ck 2 h v1 (f_X2_hasMan v1 a1 h)).bind fun v2 =>
  if v2 = 0 then
    some (-1)
  else
    (f_X11_isDay a2 h).bind fun v3 =>
    if v3 = 0 then
      some (-1)
    else
      (gR 11 0 h a0).bind fun v4 =>
      (ck 2 h v4 (f_X2_isThere v4 a1 a2 (-1) h)).bind fun v5 =>
      (f_X11_asAnswer v5 h).bind fun v6 =>
      some v6
set_option maxRecDepth 20000 in
theorem m_X11_comes  {a0 : Option Nat} {a1 : Int32} {a2 : Int32} {h : AH} {w : Int32} (hf : f_X11_comes a0 a1 a2 h = some w) : CT yX11_comes (wU yX11_comes cX11_comes 3 (some .int)) (rmD 4 0 0) 0 0 [tR a0, tI a1, tI a2] h (some (tI w), h) := by
  refine CT.of (cc := cX11_comes) (nL := 3) (ret := (some .int)) (by decide) (by simp [lg_sl, vOf_cat, wOf]) ?_
  intro K X
  refine g_locs (lv' := [(0, tR a0), (1, tI a1), (2, tI a2)]) (fun q hq => hq) ?_
  unfold f_X11_comes at hf
  refine g_aload_n X dX11_comes_0 0 rfl ?_
  refine g_getR X hf (T := TX11) rfl (by decide) (by decide) in_RX11 tb_350 rfl dX11_comes_1 (fun v1 hf => ?_)
  refine g_iload_n X dX11_comes_4 1 rfl ?_
  refine g_callV (n := 1) (av := [tI a1]) (rest := []) (k := 2) X hf (fun v2 => (some (tI v2), h)) (fun _ q => m_X2_hasMan q) (gdV tb_457 tb_458 tb_459 tb_2 tb_460) rfl (by decide +kernel) rfl (by decide) rfl (by decide) (by decide) rfl (Nat.le_of_ble_eq_true rfl) dX11_comes_5 (fun v2 hf => ?_)
  refine g_ifeq (tgt := 18) X hf dX11_comes_8 (by decide) (fun hf => ?_) (fun hf => ?_)
  · refine g_iconst (v := (-1)) X dX11_comes_18 (by decide) ?_
    exact g_ireturn X (zP hf) (by decide) (by decide) dX11_comes_19
  · refine g_iload_n X dX11_comes_11 2 rfl ?_
    refine g_callS (n := 1) (av := [tI a2]) (rest := []) X hf (fun v3 => (some (tI v3), h)) (fun _ q => m_X11_isDay q) (gdS tb_406 tb_407 tb_1 tb_408) rfl (by decide +kernel) rfl (by decide) (by decide) rfl (Nat.le_of_ble_eq_true rfl) dX11_comes_12 (fun v3 hf => ?_)
    refine g_ifne (tgt := 20) X hf dX11_comes_15 (by decide) (fun hf => ?_) (fun hf => ?_)
    · refine g_iconst (v := (-1)) X dX11_comes_18 (by decide) ?_
      exact g_ireturn X (zP hf) (by decide) (by decide) dX11_comes_19
    · refine g_aload_n X dX11_comes_20 0 rfl ?_
      refine g_getR X hf (T := TX11) rfl (by decide) (by decide) in_RX11 tb_350 rfl dX11_comes_21 (fun v4 hf => ?_)
      refine g_iload_n X dX11_comes_24 1 rfl ?_
      refine g_iload_n X dX11_comes_25 2 rfl ?_
      refine g_iconst (v := (-1)) X dX11_comes_26 (by decide) ?_
      refine g_callV (n := 3) (av := [tI a1, tI a2, tI (-1)]) (rest := []) (k := 2) X hf (fun v5 => (some (tI v5), h)) (fun _ q => m_X2_isThere q) (gdV tb_533 tb_534 tb_535 tb_2 tb_536) rfl (by decide +kernel) rfl (by decide) rfl (by decide) (by decide) rfl (Nat.le_of_ble_eq_true rfl) dX11_comes_27 (fun v5 hf => ?_)
      refine g_callS (n := 1) (av := [tI v5]) (rest := []) X hf (fun v6 => (some (tI v6), h)) (fun _ q => m_X11_asAnswer q) (gdS tb_507 tb_508 tb_1 tb_509) rfl (by decide +kernel) rfl (by decide) (by decide) rfl (Nat.le_of_ble_eq_true rfl) dX11_comes_30 (fun v6 hf => ?_)
      exact g_ireturn X (zP hf) (by decide) (by decide) dX11_comes_33
def f_X11_cast  (a0 : Option Nat) (a1 : Int32) (a2 : Int32) (h : AH) : Option Int32 :=
  (gR 11 0 h a0).bind fun v1 =>
  (ck 2 h v1 (f_X2_hasMan v1 a1 h)).bind fun v2 =>
  if v2 = 0 then
    some (-1)
  else
    (f_X11_isDay a2 h).bind fun v3 =>
    if v3 = 0 then
      some (-1)
    else
      (gR 11 0 h a0).bind fun v4 =>
      (ck 2 h v4 (f_X2_isThere v4 a1 a2 (-1) h)).bind fun v5 =>
      if v5 = 0 then
        some (-4)
      else
        (gR 11 0 h a0).bind fun v6 =>
        (ck 2 h v6 (f_X2_castOf v6 a1 a2 (-1) h)).bind fun v7 =>
        if v7 < 0 then
          some (-3)
        else
          some v7
set_option maxRecDepth 20000 in
theorem m_X11_cast  {a0 : Option Nat} {a1 : Int32} {a2 : Int32} {h : AH} {w : Int32} (hf : f_X11_cast a0 a1 a2 h = some w) : CT yX11_cast (wU yX11_cast cX11_cast 4 (some .int)) (rmD 5 0 0) 0 0 [tR a0, tI a1, tI a2] h (some (tI w), h) := by
  refine CT.of (cc := cX11_cast) (nL := 4) (ret := (some .int)) (by decide) (by simp [lg_sl, vOf_cat, wOf]) ?_
  intro K X
  refine g_locs (lv' := [(0, tR a0), (1, tI a1), (2, tI a2)]) (fun q hq => hq) ?_
  unfold f_X11_cast at hf
  refine g_aload_n X dX11_cast_0 0 rfl ?_
  refine g_getR X hf (T := TX11) rfl (by decide) (by decide) in_RX11 tb_350 rfl dX11_cast_1 (fun v1 hf => ?_)
  refine g_iload_n X dX11_cast_4 1 rfl ?_
  refine g_callV (n := 1) (av := [tI a1]) (rest := []) (k := 2) X hf (fun v2 => (some (tI v2), h)) (fun _ q => m_X2_hasMan q) (gdV tb_457 tb_458 tb_459 tb_2 tb_460) rfl (by decide +kernel) rfl (by decide) rfl (by decide) (by decide) rfl (Nat.le_of_ble_eq_true rfl) dX11_cast_5 (fun v2 hf => ?_)
  refine g_ifeq (tgt := 18) X hf dX11_cast_8 (by decide) (fun hf => ?_) (fun hf => ?_)
  · refine g_iconst (v := (-1)) X dX11_cast_18 (by decide) ?_
    exact g_ireturn X (zP hf) (by decide) (by decide) dX11_cast_19
  · refine g_iload_n X dX11_cast_11 2 rfl ?_
    refine g_callS (n := 1) (av := [tI a2]) (rest := []) X hf (fun v3 => (some (tI v3), h)) (fun _ q => m_X11_isDay q) (gdS tb_406 tb_407 tb_1 tb_408) rfl (by decide +kernel) rfl (by decide) (by decide) rfl (Nat.le_of_ble_eq_true rfl) dX11_cast_12 (fun v3 hf => ?_)
    refine g_ifne (tgt := 20) X hf dX11_cast_15 (by decide) (fun hf => ?_) (fun hf => ?_)
    · refine g_iconst (v := (-1)) X dX11_cast_18 (by decide) ?_
      exact g_ireturn X (zP hf) (by decide) (by decide) dX11_cast_19
    · refine g_aload_n X dX11_cast_20 0 rfl ?_
      refine g_getR X hf (T := TX11) rfl (by decide) (by decide) in_RX11 tb_350 rfl dX11_cast_21 (fun v4 hf => ?_)
      refine g_iload_n X dX11_cast_24 1 rfl ?_
      refine g_iload_n X dX11_cast_25 2 rfl ?_
      refine g_iconst (v := (-1)) X dX11_cast_26 (by decide) ?_
      refine g_callV (n := 3) (av := [tI a1, tI a2, tI (-1)]) (rest := []) (k := 2) X hf (fun v5 => (some (tI v5), h)) (fun _ q => m_X2_isThere q) (gdV tb_533 tb_534 tb_535 tb_2 tb_536) rfl (by decide +kernel) rfl (by decide) rfl (by decide) (by decide) rfl (Nat.le_of_ble_eq_true rfl) dX11_cast_27 (fun v5 hf => ?_)
      refine g_ifne (tgt := 36) X hf dX11_cast_30 (by decide) (fun hf => ?_) (fun hf => ?_)
      · refine g_bipush (v := (-4)) X dX11_cast_33 (by decide) ?_
        exact g_ireturn X (zP hf) (by decide) (by decide) dX11_cast_35
      · refine g_aload_n X dX11_cast_36 0 rfl ?_
        refine g_getR X hf (T := TX11) rfl (by decide) (by decide) in_RX11 tb_350 rfl dX11_cast_37 (fun v6 hf => ?_)
        refine g_iload_n X dX11_cast_40 1 rfl ?_
        refine g_iload_n X dX11_cast_41 2 rfl ?_
        refine g_iconst (v := (-1)) X dX11_cast_42 (by decide) ?_
        refine g_callV (n := 3) (av := [tI a1, tI a2, tI (-1)]) (rest := []) (k := 2) X hf (fun v7 => (some (tI v7), h)) (fun _ q => m_X2_castOf q) (gdV tb_551 tb_552 tb_553 tb_2 tb_554) rfl (by decide +kernel) rfl (by decide) rfl (by decide) (by decide) rfl (Nat.le_of_ble_eq_true rfl) dX11_cast_43 (fun v7 hf => ?_)
        refine g_istore_n (lv' := [(0, tR a0), (1, tI a1), (2, tI a2), (3, tI v7)]) X dX11_cast_46 (by decide) (in_pick [1, 2, 3, 0] rfl) ?_
        refine g_iload_n X dX11_cast_47 3 rfl ?_
        refine g_ifge (tgt := 56) X hf dX11_cast_48 (by decide) (fun hf => ?_) (fun hf => ?_)
        · refine g_bipush (v := (-3)) X dX11_cast_51 (by decide) ?_
          refine g_goto (tgt := 57) X dX11_cast_53 (by decide) ?_
          exact g_ireturn X (zP hf) (by decide) (by decide) dX11_cast_57
        · refine g_iload_n X dX11_cast_56 3 rfl ?_
          exact g_ireturn X (zP hf) (by decide) (by decide) dX11_cast_57
def b_X11_sherd_139   (x0 : Option Nat) (x6 : Int32) (x7 : Option Nat) (s0 : Option Nat) (s1 : Int32) (h : AH) : Option (Int32 × AH) :=
  (pZ 8 5 h s0 s1).bind fun h1 =>
  (pI 8 6 h1 x7 (iRem x6 10000)).bind fun h2 =>
  (gR 11 0 h2 x0).bind fun v3 =>
  (ck 2 h2 v3 (f_X2_addSherd v3 h2)).bind fun p4 =>
  some (p4.1, p4.2)
set_option maxRecDepth 20000 in
theorem w_X11_sherd_139 {K : KT} {w : (Int32 × AH)}   (X : CX K cX11_sherd RX11 TB (some .int) "sherd" (rmD 4 0 0) 8 0 0)  (x0 : Option Nat) (x6 : Int32) (x7 : Option Nat) (s0 : Option Nat) (s1 : Int32) (h : AH) (hf : b_X11_sherd_139 x0 x6 x7 s0 s1 h = some w) : GG K (some (tI w.1), w.2) 0 0 139 [(0, tR x0), (6, tI x6), (7, tR x7)] [tI s1, tR s0] h := by
  unfold b_X11_sherd_139 at hf
  refine g_putZ X hf (T := TX8) rfl (by decide) (by decide) in_RX8 tyX8 tyX8_ok nmX8 tb_161 rfl rfl rfl dX11_sherd_139 (fun h1 hf => ?_)
  refine g_aload X dX11_sherd_142 2 rfl ?_
  refine g_iload X dX11_sherd_144 1 rfl ?_
  refine g_sipush (v := 10000) X dX11_sherd_146 (by decide) ?_
  refine g_iremc X dX11_sherd_149 (by decide) ?_
  refine g_putI X hf (T := TX8) rfl (by decide) (by decide) in_RX8 tyX8 tyX8_ok nmX8 tb_163 rfl rfl rfl dX11_sherd_150 (fun h2 hf => ?_)
  refine g_aload_n X dX11_sherd_153 0 rfl ?_
  refine g_getR X hf (T := TX11) rfl (by decide) (by decide) in_RX11 tb_350 rfl dX11_sherd_154 (fun v3 hf => ?_)
  refine g_callV (n := 0) (av := []) (rest := []) (k := 2) X hf (fun p4 => (some (tI p4.1), p4.2)) (fun _ q => m_X2_addSherd q) (gdV tb_568 tb_569 tb_570 tb_2 tb_571) rfl (by decide +kernel) rfl (by decide) rfl (by decide) (by decide) rfl (Nat.le_of_ble_eq_true rfl) dX11_sherd_157 (fun p4 hf => ?_)
  exact g_ireturn X (zW hf) (by decide) (by decide) dX11_sherd_160
def b_X11_sherd_49   (x0 : Option Nat) (x1 : Int32) (x2 : Int32) (x3 : Int32) (x4 : Int32) (x5 : Int32) (x6 : Int32) (h : AH) : Option (Int32 × AH) :=
  (f_X11_within x4 (-1) 4 h).bind fun v1 =>
  if v1 = 0 then
    some ((-1), h)
  else
    (f_X11_within x6 0 19999 h).bind fun v2 =>
    if v2 = 0 then
      some ((-1), h)
    else
      (gR 11 0 h x0).bind fun v3 =>
      (gI 2 12 h v3).bind fun v4 =>
      if v4 < 40 then
        (gR 11 0 h x0).bind fun v5 =>
        (gR 2 11 h v5).bind fun v6 =>
        (gR 11 0 h x0).bind fun v7 =>
        (gI 2 12 h v7).bind fun v8 =>
        (aR h v6 v8).bind fun v9 =>
        (ck 8 h v9 (f_X8_begin v9 x1 x2 x3 x4 h)).bind fun h10 =>
        (pI 8 4 h10 v9 x5).bind fun h11 =>
        if x6 < 10000 then
          b_X11_sherd_139 x0 x6 v9 v9 0 h11
        else
          b_X11_sherd_139 x0 x6 v9 v9 1 h11
      else
        some ((-2), h)
set_option maxRecDepth 20000 in
theorem w_X11_sherd_49 {K : KT} {w : (Int32 × AH)}   (X : CX K cX11_sherd RX11 TB (some .int) "sherd" (rmD 4 0 0) 8 0 0)  (x0 : Option Nat) (x1 : Int32) (x2 : Int32) (x3 : Int32) (x4 : Int32) (x5 : Int32) (x6 : Int32) (h : AH) (hf : b_X11_sherd_49 x0 x1 x2 x3 x4 x5 x6 h = some w) : GG K (some (tI w.1), w.2) 0 0 49 [(0, tR x0), (1, tI x1), (2, tI x2), (3, tI x3), (4, tI x4), (5, tI x5), (6, tI x6)] [] h := by
  unfold b_X11_sherd_49 at hf
  refine g_iload X dX11_sherd_49 4 rfl ?_
  refine g_iconst (v := (-1)) X dX11_sherd_51 (by decide) ?_
  refine g_iconst (v := 4) X dX11_sherd_52 (by decide) ?_
  refine g_callS (n := 3) (av := [tI x4, tI (-1), tI 4]) (rest := []) X hf (fun v1 => (some (tI v1), h)) (fun _ q => m_X11_within q) (gdS tb_388 tb_389 tb_1 tb_390) rfl (by decide +kernel) rfl (by decide) (by decide) rfl (Nat.le_of_ble_eq_true rfl) dX11_sherd_53 (fun v1 hf => ?_)
  refine g_ifne (tgt := 61) X hf dX11_sherd_56 (by decide) (fun hf => ?_) (fun hf => ?_)
  · refine g_iconst (v := (-1)) X dX11_sherd_59 (by decide) ?_
    exact g_ireturn X (zW hf) (by decide) (by decide) dX11_sherd_60
  · refine g_iload X dX11_sherd_61 6 rfl ?_
    refine g_iconst (v := 0) X dX11_sherd_63 (by decide) ?_
    refine g_sipush (v := 19999) X dX11_sherd_64 (by decide) ?_
    refine g_callS (n := 3) (av := [tI x6, tI 0, tI 19999]) (rest := []) X hf (fun v2 => (some (tI v2), h)) (fun _ q => m_X11_within q) (gdS tb_388 tb_389 tb_1 tb_390) rfl (by decide +kernel) rfl (by decide) (by decide) rfl (Nat.le_of_ble_eq_true rfl) dX11_sherd_67 (fun v2 hf => ?_)
    refine g_ifne (tgt := 75) X hf dX11_sherd_70 (by decide) (fun hf => ?_) (fun hf => ?_)
    · refine g_iconst (v := (-1)) X dX11_sherd_73 (by decide) ?_
      exact g_ireturn X (zW hf) (by decide) (by decide) dX11_sherd_74
    · refine g_aload_n X dX11_sherd_75 0 rfl ?_
      refine g_getR X hf (T := TX11) rfl (by decide) (by decide) in_RX11 tb_350 rfl dX11_sherd_76 (fun v3 hf => ?_)
      refine g_getI X hf (T := TX2) rfl (by decide) (by decide) in_RX2 tb_236 rfl dX11_sherd_79 (fun v4 hf => ?_)
      refine g_bipush (v := 40) X dX11_sherd_82 (by decide) ?_
      refine g_icmplt (tgt := 90) X hf dX11_sherd_84 (by decide) (fun hf => ?_) (fun hf => ?_)
      · refine g_aload_n X dX11_sherd_90 0 rfl ?_
        refine g_getR X hf (T := TX11) rfl (by decide) (by decide) in_RX11 tb_350 rfl dX11_sherd_91 (fun v5 hf => ?_)
        refine g_getR X hf (T := TX2) rfl (by decide) (by decide) in_RX2 tb_234 rfl dX11_sherd_94 (fun v6 hf => ?_)
        refine g_aload_n X dX11_sherd_97 0 rfl ?_
        refine g_getR X hf (T := TX11) rfl (by decide) (by decide) in_RX11 tb_350 rfl dX11_sherd_98 (fun v7 hf => ?_)
        refine g_getI X hf (T := TX2) rfl (by decide) (by decide) in_RX2 tb_236 rfl dX11_sherd_101 (fun v8 hf => ?_)
        refine g_aaload X hf dX11_sherd_104 (fun v9 hf => ?_)
        refine g_astore (lv' := [(0, tR x0), (1, tI x1), (2, tI x2), (3, tI x3), (4, tI x4), (5, tI x5), (6, tI x6), (7, tR v9)]) X dX11_sherd_105 (by decide) (in_pick [1, 2, 3, 4, 5, 6, 7, 0] rfl) ?_
        refine g_aload X dX11_sherd_107 7 rfl ?_
        refine g_iload_n X dX11_sherd_109 1 rfl ?_
        refine g_iload_n X dX11_sherd_110 2 rfl ?_
        refine g_iload_n X dX11_sherd_111 3 rfl ?_
        refine g_iload X dX11_sherd_112 4 rfl ?_
        refine g_callV (n := 4) (av := [tI x1, tI x2, tI x3, tI x4]) (rest := []) (k := 8) X hf (fun h10 => (none, h10)) (fun _ q => m_X8_begin q) (gdV tb_564 tb_565 tb_566 tb_7 tb_567) rfl (by decide +kernel) rfl (by decide) rfl (by decide) (by decide) rfl (Nat.le_of_ble_eq_true rfl) dX11_sherd_114 (fun h10 hf => ?_)
        refine g_aload X dX11_sherd_117 7 rfl ?_
        refine g_iload X dX11_sherd_119 5 rfl ?_
        refine g_putI X hf (T := TX8) rfl (by decide) (by decide) in_RX8 tyX8 tyX8_ok nmX8 tb_158 rfl rfl rfl dX11_sherd_121 (fun h11 hf => ?_)
        refine g_aload X dX11_sherd_124 7 rfl ?_
        refine g_iload X dX11_sherd_126 6 rfl ?_
        refine g_sipush (v := 10000) X dX11_sherd_128 (by decide) ?_
        refine g_icmplt (tgt := 138) X hf dX11_sherd_131 (by decide) (fun hf => ?_) (fun hf => ?_)
        · refine g_iconst (v := 0) X dX11_sherd_138 (by decide) ?_
          refine g_locs (lv' := [(0, tR x0), (6, tI x6), (7, tR v9)]) (in_pick [0, 6, 7] rfl) ?_
          exact w_X11_sherd_139 X x0 x6 v9 v9 0 h11 hf
        · refine g_iconst (v := 1) X dX11_sherd_134 (by decide) ?_
          refine g_goto (tgt := 139) X dX11_sherd_135 (by decide) ?_
          refine g_locs (lv' := [(0, tR x0), (6, tI x6), (7, tR v9)]) (in_pick [0, 6, 7] rfl) ?_
          exact w_X11_sherd_139 X x0 x6 v9 v9 1 h11 hf
      · refine g_bipush (v := (-2)) X dX11_sherd_87 (by decide) ?_
        exact g_ireturn X (zW hf) (by decide) (by decide) dX11_sherd_89
def b_X11_sherd_33   (x0 : Option Nat) (x1 : Int32) (x2 : Int32) (x3 : Int32) (x4 : Int32) (x5 : Int32) (x6 : Int32) (h : AH) : Option (Int32 × AH) :=
  if x3 = (-1) then
    b_X11_sherd_49 x0 x1 x2 x3 x4 x5 x6 h
  else
    (gR 11 0 h x0).bind fun v1 =>
    (ck 2 h v1 (f_X2_hasWard v1 x3 h)).bind fun v2 =>
    if v2 = 0 then
      some ((-1), h)
    else
      b_X11_sherd_49 x0 x1 x2 x3 x4 x5 x6 h
set_option maxRecDepth 20000 in
theorem w_X11_sherd_33 {K : KT} {w : (Int32 × AH)}   (X : CX K cX11_sherd RX11 TB (some .int) "sherd" (rmD 4 0 0) 8 0 0)  (x0 : Option Nat) (x1 : Int32) (x2 : Int32) (x3 : Int32) (x4 : Int32) (x5 : Int32) (x6 : Int32) (h : AH) (hf : b_X11_sherd_33 x0 x1 x2 x3 x4 x5 x6 h = some w) : GG K (some (tI w.1), w.2) 0 0 33 [(0, tR x0), (1, tI x1), (2, tI x2), (3, tI x3), (4, tI x4), (5, tI x5), (6, tI x6)] [] h := by
  unfold b_X11_sherd_33 at hf
  refine g_iload_n X dX11_sherd_33 3 rfl ?_
  refine g_iconst (v := (-1)) X dX11_sherd_34 (by decide) ?_
  refine g_icmpeq (tgt := 49) X hf dX11_sherd_35 (by decide) (fun hf => ?_) (fun hf => ?_)
  · exact w_X11_sherd_49 X x0 x1 x2 x3 x4 x5 x6 h hf
  · refine g_aload_n X dX11_sherd_38 0 rfl ?_
    refine g_getR X hf (T := TX11) rfl (by decide) (by decide) in_RX11 tb_350 rfl dX11_sherd_39 (fun v1 hf => ?_)
    refine g_iload_n X dX11_sherd_42 3 rfl ?_
    refine g_callV (n := 1) (av := [tI x3]) (rest := []) (k := 2) X hf (fun v2 => (some (tI v2), h)) (fun _ q => m_X2_hasWard q) (gdV tb_425 tb_426 tb_427 tb_2 tb_428) rfl (by decide +kernel) rfl (by decide) rfl (by decide) (by decide) rfl (Nat.le_of_ble_eq_true rfl) dX11_sherd_43 (fun v2 hf => ?_)
    refine g_ifeq (tgt := 59) X hf dX11_sherd_46 (by decide) (fun hf => ?_) (fun hf => ?_)
    · refine g_iconst (v := (-1)) X dX11_sherd_59 (by decide) ?_
      exact g_ireturn X (zW hf) (by decide) (by decide) dX11_sherd_60
    · exact w_X11_sherd_49 X x0 x1 x2 x3 x4 x5 x6 h hf
def b_X11_sherd_18   (x0 : Option Nat) (x1 : Int32) (x2 : Int32) (x3 : Int32) (x4 : Int32) (x5 : Int32) (x6 : Int32) (h : AH) : Option (Int32 × AH) :=
  if x5 = 0 then
    b_X11_sherd_33 x0 x1 x2 x3 x4 x5 x6 h
  else
    (f_X11_isName x5 h).bind fun v1 =>
    if v1 = 0 then
      some ((-1), h)
    else
      b_X11_sherd_33 x0 x1 x2 x3 x4 x5 x6 h
set_option maxRecDepth 20000 in
theorem w_X11_sherd_18 {K : KT} {w : (Int32 × AH)}   (X : CX K cX11_sherd RX11 TB (some .int) "sherd" (rmD 4 0 0) 8 0 0)  (x0 : Option Nat) (x1 : Int32) (x2 : Int32) (x3 : Int32) (x4 : Int32) (x5 : Int32) (x6 : Int32) (h : AH) (hf : b_X11_sherd_18 x0 x1 x2 x3 x4 x5 x6 h = some w) : GG K (some (tI w.1), w.2) 0 0 18 [(0, tR x0), (1, tI x1), (2, tI x2), (3, tI x3), (4, tI x4), (5, tI x5), (6, tI x6)] [] h := by
  unfold b_X11_sherd_18 at hf
  refine g_iload X dX11_sherd_18 5 rfl ?_
  refine g_ifeq (tgt := 33) X hf dX11_sherd_20 (by decide) (fun hf => ?_) (fun hf => ?_)
  · exact w_X11_sherd_33 X x0 x1 x2 x3 x4 x5 x6 h hf
  · refine g_iload X dX11_sherd_23 5 rfl ?_
    refine g_callS (n := 1) (av := [tI x5]) (rest := []) X hf (fun v1 => (some (tI v1), h)) (fun _ q => m_X11_isName q) (gdS tb_433 tb_434 tb_1 tb_435) rfl (by decide +kernel) rfl (by decide) (by decide) rfl (Nat.le_of_ble_eq_true rfl) dX11_sherd_25 (fun v1 hf => ?_)
    refine g_ifne (tgt := 33) X hf dX11_sherd_28 (by decide) (fun hf => ?_) (fun hf => ?_)
    · refine g_iconst (v := (-1)) X dX11_sherd_31 (by decide) ?_
      exact g_ireturn X (zW hf) (by decide) (by decide) dX11_sherd_32
    · exact w_X11_sherd_33 X x0 x1 x2 x3 x4 x5 x6 h hf
def f_X11_sherd  (a0 : Option Nat) (a1 : Int32) (a2 : Int32) (a3 : Int32) (a4 : Int32) (a5 : Int32) (a6 : Int32) (h : AH) : Option (Int32 × AH) :=
  (f_X11_isName a1 h).bind fun v1 =>
  if v1 = 0 then
    some ((-1), h)
  else
    if a2 = 0 then
      b_X11_sherd_18 a0 a1 a2 a3 a4 a5 a6 h
    else
      (f_X11_isName a2 h).bind fun v2 =>
      if v2 = 0 then
        some ((-1), h)
      else
        b_X11_sherd_18 a0 a1 a2 a3 a4 a5 a6 h
set_option maxRecDepth 20000 in
theorem m_X11_sherd  {a0 : Option Nat} {a1 : Int32} {a2 : Int32} {a3 : Int32} {a4 : Int32} {a5 : Int32} {a6 : Int32} {h : AH} {w : (Int32 × AH)} (hf : f_X11_sherd a0 a1 a2 a3 a4 a5 a6 h = some w) : CT yX11_sherd (wU yX11_sherd cX11_sherd 8 (some .int)) (rmD 4 0 0) 0 0 [tR a0, tI a1, tI a2, tI a3, tI a4, tI a5, tI a6] h (some (tI w.1), w.2) := by
  refine CT.of (cc := cX11_sherd) (nL := 8) (ret := (some .int)) (by decide) (by simp [lg_sl, vOf_cat, wOf]) ?_
  intro K X
  refine g_locs (lv' := [(0, tR a0), (1, tI a1), (2, tI a2), (3, tI a3), (4, tI a4), (5, tI a5), (6, tI a6)]) (fun q hq => hq) ?_
  unfold f_X11_sherd at hf
  refine g_iload_n X dX11_sherd_0 1 rfl ?_
  refine g_callS (n := 1) (av := [tI a1]) (rest := []) X hf (fun v1 => (some (tI v1), h)) (fun _ q => m_X11_isName q) (gdS tb_433 tb_434 tb_1 tb_435) rfl (by decide +kernel) rfl (by decide) (by decide) rfl (Nat.le_of_ble_eq_true rfl) dX11_sherd_1 (fun v1 hf => ?_)
  refine g_ifeq (tgt := 31) X hf dX11_sherd_4 (by decide) (fun hf => ?_) (fun hf => ?_)
  · refine g_iconst (v := (-1)) X dX11_sherd_31 (by decide) ?_
    exact g_ireturn X (zW hf) (by decide) (by decide) dX11_sherd_32
  · refine g_iload_n X dX11_sherd_7 2 rfl ?_
    refine g_ifeq (tgt := 18) X hf dX11_sherd_8 (by decide) (fun hf => ?_) (fun hf => ?_)
    · exact w_X11_sherd_18 X a0 a1 a2 a3 a4 a5 a6 h hf
    · refine g_iload_n X dX11_sherd_11 2 rfl ?_
      refine g_callS (n := 1) (av := [tI a2]) (rest := []) X hf (fun v2 => (some (tI v2), h)) (fun _ q => m_X11_isName q) (gdS tb_433 tb_434 tb_1 tb_435) rfl (by decide +kernel) rfl (by decide) (by decide) rfl (Nat.le_of_ble_eq_true rfl) dX11_sherd_12 (fun v2 hf => ?_)
      refine g_ifeq (tgt := 31) X hf dX11_sherd_15 (by decide) (fun hf => ?_) (fun hf => ?_)
      · refine g_iconst (v := (-1)) X dX11_sherd_31 (by decide) ?_
        exact g_ireturn X (zW hf) (by decide) (by decide) dX11_sherd_32
      · exact w_X11_sherd_18 X a0 a1 a2 a3 a4 a5 a6 h hf
def b_X11_drawCasts_146  (k8 : Option Nat → Int32 → Int32 → Int32 → Int32 → AH → Option AH) (x0 : Option Nat) (x1 : Int32) (x2 : Int32) (x3 : Int32) (x4 : Int32) (s0 : Option Nat) (s1 : Int32) (s2 : Int32) (h : AH) : Option AH :=
  (sI h s0 s1 s2).bind fun h1 =>
  k8 x0 x1 x2 x3 (x4 + 1) h1
set_option maxRecDepth 20000 in
theorem w_X11_drawCasts_146 {K : KT} {w : AH} {k8 : Option Nat → Int32 → Int32 → Int32 → Int32 → AH → Option AH}  (X : CX K cX11_drawCasts RX11 TB none "drawCasts" (rmD 5 0 0) 7 0 0) (hk8 : ∀ (x0 : Option Nat) (x1 : Int32) (x2 : Int32) (x3 : Int32) (x4 : Int32) (h : AH), k8 x0 x1 x2 x3 x4 h = some w → GG K (none, w) 0 0 8 [(0, tR x0), (1, tI x1), (2, tI x2), (3, tI x3), (4, tI x4)] [] h) (x0 : Option Nat) (x1 : Int32) (x2 : Int32) (x3 : Int32) (x4 : Int32) (s0 : Option Nat) (s1 : Int32) (s2 : Int32) (h : AH) (hf : b_X11_drawCasts_146 k8 x0 x1 x2 x3 x4 s0 s1 s2 h = some w) : GG K (none, w) 0 0 146 [(0, tR x0), (1, tI x1), (2, tI x2), (3, tI x3), (4, tI x4)] [tI s2, tI s1, tR s0] h := by
  unfold b_X11_drawCasts_146 at hf
  refine g_iastore X hf dX11_drawCasts_146 (fun h1 hf => ?_)
  refine g_iinc (v := (x4 + 1)) (lv' := [(0, tR x0), (1, tI x1), (2, tI x2), (3, tI x3), (4, tI (x4 + 1))]) X dX11_drawCasts_147 4 rfl (by rfl) (by decide) (in_pick [1, 2, 3, 4, 0] rfl) ?_
  refine g_goto (tgt := 8) X dX11_drawCasts_150 (by decide) ?_
  exact hk8 x0 x1 x2 x3 (x4 + 1) h1 hf
def b_X11_drawCasts_117  (k8 : Option Nat → Int32 → Int32 → Int32 → Int32 → AH → Option AH) (x0 : Option Nat) (x1 : Int32) (x2 : Int32) (x3 : Int32) (x4 : Int32) (x5 : Int32) (s0 : Int32) (h : AH) : Option AH :=
  (gR 11 5 h x0).bind fun v1 =>
  if s0 = 0 then
    (gR 11 0 h x0).bind fun v2 =>
    (ck 2 h v2 (f_X2_castOf v2 x4 x1 x2 h)).bind fun v3 =>
    b_X11_drawCasts_146 k8 x0 x1 x2 x3 x4 v1 x4 v3 h
  else
    b_X11_drawCasts_146 k8 x0 x1 x2 x3 x4 v1 x4 x5 h
set_option maxRecDepth 20000 in
theorem w_X11_drawCasts_117 {K : KT} {w : AH} {k8 : Option Nat → Int32 → Int32 → Int32 → Int32 → AH → Option AH}  (X : CX K cX11_drawCasts RX11 TB none "drawCasts" (rmD 5 0 0) 7 0 0) (hk8 : ∀ (x0 : Option Nat) (x1 : Int32) (x2 : Int32) (x3 : Int32) (x4 : Int32) (h : AH), k8 x0 x1 x2 x3 x4 h = some w → GG K (none, w) 0 0 8 [(0, tR x0), (1, tI x1), (2, tI x2), (3, tI x3), (4, tI x4)] [] h) (x0 : Option Nat) (x1 : Int32) (x2 : Int32) (x3 : Int32) (x4 : Int32) (x5 : Int32) (s0 : Int32) (h : AH) (hf : b_X11_drawCasts_117 k8 x0 x1 x2 x3 x4 x5 s0 h = some w) : GG K (none, w) 0 0 117 [(0, tR x0), (1, tI x1), (2, tI x2), (3, tI x3), (4, tI x4), (5, tI x5)] [tI s0] h := by
  unfold b_X11_drawCasts_117 at hf
  refine g_istore (lv' := [(0, tR x0), (1, tI x1), (2, tI x2), (3, tI x3), (4, tI x4), (5, tI x5), (6, tI s0)]) X dX11_drawCasts_117 (by decide) (in_pick [1, 2, 3, 4, 5, 6, 0] rfl) ?_
  refine g_aload_n X dX11_drawCasts_119 0 rfl ?_
  refine g_getR X hf (T := TX11) rfl (by decide) (by decide) in_RX11 tb_355 rfl dX11_drawCasts_120 (fun v1 hf => ?_)
  refine g_iload X dX11_drawCasts_123 4 rfl ?_
  refine g_iload X dX11_drawCasts_125 6 rfl ?_
  refine g_ifeq (tgt := 135) X hf dX11_drawCasts_127 (by decide) (fun hf => ?_) (fun hf => ?_)
  · refine g_aload_n X dX11_drawCasts_135 0 rfl ?_
    refine g_getR X hf (T := TX11) rfl (by decide) (by decide) in_RX11 tb_350 rfl dX11_drawCasts_136 (fun v2 hf => ?_)
    refine g_iload X dX11_drawCasts_139 4 rfl ?_
    refine g_iload_n X dX11_drawCasts_141 1 rfl ?_
    refine g_iload_n X dX11_drawCasts_142 2 rfl ?_
    refine g_callV (n := 3) (av := [tI x4, tI x1, tI x2]) (rest := [tI x4, tR v1]) (k := 2) X hf (fun v3 => (some (tI v3), h)) (fun _ q => m_X2_castOf q) (gdV tb_551 tb_552 tb_553 tb_2 tb_554) rfl (by decide +kernel) rfl (by decide) rfl (by decide) (by decide) rfl (Nat.le_of_ble_eq_true rfl) dX11_drawCasts_143 (fun v3 hf => ?_)
    refine g_locs (lv' := [(0, tR x0), (1, tI x1), (2, tI x2), (3, tI x3), (4, tI x4)]) (in_pick [0, 1, 2, 3, 4] rfl) ?_
    exact w_X11_drawCasts_146 X hk8 x0 x1 x2 x3 x4 v1 x4 v3 h hf
  · refine g_iload X dX11_drawCasts_130 5 rfl ?_
    refine g_goto (tgt := 146) X dX11_drawCasts_132 (by decide) ?_
    refine g_locs (lv' := [(0, tR x0), (1, tI x1), (2, tI x2), (3, tI x3), (4, tI x4)]) (in_pick [0, 1, 2, 3, 4] rfl) ?_
    exact w_X11_drawCasts_146 X hk8 x0 x1 x2 x3 x4 v1 x4 x5 h hf
def b_X11_drawCasts_84  (k8 : Option Nat → Int32 → Int32 → Int32 → Int32 → AH → Option AH) (x0 : Option Nat) (x1 : Int32) (x2 : Int32) (x3 : Int32) (x4 : Int32) (s0 : Int32) (h : AH) : Option AH :=
  if s0 < 0 then
    b_X11_drawCasts_117 k8 x0 x1 x2 x3 x4 s0 0 h
  else
    if s0 = x4 then
      b_X11_drawCasts_117 k8 x0 x1 x2 x3 x4 s0 0 h
    else
      (gR 11 0 h x0).bind fun v1 =>
      (ck 2 h v1 (f_X2_isSent v1 s0 x1 x2 h)).bind fun v2 =>
      if v2 = 0 then
        b_X11_drawCasts_117 k8 x0 x1 x2 x3 x4 s0 1 h
      else
        b_X11_drawCasts_117 k8 x0 x1 x2 x3 x4 s0 0 h
set_option maxRecDepth 20000 in
theorem w_X11_drawCasts_84 {K : KT} {w : AH} {k8 : Option Nat → Int32 → Int32 → Int32 → Int32 → AH → Option AH}  (X : CX K cX11_drawCasts RX11 TB none "drawCasts" (rmD 5 0 0) 7 0 0) (hk8 : ∀ (x0 : Option Nat) (x1 : Int32) (x2 : Int32) (x3 : Int32) (x4 : Int32) (h : AH), k8 x0 x1 x2 x3 x4 h = some w → GG K (none, w) 0 0 8 [(0, tR x0), (1, tI x1), (2, tI x2), (3, tI x3), (4, tI x4)] [] h) (x0 : Option Nat) (x1 : Int32) (x2 : Int32) (x3 : Int32) (x4 : Int32) (s0 : Int32) (h : AH) (hf : b_X11_drawCasts_84 k8 x0 x1 x2 x3 x4 s0 h = some w) : GG K (none, w) 0 0 84 [(0, tR x0), (1, tI x1), (2, tI x2), (3, tI x3), (4, tI x4)] [tI s0] h := by
  unfold b_X11_drawCasts_84 at hf
  refine g_istore (lv' := [(0, tR x0), (1, tI x1), (2, tI x2), (3, tI x3), (4, tI x4), (5, tI s0)]) X dX11_drawCasts_84 (by decide) (in_pick [1, 2, 3, 4, 5, 0] rfl) ?_
  refine g_iload X dX11_drawCasts_86 5 rfl ?_
  refine g_iflt (tgt := 116) X hf dX11_drawCasts_88 (by decide) (fun hf => ?_) (fun hf => ?_)
  · refine g_iconst (v := 0) X dX11_drawCasts_116 (by decide) ?_
    exact w_X11_drawCasts_117 X hk8 x0 x1 x2 x3 x4 s0 0 h hf
  · refine g_iload X dX11_drawCasts_91 5 rfl ?_
    refine g_iload X dX11_drawCasts_93 4 rfl ?_
    refine g_icmpeq (tgt := 116) X hf dX11_drawCasts_95 (by decide) (fun hf => ?_) (fun hf => ?_)
    · refine g_iconst (v := 0) X dX11_drawCasts_116 (by decide) ?_
      exact w_X11_drawCasts_117 X hk8 x0 x1 x2 x3 x4 s0 0 h hf
    · refine g_aload_n X dX11_drawCasts_98 0 rfl ?_
      refine g_getR X hf (T := TX11) rfl (by decide) (by decide) in_RX11 tb_350 rfl dX11_drawCasts_99 (fun v1 hf => ?_)
      refine g_iload X dX11_drawCasts_102 5 rfl ?_
      refine g_iload_n X dX11_drawCasts_104 1 rfl ?_
      refine g_iload_n X dX11_drawCasts_105 2 rfl ?_
      refine g_callV (n := 3) (av := [tI s0, tI x1, tI x2]) (rest := []) (k := 2) X hf (fun v2 => (some (tI v2), h)) (fun _ q => m_X2_isSent q) (gdV tb_579 tb_538 tb_539 tb_2 tb_540) rfl (by decide +kernel) rfl (by decide) rfl (by decide) (by decide) rfl (Nat.le_of_ble_eq_true rfl) dX11_drawCasts_106 (fun v2 hf => ?_)
      refine g_ifne (tgt := 116) X hf dX11_drawCasts_109 (by decide) (fun hf => ?_) (fun hf => ?_)
      · refine g_iconst (v := 1) X dX11_drawCasts_112 (by decide) ?_
        refine g_goto (tgt := 117) X dX11_drawCasts_113 (by decide) ?_
        exact w_X11_drawCasts_117 X hk8 x0 x1 x2 x3 x4 s0 1 h hf
      · refine g_iconst (v := 0) X dX11_drawCasts_116 (by decide) ?_
        exact w_X11_drawCasts_117 X hk8 x0 x1 x2 x3 x4 s0 0 h hf
def b_X11_drawCasts_8    : Nat → Option Nat → Int32 → Int32 → Int32 → Int32 → AH → Option AH
  | 0 => fun _ _ _ _ _ _ => none
  | n + 1 => fun x0 x1 x2 x3 x4 h =>
    (gR 11 0 h x0).bind fun v1 =>
    (gI 2 6 h v1).bind fun v2 =>
    if x4 < v2 then
      (gR 11 5 h x0).bind fun v3 =>
      (sI h v3 x4 (-1)).bind fun h4 =>
      (gR 11 0 h4 x0).bind fun v5 =>
      (ck 2 h4 v5 (f_X2_isThere v5 x4 x1 x2 h4)).bind fun v6 =>
      if v6 = 0 then
        b_X11_drawCasts_8 n x0 x1 x2 x3 (x4 + 1) h4
      else
        (gI 11 6 h4 x0).bind fun v7 =>
        (pI 11 6 h4 x0 (v7 ||| (1 <<< (x4 &&& 31)))).bind fun h8 =>
        if x3 = 0 then
          b_X11_drawCasts_84 (b_X11_drawCasts_8 n) x0 x1 x2 x3 x4 (-1) h8
        else
          (gR 11 0 h8 x0).bind fun v9 =>
          (gR 11 0 h8 x0).bind fun v10 =>
          (gR 2 5 h8 v10).bind fun v11 =>
          (aR h8 v11 x4).bind fun v12 =>
          (gI 5 1 h8 v12).bind fun v13 =>
          (ck 2 h8 v9 (f_X2_boundTo v9 v13 x1 h8)).bind fun v14 =>
          b_X11_drawCasts_84 (b_X11_drawCasts_8 n) x0 x1 x2 x3 x4 v14 h8
    else
      some h
set_option maxRecDepth 20000 in
theorem w_X11_drawCasts_8 {K : KT} {w : AH}   (X : CX K cX11_drawCasts RX11 TB none "drawCasts" (rmD 5 0 0) 7 0 0)  : ∀ (n : Nat) (x0 : Option Nat) (x1 : Int32) (x2 : Int32) (x3 : Int32) (x4 : Int32) (h : AH), b_X11_drawCasts_8 n x0 x1 x2 x3 x4 h = some w → GG K (none, w) 0 0 8 [(0, tR x0), (1, tI x1), (2, tI x2), (3, tI x3), (4, tI x4)] [] h := by
  intro n
  induction n with
  | zero =>
    intro x0 x1 x2 x3 x4 h hf
    cases (show none = some w from hf)
  | succ n ih =>
    intro x0 x1 x2 x3 x4 h hf
    rw [b_X11_drawCasts_8] at hf
    refine g_iload X dX11_drawCasts_8 4 rfl ?_
    refine g_aload_n X dX11_drawCasts_10 0 rfl ?_
    refine g_getR X hf (T := TX11) rfl (by decide) (by decide) in_RX11 tb_350 rfl dX11_drawCasts_11 (fun v1 hf => ?_)
    refine g_getI X hf (T := TX2) rfl (by decide) (by decide) in_RX2 tb_224 rfl dX11_drawCasts_14 (fun v2 hf => ?_)
    refine g_icmpge (tgt := 153) X hf dX11_drawCasts_17 (by decide) (fun hf => ?_) (fun hf => ?_)
    · refine g_aload_n X dX11_drawCasts_20 0 rfl ?_
      refine g_getR X hf (T := TX11) rfl (by decide) (by decide) in_RX11 tb_355 rfl dX11_drawCasts_21 (fun v3 hf => ?_)
      refine g_iload X dX11_drawCasts_24 4 rfl ?_
      refine g_iconst (v := (-1)) X dX11_drawCasts_26 (by decide) ?_
      refine g_iastore X hf dX11_drawCasts_27 (fun h4 hf => ?_)
      refine g_aload_n X dX11_drawCasts_28 0 rfl ?_
      refine g_getR X hf (T := TX11) rfl (by decide) (by decide) in_RX11 tb_350 rfl dX11_drawCasts_29 (fun v5 hf => ?_)
      refine g_iload X dX11_drawCasts_32 4 rfl ?_
      refine g_iload_n X dX11_drawCasts_34 1 rfl ?_
      refine g_iload_n X dX11_drawCasts_35 2 rfl ?_
      refine g_callV (n := 3) (av := [tI x4, tI x1, tI x2]) (rest := []) (k := 2) X hf (fun v6 => (some (tI v6), h4)) (fun _ q => m_X2_isThere q) (gdV tb_533 tb_534 tb_535 tb_2 tb_536) rfl (by decide +kernel) rfl (by decide) rfl (by decide) (by decide) rfl (Nat.le_of_ble_eq_true rfl) dX11_drawCasts_36 (fun v6 hf => ?_)
      refine g_ifeq (tgt := 147) X hf dX11_drawCasts_39 (by decide) (fun hf => ?_) (fun hf => ?_)
      · refine g_iinc (v := (x4 + 1)) (lv' := [(0, tR x0), (1, tI x1), (2, tI x2), (3, tI x3), (4, tI (x4 + 1))]) X dX11_drawCasts_147 4 rfl (by rfl) (by decide) (in_pick [1, 2, 3, 4, 0] rfl) ?_
        refine g_goto (tgt := 8) X dX11_drawCasts_150 (by decide) ?_
        exact ih x0 x1 x2 x3 (x4 + 1) h4 hf
      · refine g_aload_n X dX11_drawCasts_42 0 rfl ?_
        refine g_dup X dX11_drawCasts_43 rfl ?_
        refine g_getI X hf (T := TX11) rfl (by decide) (by decide) in_RX11 tb_356 rfl dX11_drawCasts_44 (fun v7 hf => ?_)
        refine g_iconst (v := 1) X dX11_drawCasts_47 (by decide) ?_
        refine g_iload X dX11_drawCasts_48 4 rfl ?_
        refine g_ishl X dX11_drawCasts_50 ?_
        refine g_ior X dX11_drawCasts_51 ?_
        refine g_putI X hf (T := TX11) rfl (by decide) (by decide) in_RX11 tyX11 tyX11_ok nmX11 tb_356 rfl rfl rfl dX11_drawCasts_52 (fun h8 hf => ?_)
        refine g_iload_n X dX11_drawCasts_55 3 rfl ?_
        refine g_ifeq (tgt := 83) X hf dX11_drawCasts_56 (by decide) (fun hf => ?_) (fun hf => ?_)
        · refine g_iconst (v := (-1)) X dX11_drawCasts_83 (by decide) ?_
          exact w_X11_drawCasts_84 X ih x0 x1 x2 x3 x4 (-1) h8 hf
        · refine g_aload_n X dX11_drawCasts_59 0 rfl ?_
          refine g_getR X hf (T := TX11) rfl (by decide) (by decide) in_RX11 tb_350 rfl dX11_drawCasts_60 (fun v9 hf => ?_)
          refine g_aload_n X dX11_drawCasts_63 0 rfl ?_
          refine g_getR X hf (T := TX11) rfl (by decide) (by decide) in_RX11 tb_350 rfl dX11_drawCasts_64 (fun v10 hf => ?_)
          refine g_getR X hf (T := TX2) rfl (by decide) (by decide) in_RX2 tb_222 rfl dX11_drawCasts_67 (fun v11 hf => ?_)
          refine g_iload X dX11_drawCasts_70 4 rfl ?_
          refine g_aaload X hf dX11_drawCasts_72 (fun v12 hf => ?_)
          refine g_getI X hf (T := TX5) rfl (by decide) (by decide) in_RX5 tb_73 rfl dX11_drawCasts_73 (fun v13 hf => ?_)
          refine g_iload_n X dX11_drawCasts_76 1 rfl ?_
          refine g_callV (n := 2) (av := [tI v13, tI x1]) (rest := []) (k := 2) X hf (fun v14 => (some (tI v14), h8)) (fun _ q => m_X2_boundTo q) (gdV tb_525 tb_526 tb_527 tb_2 tb_528) rfl (by decide +kernel) rfl (by decide) rfl (by decide) (by decide) rfl (Nat.le_of_ble_eq_true rfl) dX11_drawCasts_77 (fun v14 hf => ?_)
          refine g_goto (tgt := 84) X dX11_drawCasts_80 (by decide) ?_
          exact w_X11_drawCasts_84 X ih x0 x1 x2 x3 x4 v14 h8 hf
    · exact g_vreturn X (zV hf) (by decide) (by decide) dX11_drawCasts_153
def f_X11_drawCasts  (a0 : Option Nat) (a1 : Int32) (a2 : Int32) (a3 : Int32) (h : AH) : Option AH :=
  (pI 11 6 h a0 0).bind fun h1 =>
  b_X11_drawCasts_8 FU a0 a1 a2 a3 0 h1
set_option maxRecDepth 20000 in
theorem m_X11_drawCasts  {a0 : Option Nat} {a1 : Int32} {a2 : Int32} {a3 : Int32} {h : AH} {w : AH} (hf : f_X11_drawCasts a0 a1 a2 a3 h = some w) : CT yX11_drawCasts (wU yX11_drawCasts cX11_drawCasts 7 none) (rmD 5 0 0) 0 0 [tR a0, tI a1, tI a2, tI a3] h (none, w) := by
  refine CT.of (cc := cX11_drawCasts) (nL := 7) (ret := none) (by decide) (by simp [lg_sl, vOf_cat, wOf]) ?_
  intro K X
  refine g_locs (lv' := [(0, tR a0), (1, tI a1), (2, tI a2), (3, tI a3)]) (fun q hq => hq) ?_
  unfold f_X11_drawCasts at hf
  refine g_aload_n X dX11_drawCasts_0 0 rfl ?_
  refine g_iconst (v := 0) X dX11_drawCasts_1 (by decide) ?_
  refine g_putI X hf (T := TX11) rfl (by decide) (by decide) in_RX11 tyX11 tyX11_ok nmX11 tb_356 rfl rfl rfl dX11_drawCasts_2 (fun h1 hf => ?_)
  refine g_iconst (v := 0) X dX11_drawCasts_5 (by decide) ?_
  refine g_istore (lv' := [(0, tR a0), (1, tI a1), (2, tI a2), (3, tI a3), (4, tI 0)]) X dX11_drawCasts_6 (by decide) (in_pick [1, 2, 3, 4, 0] rfl) ?_
  exact w_X11_drawCasts_8 X FU a0 a1 a2 a3 0 h1 hf
def b_X11_scratch_48   (x0 : Option Nat) (x1 : Option Nat) (x2 : Option Nat) (x3 : Option Nat) (x4 : Int32) (s0 : Int32) (h : AH) : Option AH :=
  (gI 5 2 h x2).bind fun v1 =>
  (gR 11 0 h x0).bind fun v2 =>
  (gR 2 3 h v2).bind fun v3 =>
  (gI 5 0 h x1).bind fun v4 =>
  (aR h v3 v4).bind fun v5 =>
  (gI 9 0 h v5).bind fun v6 =>
  (ck 8 h x3 (f_X8_begin x3 v1 x4 s0 v6 h)).bind fun h7 =>
  (gI 5 4 h7 x1).bind fun v8 =>
  (pI 8 6 h7 x3 v8).bind fun h9 =>
  (gR 11 0 h9 x0).bind fun v10 =>
  (ck 2 h9 v10 (f_X2_addSherd v10 h9)).bind fun p11 =>
  some p11.2
set_option maxRecDepth 20000 in
theorem w_X11_scratch_48 {K : KT} {w : AH}   (X : CX K cX11_scratch RX11 TB none "scratch" (rmD 4 0 0) 6 0 0)  (x0 : Option Nat) (x1 : Option Nat) (x2 : Option Nat) (x3 : Option Nat) (x4 : Int32) (s0 : Int32) (h : AH) (hf : b_X11_scratch_48 x0 x1 x2 x3 x4 s0 h = some w) : GG K (none, w) 0 0 48 [(0, tR x0), (1, tR x1), (2, tR x2), (3, tR x3), (4, tI x4)] [tI s0] h := by
  unfold b_X11_scratch_48 at hf
  refine g_istore (lv' := [(0, tR x0), (1, tR x1), (2, tR x2), (3, tR x3), (4, tI x4), (5, tI s0)]) X dX11_scratch_48 (by decide) (in_pick [1, 2, 3, 4, 5, 0] rfl) ?_
  refine g_aload_n X dX11_scratch_50 3 rfl ?_
  refine g_aload_n X dX11_scratch_51 2 rfl ?_
  refine g_getI X hf (T := TX5) rfl (by decide) (by decide) in_RX5 tb_77 rfl dX11_scratch_52 (fun v1 hf => ?_)
  refine g_iload X dX11_scratch_55 4 rfl ?_
  refine g_iload X dX11_scratch_57 5 rfl ?_
  refine g_aload_n X dX11_scratch_59 0 rfl ?_
  refine g_getR X hf (T := TX11) rfl (by decide) (by decide) in_RX11 tb_350 rfl dX11_scratch_60 (fun v2 hf => ?_)
  refine g_getR X hf (T := TX2) rfl (by decide) (by decide) in_RX2 tb_218 rfl dX11_scratch_63 (fun v3 hf => ?_)
  refine g_aload_n X dX11_scratch_66 1 rfl ?_
  refine g_getI X hf (T := TX5) rfl (by decide) (by decide) in_RX5 tb_71 rfl dX11_scratch_67 (fun v4 hf => ?_)
  refine g_aaload X hf dX11_scratch_70 (fun v5 hf => ?_)
  refine g_getI X hf (T := TX9) rfl (by decide) (by decide) in_RX9 tb_53 rfl dX11_scratch_71 (fun v6 hf => ?_)
  refine g_callV (n := 4) (av := [tI v1, tI x4, tI s0, tI v6]) (rest := []) (k := 8) X hf (fun h7 => (none, h7)) (fun _ q => m_X8_begin q) (gdV tb_564 tb_565 tb_566 tb_7 tb_567) rfl (by decide +kernel) rfl (by decide) rfl (by decide) (by decide) rfl (Nat.le_of_ble_eq_true rfl) dX11_scratch_74 (fun h7 hf => ?_)
  refine g_aload_n X dX11_scratch_77 3 rfl ?_
  refine g_aload_n X dX11_scratch_78 1 rfl ?_
  refine g_getI X hf (T := TX5) rfl (by decide) (by decide) in_RX5 tb_82 rfl dX11_scratch_79 (fun v8 hf => ?_)
  refine g_putI X hf (T := TX8) rfl (by decide) (by decide) in_RX8 tyX8 tyX8_ok nmX8 tb_163 rfl rfl rfl dX11_scratch_82 (fun h9 hf => ?_)
  refine g_aload_n X dX11_scratch_85 0 rfl ?_
  refine g_getR X hf (T := TX11) rfl (by decide) (by decide) in_RX11 tb_350 rfl dX11_scratch_86 (fun v10 hf => ?_)
  refine g_callV (n := 0) (av := []) (rest := []) (k := 2) X hf (fun p11 => (some (tI p11.1), p11.2)) (fun _ q => m_X2_addSherd q) (gdV tb_568 tb_569 tb_570 tb_2 tb_571) rfl (by decide +kernel) rfl (by decide) rfl (by decide) (by decide) rfl (Nat.le_of_ble_eq_true rfl) dX11_scratch_89 (fun p11 hf => ?_)
  refine g_pop X dX11_scratch_92 rfl ?_
  exact g_vreturn X (zV hf) (by decide) (by decide) dX11_scratch_93
def b_X11_scratch_31   (x0 : Option Nat) (x1 : Option Nat) (x2 : Option Nat) (x3 : Option Nat) (s0 : Int32) (h : AH) : Option AH :=
  (ck 5 h x1 (f_X5_writesWards x1 h)).bind fun v1 =>
  if v1 = 0 then
    b_X11_scratch_48 x0 x1 x2 x3 s0 (-1) h
  else
    (gI 5 0 h x2).bind fun v2 =>
    b_X11_scratch_48 x0 x1 x2 x3 s0 v2 h
set_option maxRecDepth 20000 in
theorem w_X11_scratch_31 {K : KT} {w : AH}   (X : CX K cX11_scratch RX11 TB none "scratch" (rmD 4 0 0) 6 0 0)  (x0 : Option Nat) (x1 : Option Nat) (x2 : Option Nat) (x3 : Option Nat) (s0 : Int32) (h : AH) (hf : b_X11_scratch_31 x0 x1 x2 x3 s0 h = some w) : GG K (none, w) 0 0 31 [(0, tR x0), (1, tR x1), (2, tR x2), (3, tR x3)] [tI s0] h := by
  unfold b_X11_scratch_31 at hf
  refine g_istore (lv' := [(0, tR x0), (1, tR x1), (2, tR x2), (3, tR x3), (4, tI s0)]) X dX11_scratch_31 (by decide) (in_pick [1, 2, 3, 4, 0] rfl) ?_
  refine g_aload_n X dX11_scratch_33 1 rfl ?_
  refine g_callV (n := 0) (av := []) (rest := []) (k := 5) X hf (fun v1 => (some (tI v1), h)) (fun _ q => m_X5_writesWards q) (gdV tb_587 tb_588 tb_589 tb_4 tb_590) rfl (by decide +kernel) rfl (by decide) rfl (by decide) (by decide) rfl (Nat.le_of_ble_eq_true rfl) dX11_scratch_34 (fun v1 hf => ?_)
  refine g_ifeq (tgt := 47) X hf dX11_scratch_37 (by decide) (fun hf => ?_) (fun hf => ?_)
  · refine g_iconst (v := (-1)) X dX11_scratch_47 (by decide) ?_
    exact w_X11_scratch_48 X x0 x1 x2 x3 s0 (-1) h hf
  · refine g_aload_n X dX11_scratch_40 2 rfl ?_
    refine g_getI X hf (T := TX5) rfl (by decide) (by decide) in_RX5 tb_71 rfl dX11_scratch_41 (fun v2 hf => ?_)
    refine g_goto (tgt := 48) X dX11_scratch_44 (by decide) ?_
    exact w_X11_scratch_48 X x0 x1 x2 x3 s0 v2 h hf
def f_X11_scratch  (a0 : Option Nat) (a1 : Option Nat) (a2 : Option Nat) (h : AH) : Option AH :=
  (gR 11 0 h a0).bind fun v1 =>
  (gR 2 11 h v1).bind fun v2 =>
  (gR 11 0 h a0).bind fun v3 =>
  (gI 2 12 h v3).bind fun v4 =>
  (aR h v2 v4).bind fun v5 =>
  (ck 5 h a1 (f_X5_writesFathers a1 h)).bind fun v6 =>
  if v6 = 0 then
    b_X11_scratch_31 a0 a1 a2 v5 0 h
  else
    (gI 5 3 h a2).bind fun v7 =>
    b_X11_scratch_31 a0 a1 a2 v5 v7 h
set_option maxRecDepth 20000 in
theorem m_X11_scratch  {a0 : Option Nat} {a1 : Option Nat} {a2 : Option Nat} {h : AH} {w : AH} (hf : f_X11_scratch a0 a1 a2 h = some w) : CT yX11_scratch (wU yX11_scratch cX11_scratch 6 none) (rmD 4 0 0) 0 0 [tR a0, tR a1, tR a2] h (none, w) := by
  refine CT.of (cc := cX11_scratch) (nL := 6) (ret := none) (by decide) (by simp [lg_sl, vOf_cat, wOf]) ?_
  intro K X
  refine g_locs (lv' := [(0, tR a0), (1, tR a1), (2, tR a2)]) (fun q hq => hq) ?_
  unfold f_X11_scratch at hf
  refine g_aload_n X dX11_scratch_0 0 rfl ?_
  refine g_getR X hf (T := TX11) rfl (by decide) (by decide) in_RX11 tb_350 rfl dX11_scratch_1 (fun v1 hf => ?_)
  refine g_getR X hf (T := TX2) rfl (by decide) (by decide) in_RX2 tb_234 rfl dX11_scratch_4 (fun v2 hf => ?_)
  refine g_aload_n X dX11_scratch_7 0 rfl ?_
  refine g_getR X hf (T := TX11) rfl (by decide) (by decide) in_RX11 tb_350 rfl dX11_scratch_8 (fun v3 hf => ?_)
  refine g_getI X hf (T := TX2) rfl (by decide) (by decide) in_RX2 tb_236 rfl dX11_scratch_11 (fun v4 hf => ?_)
  refine g_aaload X hf dX11_scratch_14 (fun v5 hf => ?_)
  refine g_astore_n (lv' := [(0, tR a0), (1, tR a1), (2, tR a2), (3, tR v5)]) X dX11_scratch_15 (by decide) (in_pick [1, 2, 3, 0] rfl) ?_
  refine g_aload_n X dX11_scratch_16 1 rfl ?_
  refine g_callV (n := 0) (av := []) (rest := []) (k := 5) X hf (fun v6 => (some (tI v6), h)) (fun _ q => m_X5_writesFathers q) (gdV tb_583 tb_584 tb_585 tb_4 tb_586) rfl (by decide +kernel) rfl (by decide) rfl (by decide) (by decide) rfl (Nat.le_of_ble_eq_true rfl) dX11_scratch_17 (fun v6 hf => ?_)
  refine g_ifeq (tgt := 30) X hf dX11_scratch_20 (by decide) (fun hf => ?_) (fun hf => ?_)
  · refine g_iconst (v := 0) X dX11_scratch_30 (by decide) ?_
    exact w_X11_scratch_31 X a0 a1 a2 v5 0 h hf
  · refine g_aload_n X dX11_scratch_23 2 rfl ?_
    refine g_getI X hf (T := TX5) rfl (by decide) (by decide) in_RX5 tb_80 rfl dX11_scratch_24 (fun v7 hf => ?_)
    refine g_goto (tgt := 31) X dX11_scratch_27 (by decide) ?_
    exact w_X11_scratch_31 X a0 a1 a2 v5 v7 h hf
def b_X11_vote_65    : Nat → Option Nat → Int32 → Int32 → AH → Option (Int32 × AH)
  | 0 => fun _ _ _ _ => none
  | n + 1 => fun x0 x1 x2 h =>
    (gR 11 0 h x0).bind fun v1 =>
    (gI 2 6 h v1).bind fun v2 =>
    if x2 < v2 then
      (gR 11 5 h x0).bind fun v3 =>
      (aI h v3 x2).bind fun v4 =>
      if v4 < 0 then
        b_X11_vote_65 n x0 x1 (x2 + 1) h
      else
        (gR 11 0 h x0).bind fun v5 =>
        (gR 2 5 h v5).bind fun v6 =>
        (aR h v6 x2).bind fun v7 =>
        (gR 11 0 h x0).bind fun v8 =>
        (gR 2 5 h v8).bind fun v9 =>
        (gR 11 5 h x0).bind fun v10 =>
        (aI h v10 x2).bind fun v11 =>
        (aR h v9 v11).bind fun v12 =>
        (ck 11 h x0 (f_X11_scratch x0 v7 v12 h)).bind fun h13 =>
        b_X11_vote_65 n x0 x1 (x2 + 1) h13
    else
      some (x1, h)
set_option maxRecDepth 20000 in
theorem w_X11_vote_65 {K : KT} {w : (Int32 × AH)}   (X : CX K cX11_vote RX11 TB (some .int) "vote" (rmD 6 0 0) 3 0 0)  : ∀ (n : Nat) (x0 : Option Nat) (x1 : Int32) (x2 : Int32) (h : AH), b_X11_vote_65 n x0 x1 x2 h = some w → GG K (some (tI w.1), w.2) 0 0 65 [(0, tR x0), (1, tI x1), (2, tI x2)] [] h := by
  intro n
  induction n with
  | zero =>
    intro x0 x1 x2 h hf
    cases (show none = some w from hf)
  | succ n ih =>
    intro x0 x1 x2 h hf
    rw [b_X11_vote_65] at hf
    refine g_iload_n X dX11_vote_65 2 rfl ?_
    refine g_aload_n X dX11_vote_66 0 rfl ?_
    refine g_getR X hf (T := TX11) rfl (by decide) (by decide) in_RX11 tb_350 rfl dX11_vote_67 (fun v1 hf => ?_)
    refine g_getI X hf (T := TX2) rfl (by decide) (by decide) in_RX2 tb_224 rfl dX11_vote_70 (fun v2 hf => ?_)
    refine g_icmpge (tgt := 118) X hf dX11_vote_73 (by decide) (fun hf => ?_) (fun hf => ?_)
    · refine g_aload_n X dX11_vote_76 0 rfl ?_
      refine g_getR X hf (T := TX11) rfl (by decide) (by decide) in_RX11 tb_355 rfl dX11_vote_77 (fun v3 hf => ?_)
      refine g_iload_n X dX11_vote_80 2 rfl ?_
      refine g_iaload X hf dX11_vote_81 (fun v4 hf => ?_)
      refine g_iflt (tgt := 112) X hf dX11_vote_82 (by decide) (fun hf => ?_) (fun hf => ?_)
      · refine g_iinc (v := (x2 + 1)) (lv' := [(0, tR x0), (1, tI x1), (2, tI (x2 + 1))]) X dX11_vote_112 2 rfl (by rfl) (by decide) (in_pick [1, 2, 0] rfl) ?_
        refine g_goto (tgt := 65) X dX11_vote_115 (by decide) ?_
        exact ih x0 x1 (x2 + 1) h hf
      · refine g_aload_n X dX11_vote_85 0 rfl ?_
        refine g_aload_n X dX11_vote_86 0 rfl ?_
        refine g_getR X hf (T := TX11) rfl (by decide) (by decide) in_RX11 tb_350 rfl dX11_vote_87 (fun v5 hf => ?_)
        refine g_getR X hf (T := TX2) rfl (by decide) (by decide) in_RX2 tb_222 rfl dX11_vote_90 (fun v6 hf => ?_)
        refine g_iload_n X dX11_vote_93 2 rfl ?_
        refine g_aaload X hf dX11_vote_94 (fun v7 hf => ?_)
        refine g_aload_n X dX11_vote_95 0 rfl ?_
        refine g_getR X hf (T := TX11) rfl (by decide) (by decide) in_RX11 tb_350 rfl dX11_vote_96 (fun v8 hf => ?_)
        refine g_getR X hf (T := TX2) rfl (by decide) (by decide) in_RX2 tb_222 rfl dX11_vote_99 (fun v9 hf => ?_)
        refine g_aload_n X dX11_vote_102 0 rfl ?_
        refine g_getR X hf (T := TX11) rfl (by decide) (by decide) in_RX11 tb_355 rfl dX11_vote_103 (fun v10 hf => ?_)
        refine g_iload_n X dX11_vote_106 2 rfl ?_
        refine g_iaload X hf dX11_vote_107 (fun v11 hf => ?_)
        refine g_aaload X hf dX11_vote_108 (fun v12 hf => ?_)
        refine g_callV (n := 2) (av := [tR v7, tR v12]) (rest := []) (k := 11) X hf (fun h13 => (none, h13)) (fun _ q => m_X11_scratch q) (gdV tb_580 tb_581 tb_1651 tb_1 tb_582) rfl (by decide +kernel) rfl (by decide) rfl (by decide) (by decide) rfl (Nat.le_of_ble_eq_true rfl) dX11_vote_109 (fun h13 hf => ?_)
        refine g_iinc (v := (x2 + 1)) (lv' := [(0, tR x0), (1, tI x1), (2, tI (x2 + 1))]) X dX11_vote_112 2 rfl (by rfl) (by decide) (in_pick [1, 2, 0] rfl) ?_
        refine g_goto (tgt := 65) X dX11_vote_115 (by decide) ?_
        exact ih x0 x1 (x2 + 1) h13 hf
    · refine g_iload_n X dX11_vote_118 1 rfl ?_
      exact g_ireturn X (zW hf) (by decide) (by decide) dX11_vote_119
def b_X11_vote_17    : Nat → Option Nat → Int32 → Int32 → AH → Option (Int32 × AH)
  | 0 => fun _ _ _ _ => none
  | n + 1 => fun x0 x1 x2 h =>
    (gR 11 0 h x0).bind fun v1 =>
    (gI 2 6 h v1).bind fun v2 =>
    if x2 < v2 then
      (gR 11 5 h x0).bind fun v3 =>
      (aI h v3 x2).bind fun v4 =>
      if v4 < 0 then
        b_X11_vote_17 n x0 x1 (x2 + 1) h
      else
        b_X11_vote_17 n x0 (x1 + 1) (x2 + 1) h
    else
      (gR 11 0 h x0).bind fun v5 =>
      (gI 2 12 h v5).bind fun v6 =>
      if 40 < (v6 + x1) then
        some ((-2), h)
      else
        b_X11_vote_65 FU x0 x1 0 h
set_option maxRecDepth 20000 in
theorem w_X11_vote_17 {K : KT} {w : (Int32 × AH)}   (X : CX K cX11_vote RX11 TB (some .int) "vote" (rmD 6 0 0) 3 0 0)  : ∀ (n : Nat) (x0 : Option Nat) (x1 : Int32) (x2 : Int32) (h : AH), b_X11_vote_17 n x0 x1 x2 h = some w → GG K (some (tI w.1), w.2) 0 0 17 [(0, tR x0), (1, tI x1), (2, tI x2)] [] h := by
  intro n
  induction n with
  | zero =>
    intro x0 x1 x2 h hf
    cases (show none = some w from hf)
  | succ n ih =>
    intro x0 x1 x2 h hf
    rw [b_X11_vote_17] at hf
    refine g_iload_n X dX11_vote_17 2 rfl ?_
    refine g_aload_n X dX11_vote_18 0 rfl ?_
    refine g_getR X hf (T := TX11) rfl (by decide) (by decide) in_RX11 tb_350 rfl dX11_vote_19 (fun v1 hf => ?_)
    refine g_getI X hf (T := TX2) rfl (by decide) (by decide) in_RX2 tb_224 rfl dX11_vote_22 (fun v2 hf => ?_)
    refine g_icmpge (tgt := 46) X hf dX11_vote_25 (by decide) (fun hf => ?_) (fun hf => ?_)
    · refine g_aload_n X dX11_vote_28 0 rfl ?_
      refine g_getR X hf (T := TX11) rfl (by decide) (by decide) in_RX11 tb_355 rfl dX11_vote_29 (fun v3 hf => ?_)
      refine g_iload_n X dX11_vote_32 2 rfl ?_
      refine g_iaload X hf dX11_vote_33 (fun v4 hf => ?_)
      refine g_iflt (tgt := 40) X hf dX11_vote_34 (by decide) (fun hf => ?_) (fun hf => ?_)
      · refine g_iinc (v := (x2 + 1)) (lv' := [(0, tR x0), (1, tI x1), (2, tI (x2 + 1))]) X dX11_vote_40 2 rfl (by rfl) (by decide) (in_pick [1, 2, 0] rfl) ?_
        refine g_goto (tgt := 17) X dX11_vote_43 (by decide) ?_
        exact ih x0 x1 (x2 + 1) h hf
      · refine g_iinc (v := (x1 + 1)) (lv' := [(0, tR x0), (1, tI (x1 + 1)), (2, tI x2)]) X dX11_vote_37 1 rfl (by rfl) (by decide) (in_pick [1, 0, 2] rfl) ?_
        refine g_iinc (v := (x2 + 1)) (lv' := [(0, tR x0), (1, tI (x1 + 1)), (2, tI (x2 + 1))]) X dX11_vote_40 2 rfl (by rfl) (by decide) (in_pick [1, 2, 0] rfl) ?_
        refine g_goto (tgt := 17) X dX11_vote_43 (by decide) ?_
        exact ih x0 (x1 + 1) (x2 + 1) h hf
    · refine g_aload_n X dX11_vote_46 0 rfl ?_
      refine g_getR X hf (T := TX11) rfl (by decide) (by decide) in_RX11 tb_350 rfl dX11_vote_47 (fun v5 hf => ?_)
      refine g_getI X hf (T := TX2) rfl (by decide) (by decide) in_RX2 tb_236 rfl dX11_vote_50 (fun v6 hf => ?_)
      refine g_iload_n X dX11_vote_53 1 rfl ?_
      refine g_iadd X dX11_vote_54 ?_
      refine g_bipush (v := 40) X dX11_vote_55 (by decide) ?_
      refine g_icmple (tgt := 63) X hf dX11_vote_57 (by decide) (fun hf => ?_) (fun hf => ?_)
      · refine g_bipush (v := (-2)) X dX11_vote_60 (by decide) ?_
        exact g_ireturn X (zW hf) (by decide) (by decide) dX11_vote_62
      · refine g_iconst (v := 0) X dX11_vote_63 (by decide) ?_
        refine g_istore_n (lv' := [(0, tR x0), (1, tI x1), (2, tI 0)]) X dX11_vote_64 (by decide) (in_pick [1, 2, 0] rfl) ?_
        exact w_X11_vote_65 X FU x0 x1 0 h hf
def f_X11_vote  (a0 : Option Nat) (h : AH) : Option (Int32 × AH) :=
  (gR 11 0 h a0).bind fun v1 =>
  (gI 2 0 h v1).bind fun v2 =>
  (ck 11 h a0 (f_X11_drawCasts a0 v2 (-1) 0 h)).bind fun h3 =>
  b_X11_vote_17 FU a0 0 0 h3
set_option maxRecDepth 20000 in
theorem m_X11_vote  {a0 : Option Nat} {h : AH} {w : (Int32 × AH)} (hf : f_X11_vote a0 h = some w) : CT yX11_vote (wU yX11_vote cX11_vote 3 (some .int)) (rmD 6 0 0) 0 0 [tR a0] h (some (tI w.1), w.2) := by
  refine CT.of (cc := cX11_vote) (nL := 3) (ret := (some .int)) (by decide) (by simp [lg_sl, vOf_cat, wOf]) ?_
  intro K X
  refine g_locs (lv' := [(0, tR a0)]) (fun q hq => hq) ?_
  unfold f_X11_vote at hf
  refine g_aload_n X dX11_vote_0 0 rfl ?_
  refine g_aload_n X dX11_vote_1 0 rfl ?_
  refine g_getR X hf (T := TX11) rfl (by decide) (by decide) in_RX11 tb_350 rfl dX11_vote_2 (fun v1 hf => ?_)
  refine g_getI X hf (T := TX2) rfl (by decide) (by decide) in_RX2 tb_212 rfl dX11_vote_5 (fun v2 hf => ?_)
  refine g_iconst (v := (-1)) X dX11_vote_8 (by decide) ?_
  refine g_iconst (v := 0) X dX11_vote_9 (by decide) ?_
  refine g_callV (n := 3) (av := [tI v2, tI (-1), tI 0]) (rest := []) (k := 11) X hf (fun h3 => (none, h3)) (fun _ q => m_X11_drawCasts q) (gdV tb_576 tb_577 tb_1650 tb_1 tb_578) rfl (by decide +kernel) rfl (by decide) rfl (by decide) (by decide) rfl (Nat.le_of_ble_eq_true rfl) dX11_vote_10 (fun h3 hf => ?_)
  refine g_iconst (v := 0) X dX11_vote_13 (by decide) ?_
  refine g_istore_n (lv' := [(0, tR a0), (1, tI 0)]) X dX11_vote_14 (by decide) (in_pick [1, 0] rfl) ?_
  refine g_iconst (v := 0) X dX11_vote_15 (by decide) ?_
  refine g_istore_n (lv' := [(0, tR a0), (1, tI 0), (2, tI 0)]) X dX11_vote_16 (by decide) (in_pick [1, 2, 0] rfl) ?_
  exact w_X11_vote_17 X FU a0 0 0 h3 hf
def f_X11_thrown  (a0 : Option Nat) (a1 : Int32) (h : AH) : Option (Int32 × AH) :=
  (gR 11 0 h a0).bind fun v1 =>
  (ck 2 h v1 (f_X2_hasSherd v1 a1 h)).bind fun v2 =>
  if v2 = 0 then
    some ((-1), h)
  else
    (gR 11 0 h a0).bind fun v3 =>
    (gR 2 11 h v3).bind fun v4 =>
    (aR h v4 a1).bind fun v5 =>
    (gI 8 8 h v5).bind fun v6 =>
    if v6 < 0 then
      (gR 11 0 h a0).bind fun v7 =>
      (gR 2 11 h v7).bind fun v8 =>
      (aR h v8 a1).bind fun v9 =>
      (gR 11 0 h a0).bind fun v10 =>
      (gI 2 0 h v10).bind fun v11 =>
      (pI 8 8 h v9 v11).bind fun h12 =>
      some (1, h12)
    else
      some ((-4), h)
set_option maxRecDepth 20000 in
theorem m_X11_thrown  {a0 : Option Nat} {a1 : Int32} {h : AH} {w : (Int32 × AH)} (hf : f_X11_thrown a0 a1 h = some w) : CT yX11_thrown (wU yX11_thrown cX11_thrown 2 (some .int)) (rmD 2 0 0) 0 0 [tR a0, tI a1] h (some (tI w.1), w.2) := by
  refine CT.of (cc := cX11_thrown) (nL := 2) (ret := (some .int)) (by decide) (by simp [lg_sl, vOf_cat, wOf]) ?_
  intro K X
  refine g_locs (lv' := [(0, tR a0), (1, tI a1)]) (fun q hq => hq) ?_
  unfold f_X11_thrown at hf
  refine g_aload_n X dX11_thrown_0 0 rfl ?_
  refine g_getR X hf (T := TX11) rfl (by decide) (by decide) in_RX11 tb_350 rfl dX11_thrown_1 (fun v1 hf => ?_)
  refine g_iload_n X dX11_thrown_4 1 rfl ?_
  refine g_callV (n := 1) (av := [tI a1]) (rest := []) (k := 2) X hf (fun v2 => (some (tI v2), h)) (fun _ q => m_X2_hasSherd q) (gdV tb_595 tb_596 tb_597 tb_2 tb_598) rfl (by decide +kernel) rfl (by decide) rfl (by decide) (by decide) rfl (Nat.le_of_ble_eq_true rfl) dX11_thrown_5 (fun v2 hf => ?_)
  refine g_ifne (tgt := 13) X hf dX11_thrown_8 (by decide) (fun hf => ?_) (fun hf => ?_)
  · refine g_iconst (v := (-1)) X dX11_thrown_11 (by decide) ?_
    exact g_ireturn X (zW hf) (by decide) (by decide) dX11_thrown_12
  · refine g_aload_n X dX11_thrown_13 0 rfl ?_
    refine g_getR X hf (T := TX11) rfl (by decide) (by decide) in_RX11 tb_350 rfl dX11_thrown_14 (fun v3 hf => ?_)
    refine g_getR X hf (T := TX2) rfl (by decide) (by decide) in_RX2 tb_234 rfl dX11_thrown_17 (fun v4 hf => ?_)
    refine g_iload_n X dX11_thrown_20 1 rfl ?_
    refine g_aaload X hf dX11_thrown_21 (fun v5 hf => ?_)
    refine g_getI X hf (T := TX8) rfl (by decide) (by decide) in_RX8 tb_169 rfl dX11_thrown_22 (fun v6 hf => ?_)
    refine g_iflt (tgt := 31) X hf dX11_thrown_25 (by decide) (fun hf => ?_) (fun hf => ?_)
    · refine g_aload_n X dX11_thrown_31 0 rfl ?_
      refine g_getR X hf (T := TX11) rfl (by decide) (by decide) in_RX11 tb_350 rfl dX11_thrown_32 (fun v7 hf => ?_)
      refine g_getR X hf (T := TX2) rfl (by decide) (by decide) in_RX2 tb_234 rfl dX11_thrown_35 (fun v8 hf => ?_)
      refine g_iload_n X dX11_thrown_38 1 rfl ?_
      refine g_aaload X hf dX11_thrown_39 (fun v9 hf => ?_)
      refine g_aload_n X dX11_thrown_40 0 rfl ?_
      refine g_getR X hf (T := TX11) rfl (by decide) (by decide) in_RX11 tb_350 rfl dX11_thrown_41 (fun v10 hf => ?_)
      refine g_getI X hf (T := TX2) rfl (by decide) (by decide) in_RX2 tb_212 rfl dX11_thrown_44 (fun v11 hf => ?_)
      refine g_putI X hf (T := TX8) rfl (by decide) (by decide) in_RX8 tyX8 tyX8_ok nmX8 tb_169 rfl rfl rfl dX11_thrown_47 (fun h12 hf => ?_)
      refine g_iconst (v := 1) X dX11_thrown_50 (by decide) ?_
      exact g_ireturn X (zW hf) (by decide) (by decide) dX11_thrown_51
    · refine g_bipush (v := (-4)) X dX11_thrown_28 (by decide) ?_
      exact g_ireturn X (zW hf) (by decide) (by decide) dX11_thrown_30
