def f_X12_in  (a0 : Int32) (a1 : Int32) (a2 : Int32) (h : AH) : Option Int32 :=
  if a0 < a1 then
    some 0
  else
    if a2 < a0 then
      some 0
    else
      some 1
set_option maxRecDepth 20000 in
theorem m_X12_in  {a0 : Int32} {a1 : Int32} {a2 : Int32} {h : AH} {w : Int32} (hf : f_X12_in a0 a1 a2 h = some w) : CT yX12_in (wU yX12_in cX12_in 3 (some .boolean)) (rmD 1 0 0) 0 0 [tI a0, tI a1, tI a2] h (some (tI w), h) := by
  refine CT.of (cc := cX12_in) (nL := 3) (ret := (some .boolean)) (by decide) (by simp [lg_sl, vOf_cat, wOf]) ?_
  intro K X
  refine g_locs (lv' := [(0, tI a0), (1, tI a1), (2, tI a2)]) (fun q hq => hq) ?_
  unfold f_X12_in at hf
  refine g_iload_n X dX12_in_0 0 rfl ?_
  refine g_iload_n X dX12_in_1 1 rfl ?_
  refine g_icmplt (tgt := 14) X hf dX12_in_2 (by decide) (fun hf => ?_) (fun hf => ?_)
  · refine g_iconst (v := 0) X dX12_in_14 (by decide) ?_
    exact g_zreturn X (zP hf) (by decide) (by decide) (by decide) dX12_in_15
  · refine g_iload_n X dX12_in_5 0 rfl ?_
    refine g_iload_n X dX12_in_6 2 rfl ?_
    refine g_icmpgt (tgt := 14) X hf dX12_in_7 (by decide) (fun hf => ?_) (fun hf => ?_)
    · refine g_iconst (v := 0) X dX12_in_14 (by decide) ?_
      exact g_zreturn X (zP hf) (by decide) (by decide) (by decide) dX12_in_15
    · refine g_iconst (v := 1) X dX12_in_10 (by decide) ?_
      refine g_goto (tgt := 15) X dX12_in_11 (by decide) ?_
      exact g_zreturn X (zP hf) (by decide) (by decide) (by decide) dX12_in_15
def f_X12_isDay  (a0 : Int32) (h : AH) : Option Int32 :=
  (f_X12_in a0 0 9999 h).bind fun v1 =>
  rZ v1
set_option maxRecDepth 20000 in
theorem m_X12_isDay  {a0 : Int32} {h : AH} {w : Int32} (hf : f_X12_isDay a0 h = some w) : CT yX12_isDay (wU yX12_isDay cX12_isDay 1 (some .boolean)) (rmD 2 0 0) 0 0 [tI a0] h (some (tI w), h) := by
  refine CT.of (cc := cX12_isDay) (nL := 1) (ret := (some .boolean)) (by decide) (by simp [lg_sl, vOf_cat, wOf]) ?_
  intro K X
  refine g_locs (lv' := [(0, tI a0)]) (fun q hq => hq) ?_
  unfold f_X12_isDay at hf
  refine g_iload_n X dX12_isDay_0 0 rfl ?_
  refine g_iconst (v := 0) X dX12_isDay_1 (by decide) ?_
  refine g_sipush (v := 9999) X dX12_isDay_2 (by decide) ?_
  refine g_callS (n := 3) (av := [tI a0, tI 0, tI 9999]) (rest := []) X hf (fun v1 => (some (tI v1), h)) (fun _ q => m_X12_in q) (gdS tb_1226 tb_1227 tb_12 tb_1228) rfl (by decide +kernel) rfl (by decide) (by decide) rfl (Nat.le_of_ble_eq_true rfl) dX12_isDay_5 (fun v1 hf => ?_)
  exact g_zreturn2 X hf (by decide) (by decide) dX12_isDay_8
def f_X12_isWard  (a0 : Option Nat) (a1 : Int32) (h : AH) : Option Int32 :=
  (gR 12 0 h a0).bind fun v1 =>
  (aI h v1 1).bind fun v2 =>
  (f_X12_in a1 0 (v2 - 1) h).bind fun v3 =>
  rZ v3
set_option maxRecDepth 20000 in
theorem m_X12_isWard  {a0 : Option Nat} {a1 : Int32} {h : AH} {w : Int32} (hf : f_X12_isWard a0 a1 h = some w) : CT yX12_isWard (wU yX12_isWard cX12_isWard 2 (some .boolean)) (rmD 2 0 0) 0 0 [tR a0, tI a1] h (some (tI w), h) := by
  refine CT.of (cc := cX12_isWard) (nL := 2) (ret := (some .boolean)) (by decide) (by simp [lg_sl, vOf_cat, wOf]) ?_
  intro K X
  refine g_locs (lv' := [(0, tR a0), (1, tI a1)]) (fun q hq => hq) ?_
  unfold f_X12_isWard at hf
  refine g_iload_n X dX12_isWard_0 1 rfl ?_
  refine g_iconst (v := 0) X dX12_isWard_1 (by decide) ?_
  refine g_aload_n X dX12_isWard_2 0 rfl ?_
  refine g_getR X hf (T := TX12) rfl (by decide) (by decide) in_RX12 tb_1135 rfl dX12_isWard_3 (fun v1 hf => ?_)
  refine g_iconst (v := 1) X dX12_isWard_6 (by decide) ?_
  refine g_iaload X hf dX12_isWard_7 (fun v2 hf => ?_)
  refine g_iconst (v := 1) X dX12_isWard_8 (by decide) ?_
  refine g_isub X dX12_isWard_9 ?_
  refine g_callS (n := 3) (av := [tI a1, tI 0, tI (v2 - 1)]) (rest := []) X hf (fun v3 => (some (tI v3), h)) (fun _ q => m_X12_in q) (gdS tb_1226 tb_1227 tb_12 tb_1228) rfl (by decide +kernel) rfl (by decide) (by decide) rfl (Nat.le_of_ble_eq_true rfl) dX12_isWard_10 (fun v3 hf => ?_)
  exact g_zreturn2 X hf (by decide) (by decide) dX12_isWard_13
def f_X12_isMan  (a0 : Option Nat) (a1 : Int32) (h : AH) : Option Int32 :=
  (gR 12 0 h a0).bind fun v1 =>
  (aI h v1 2).bind fun v2 =>
  (f_X12_in a1 0 (v2 - 1) h).bind fun v3 =>
  rZ v3
set_option maxRecDepth 20000 in
theorem m_X12_isMan  {a0 : Option Nat} {a1 : Int32} {h : AH} {w : Int32} (hf : f_X12_isMan a0 a1 h = some w) : CT yX12_isMan (wU yX12_isMan cX12_isMan 2 (some .boolean)) (rmD 2 0 0) 0 0 [tR a0, tI a1] h (some (tI w), h) := by
  refine CT.of (cc := cX12_isMan) (nL := 2) (ret := (some .boolean)) (by decide) (by simp [lg_sl, vOf_cat, wOf]) ?_
  intro K X
  refine g_locs (lv' := [(0, tR a0), (1, tI a1)]) (fun q hq => hq) ?_
  unfold f_X12_isMan at hf
  refine g_iload_n X dX12_isMan_0 1 rfl ?_
  refine g_iconst (v := 0) X dX12_isMan_1 (by decide) ?_
  refine g_aload_n X dX12_isMan_2 0 rfl ?_
  refine g_getR X hf (T := TX12) rfl (by decide) (by decide) in_RX12 tb_1135 rfl dX12_isMan_3 (fun v1 hf => ?_)
  refine g_iconst (v := 2) X dX12_isMan_6 (by decide) ?_
  refine g_iaload X hf dX12_isMan_7 (fun v2 hf => ?_)
  refine g_iconst (v := 1) X dX12_isMan_8 (by decide) ?_
  refine g_isub X dX12_isMan_9 ?_
  refine g_callS (n := 3) (av := [tI a1, tI 0, tI (v2 - 1)]) (rest := []) X hf (fun v3 => (some (tI v3), h)) (fun _ q => m_X12_in q) (gdS tb_1226 tb_1227 tb_12 tb_1228) rfl (by decide +kernel) rfl (by decide) (by decide) rfl (Nat.le_of_ble_eq_true rfl) dX12_isMan_10 (fun v3 hf => ?_)
  exact g_zreturn2 X hf (by decide) (by decide) dX12_isMan_13
def f_X12_isSherd  (a0 : Option Nat) (a1 : Int32) (h : AH) : Option Int32 :=
  (gR 12 0 h a0).bind fun v1 =>
  (aI h v1 5).bind fun v2 =>
  (f_X12_in a1 0 (v2 - 1) h).bind fun v3 =>
  rZ v3
set_option maxRecDepth 20000 in
theorem m_X12_isSherd  {a0 : Option Nat} {a1 : Int32} {h : AH} {w : Int32} (hf : f_X12_isSherd a0 a1 h = some w) : CT yX12_isSherd (wU yX12_isSherd cX12_isSherd 2 (some .boolean)) (rmD 2 0 0) 0 0 [tR a0, tI a1] h (some (tI w), h) := by
  refine CT.of (cc := cX12_isSherd) (nL := 2) (ret := (some .boolean)) (by decide) (by simp [lg_sl, vOf_cat, wOf]) ?_
  intro K X
  refine g_locs (lv' := [(0, tR a0), (1, tI a1)]) (fun q hq => hq) ?_
  unfold f_X12_isSherd at hf
  refine g_iload_n X dX12_isSherd_0 1 rfl ?_
  refine g_iconst (v := 0) X dX12_isSherd_1 (by decide) ?_
  refine g_aload_n X dX12_isSherd_2 0 rfl ?_
  refine g_getR X hf (T := TX12) rfl (by decide) (by decide) in_RX12 tb_1135 rfl dX12_isSherd_3 (fun v1 hf => ?_)
  refine g_iconst (v := 5) X dX12_isSherd_6 (by decide) ?_
  refine g_iaload X hf dX12_isSherd_7 (fun v2 hf => ?_)
  refine g_iconst (v := 1) X dX12_isSherd_8 (by decide) ?_
  refine g_isub X dX12_isSherd_9 ?_
  refine g_callS (n := 3) (av := [tI a1, tI 0, tI (v2 - 1)]) (rest := []) X hf (fun v3 => (some (tI v3), h)) (fun _ q => m_X12_in q) (gdS tb_1226 tb_1227 tb_12 tb_1228) rfl (by decide +kernel) rfl (by decide) (by decide) rfl (Nat.le_of_ble_eq_true rfl) dX12_isSherd_10 (fun v3 hf => ?_)
  exact g_zreturn2 X hf (by decide) (by decide) dX12_isSherd_13
def f_X12_isClub  (a0 : Int32) (h : AH) : Option Int32 :=
  (f_X12_in a0 0 5 h).bind fun v1 =>
  rZ v1
set_option maxRecDepth 20000 in
theorem m_X12_isClub  {a0 : Int32} {h : AH} {w : Int32} (hf : f_X12_isClub a0 h = some w) : CT yX12_isClub (wU yX12_isClub cX12_isClub 1 (some .boolean)) (rmD 2 0 0) 0 0 [tI a0] h (some (tI w), h) := by
  refine CT.of (cc := cX12_isClub) (nL := 1) (ret := (some .boolean)) (by decide) (by simp [lg_sl, vOf_cat, wOf]) ?_
  intro K X
  refine g_locs (lv' := [(0, tI a0)]) (fun q hq => hq) ?_
  unfold f_X12_isClub at hf
  refine g_iload_n X dX12_isClub_0 0 rfl ?_
  refine g_iconst (v := 0) X dX12_isClub_1 (by decide) ?_
  refine g_iconst (v := 5) X dX12_isClub_2 (by decide) ?_
  refine g_callS (n := 3) (av := [tI a0, tI 0, tI 5]) (rest := []) X hf (fun v1 => (some (tI v1), h)) (fun _ q => m_X12_in q) (gdS tb_1226 tb_1227 tb_12 tb_1228) rfl (by decide +kernel) rfl (by decide) (by decide) rfl (Nat.le_of_ble_eq_true rfl) dX12_isClub_3 (fun v1 hf => ?_)
  exact g_zreturn2 X hf (by decide) (by decide) dX12_isClub_6
def b_X12_isName_4   (h : AH) : Nat → Int32 → Int32 → Int32 → Option Int32
  | 0 => fun _ _ _ => none
  | n + 1 => fun x0 x1 x2 =>
    if 0 < x1 then
      if (iRem x1 27) = 0 then
        some 0
      else
        b_X12_isName_4 h n x0 (x1 / 27) (x2 + 1)
    else
      if 0 < x0 then
        if 6 < x2 then
          some 0
        else
          some 1
      else
        some 0
set_option maxRecDepth 20000 in
theorem w_X12_isName_4 {K : KT} {w : Int32} {h : AH}   (X : CX K cX12_isName RX12 TB (some .boolean) "isName" (rmD 1 0 0) 3 0 0)  : ∀ (n : Nat) (x0 : Int32) (x1 : Int32) (x2 : Int32), b_X12_isName_4 h n x0 x1 x2 = some w → GG K (some (tI w), h) 0 0 4 [(0, tI x0), (1, tI x1), (2, tI x2)] [] h := by
  intro n
  induction n with
  | zero =>
    intro x0 x1 x2 hf
    cases (show none = some w from hf)
  | succ n ih =>
    intro x0 x1 x2 hf
    rw [b_X12_isName_4] at hf
    refine g_iload_n X dX12_isName_4 1 rfl ?_
    refine g_ifle (tgt := 28) X hf dX12_isName_5 (by decide) (fun hf => ?_) (fun hf => ?_)
    · refine g_iload_n X dX12_isName_8 1 rfl ?_
      refine g_bipush (v := 27) X dX12_isName_9 (by decide) ?_
      refine g_iremc X dX12_isName_11 (by decide) ?_
      refine g_ifne (tgt := 17) X hf dX12_isName_12 (by decide) (fun hf => ?_) (fun hf => ?_)
      · refine g_iconst (v := 0) X dX12_isName_15 (by decide) ?_
        exact g_zreturn X (zP hf) (by decide) (by decide) (by decide) dX12_isName_16
      · refine g_iload_n X dX12_isName_17 1 rfl ?_
        refine g_bipush (v := 27) X dX12_isName_18 (by decide) ?_
        refine g_idivc X dX12_isName_20 (by decide) ?_
        refine g_istore_n (lv' := [(0, tI x0), (1, tI (x1 / 27)), (2, tI x2)]) X dX12_isName_21 (by decide) (in_pick [1, 0, 2] rfl) ?_
        refine g_iinc (v := (x2 + 1)) (lv' := [(0, tI x0), (1, tI (x1 / 27)), (2, tI (x2 + 1))]) X dX12_isName_22 2 rfl (by rfl) (by decide) (in_pick [1, 2, 0] rfl) ?_
        refine g_goto (tgt := 4) X dX12_isName_25 (by decide) ?_
        exact ih x0 (x1 / 27) (x2 + 1) hf
    · refine g_iload_n X dX12_isName_28 0 rfl ?_
      refine g_ifle (tgt := 42) X hf dX12_isName_29 (by decide) (fun hf => ?_) (fun hf => ?_)
      · refine g_iload_n X dX12_isName_32 2 rfl ?_
        refine g_bipush (v := 6) X dX12_isName_33 (by decide) ?_
        refine g_icmpgt (tgt := 42) X hf dX12_isName_35 (by decide) (fun hf => ?_) (fun hf => ?_)
        · refine g_iconst (v := 0) X dX12_isName_42 (by decide) ?_
          exact g_zreturn X (zP hf) (by decide) (by decide) (by decide) dX12_isName_43
        · refine g_iconst (v := 1) X dX12_isName_38 (by decide) ?_
          refine g_goto (tgt := 43) X dX12_isName_39 (by decide) ?_
          exact g_zreturn X (zP hf) (by decide) (by decide) (by decide) dX12_isName_43
      · refine g_iconst (v := 0) X dX12_isName_42 (by decide) ?_
        exact g_zreturn X (zP hf) (by decide) (by decide) (by decide) dX12_isName_43
def f_X12_isName  (a0 : Int32) (h : AH) : Option Int32 :=
  b_X12_isName_4 h FU a0 a0 0
set_option maxRecDepth 20000 in
theorem m_X12_isName  {a0 : Int32} {h : AH} {w : Int32} (hf : f_X12_isName a0 h = some w) : CT yX12_isName (wU yX12_isName cX12_isName 3 (some .boolean)) (rmD 1 0 0) 0 0 [tI a0] h (some (tI w), h) := by
  refine CT.of (cc := cX12_isName) (nL := 3) (ret := (some .boolean)) (by decide) (by simp [lg_sl, vOf_cat, wOf]) ?_
  intro K X
  refine g_locs (lv' := [(0, tI a0)]) (fun q hq => hq) ?_
  unfold f_X12_isName at hf
  refine g_iload_n X dX12_isName_0 0 rfl ?_
  refine g_istore_n (lv' := [(0, tI a0), (1, tI a0)]) X dX12_isName_1 (by decide) (in_pick [1, 0] rfl) ?_
  refine g_iconst (v := 0) X dX12_isName_2 (by decide) ?_
  refine g_istore_n (lv' := [(0, tI a0), (1, tI a0), (2, tI 0)]) X dX12_isName_3 (by decide) (in_pick [1, 2, 0] rfl) ?_
  exact w_X12_isName_4 X FU a0 a0 0 hf
def f_X12_had  (a0 : Option Nat) (a1 : Int32) (a2 : Int32) (a3 : Int32) (h : AH) : Option Int32 :=
  (gR 12 0 h a0).bind fun v1 =>
  (aI h v1 ((491 + (8 * a1)) + a2)).bind fun v2 =>
  if v2 < 0 then
    some 0
  else
    if a3 < v2 then
      some 0
    else
      some 1
set_option maxRecDepth 20000 in
theorem m_X12_had  {a0 : Option Nat} {a1 : Int32} {a2 : Int32} {a3 : Int32} {h : AH} {w : Int32} (hf : f_X12_had a0 a1 a2 a3 h = some w) : CT yX12_had (wU yX12_had cX12_had 5 (some .boolean)) (rmD 1 0 0) 0 0 [tR a0, tI a1, tI a2, tI a3] h (some (tI w), h) := by
  refine CT.of (cc := cX12_had) (nL := 5) (ret := (some .boolean)) (by decide) (by simp [lg_sl, vOf_cat, wOf]) ?_
  intro K X
  refine g_locs (lv' := [(0, tR a0), (1, tI a1), (2, tI a2), (3, tI a3)]) (fun q hq => hq) ?_
  unfold f_X12_had at hf
  refine g_aload_n X dX12_had_0 0 rfl ?_
  refine g_getR X hf (T := TX12) rfl (by decide) (by decide) in_RX12 tb_1135 rfl dX12_had_1 (fun v1 hf => ?_)
  refine g_sipush (v := 491) X dX12_had_4 (by decide) ?_
  refine g_bipush (v := 8) X dX12_had_7 (by decide) ?_
  refine g_iload_n X dX12_had_9 1 rfl ?_
  refine g_imul X dX12_had_10 ?_
  refine g_iadd X dX12_had_11 ?_
  refine g_iload_n X dX12_had_12 2 rfl ?_
  refine g_iadd X dX12_had_13 ?_
  refine g_iaload X hf dX12_had_14 (fun v2 hf => ?_)
  refine g_istore (lv' := [(0, tR a0), (1, tI a1), (2, tI a2), (3, tI a3), (4, tI v2)]) X dX12_had_15 (by decide) (in_pick [1, 2, 3, 4, 0] rfl) ?_
  refine g_iload X dX12_had_17 4 rfl ?_
  refine g_iflt (tgt := 32) X hf dX12_had_19 (by decide) (fun hf => ?_) (fun hf => ?_)
  · refine g_iconst (v := 0) X dX12_had_32 (by decide) ?_
    exact g_zreturn X (zP hf) (by decide) (by decide) (by decide) dX12_had_33
  · refine g_iload X dX12_had_22 4 rfl ?_
    refine g_iload_n X dX12_had_24 3 rfl ?_
    refine g_icmpgt (tgt := 32) X hf dX12_had_25 (by decide) (fun hf => ?_) (fun hf => ?_)
    · refine g_iconst (v := 0) X dX12_had_32 (by decide) ?_
      exact g_zreturn X (zP hf) (by decide) (by decide) (by decide) dX12_had_33
    · refine g_iconst (v := 1) X dX12_had_28 (by decide) ?_
      refine g_goto (tgt := 33) X dX12_had_29 (by decide) ?_
      exact g_zreturn X (zP hf) (by decide) (by decide) (by decide) dX12_had_33
def b_X12_passes_195  (k9 : Option Nat → Int32 → Int32 → AH → Option AH) (k21 : Option Nat → Int32 → Int32 → Int32 → AH → Option AH) (x0 : Option Nat) (x1 : Int32) (x2 : Int32) (x3 : Int32) (s0 : Option Nat) (s1 : Int32) (s2 : Int32) (h : AH) : Option AH :=
  (sI h s0 s1 s2).bind fun h1 =>
  k21 x0 x1 x2 (x3 + 1) h1
set_option maxRecDepth 20000 in
theorem w_X12_passes_195 {K : KT} {w : AH} {k9 : Option Nat → Int32 → Int32 → AH → Option AH} {k21 : Option Nat → Int32 → Int32 → Int32 → AH → Option AH}  (X : CX K cX12_passes RX12 TB none "passes" (rmD 2 0 0) 7 0 0) (hk9 : ∀ (x0 : Option Nat) (x1 : Int32) (x2 : Int32) (h : AH), k9 x0 x1 x2 h = some w → GG K (none, w) 0 0 9 [(0, tR x0), (1, tI x1), (2, tI x2)] [] h) (hk21 : ∀ (x0 : Option Nat) (x1 : Int32) (x2 : Int32) (x3 : Int32) (h : AH), k21 x0 x1 x2 x3 h = some w → GG K (none, w) 0 0 21 [(0, tR x0), (1, tI x1), (2, tI x2), (3, tI x3)] [] h) (x0 : Option Nat) (x1 : Int32) (x2 : Int32) (x3 : Int32) (s0 : Option Nat) (s1 : Int32) (s2 : Int32) (h : AH) (hf : b_X12_passes_195 k9 k21 x0 x1 x2 x3 s0 s1 s2 h = some w) : GG K (none, w) 0 0 195 [(0, tR x0), (1, tI x1), (2, tI x2), (3, tI x3)] [tI s2, tI s1, tR s0] h := by
  unfold b_X12_passes_195 at hf
  refine g_iastore X hf dX12_passes_195 (fun h1 hf => ?_)
  refine g_iinc (v := (x3 + 1)) (lv' := [(0, tR x0), (1, tI x1), (2, tI x2), (3, tI (x3 + 1))]) X dX12_passes_196 3 rfl (by rfl) (by decide) (in_pick [1, 2, 3, 0] rfl) ?_
  refine g_goto (tgt := 21) X dX12_passes_199 (by decide) ?_
  exact hk21 x0 x1 x2 (x3 + 1) h1 hf
def b_X12_passes_188  (k9 : Option Nat → Int32 → Int32 → AH → Option AH) (k21 : Option Nat → Int32 → Int32 → Int32 → AH → Option AH) (x0 : Option Nat) (x1 : Int32) (x2 : Int32) (x3 : Int32) (x5 : Int32) (s0 : Option Nat) (s1 : Int32) (h : AH) : Option AH :=
  (gR 12 0 h x0).bind fun v1 =>
  (aI h v1 x5).bind fun v2 =>
  b_X12_passes_195 k9 k21 x0 x1 x2 x3 s0 s1 v2 h
set_option maxRecDepth 20000 in
theorem w_X12_passes_188 {K : KT} {w : AH} {k9 : Option Nat → Int32 → Int32 → AH → Option AH} {k21 : Option Nat → Int32 → Int32 → Int32 → AH → Option AH}  (X : CX K cX12_passes RX12 TB none "passes" (rmD 2 0 0) 7 0 0) (hk9 : ∀ (x0 : Option Nat) (x1 : Int32) (x2 : Int32) (h : AH), k9 x0 x1 x2 h = some w → GG K (none, w) 0 0 9 [(0, tR x0), (1, tI x1), (2, tI x2)] [] h) (hk21 : ∀ (x0 : Option Nat) (x1 : Int32) (x2 : Int32) (x3 : Int32) (h : AH), k21 x0 x1 x2 x3 h = some w → GG K (none, w) 0 0 21 [(0, tR x0), (1, tI x1), (2, tI x2), (3, tI x3)] [] h) (x0 : Option Nat) (x1 : Int32) (x2 : Int32) (x3 : Int32) (x5 : Int32) (s0 : Option Nat) (s1 : Int32) (h : AH) (hf : b_X12_passes_188 k9 k21 x0 x1 x2 x3 x5 s0 s1 h = some w) : GG K (none, w) 0 0 188 [(0, tR x0), (1, tI x1), (2, tI x2), (3, tI x3), (5, tI x5)] [tI s1, tR s0] h := by
  unfold b_X12_passes_188 at hf
  refine g_aload_n X dX12_passes_188 0 rfl ?_
  refine g_getR X hf (T := TX12) rfl (by decide) (by decide) in_RX12 tb_1135 rfl dX12_passes_189 (fun v1 hf => ?_)
  refine g_iload X dX12_passes_192 4 rfl ?_
  refine g_iaload X hf dX12_passes_194 (fun v2 hf => ?_)
  refine g_locs (lv' := [(0, tR x0), (1, tI x1), (2, tI x2), (3, tI x3)]) (in_pick [0, 1, 2, 3] rfl) ?_
  exact w_X12_passes_195 X hk9 hk21 x0 x1 x2 x3 s0 s1 v2 h hf
def b_X12_passes_140  (k9 : Option Nat → Int32 → Int32 → AH → Option AH) (k21 : Option Nat → Int32 → Int32 → Int32 → AH → Option AH) (k37 : Option Nat → Int32 → Int32 → Int32 → Int32 → Int32 → AH → Option AH) (x0 : Option Nat) (x1 : Int32) (x2 : Int32) (x3 : Int32) (x5 : Int32) (s0 : Int32) (s1 : Int32) (h : AH) : Option AH :=
  k37 x0 x1 x2 x3 (s0 ||| s1) (x5 + 1) h
set_option maxRecDepth 20000 in
theorem w_X12_passes_140 {K : KT} {w : AH} {k9 : Option Nat → Int32 → Int32 → AH → Option AH} {k21 : Option Nat → Int32 → Int32 → Int32 → AH → Option AH} {k37 : Option Nat → Int32 → Int32 → Int32 → Int32 → Int32 → AH → Option AH}  (X : CX K cX12_passes RX12 TB none "passes" (rmD 2 0 0) 7 0 0) (hk9 : ∀ (x0 : Option Nat) (x1 : Int32) (x2 : Int32) (h : AH), k9 x0 x1 x2 h = some w → GG K (none, w) 0 0 9 [(0, tR x0), (1, tI x1), (2, tI x2)] [] h) (hk21 : ∀ (x0 : Option Nat) (x1 : Int32) (x2 : Int32) (x3 : Int32) (h : AH), k21 x0 x1 x2 x3 h = some w → GG K (none, w) 0 0 21 [(0, tR x0), (1, tI x1), (2, tI x2), (3, tI x3)] [] h) (hk37 : ∀ (x0 : Option Nat) (x1 : Int32) (x2 : Int32) (x3 : Int32) (x4 : Int32) (x5 : Int32) (h : AH), k37 x0 x1 x2 x3 x4 x5 h = some w → GG K (none, w) 0 0 37 [(0, tR x0), (1, tI x1), (2, tI x2), (3, tI x3), (4, tI x4), (5, tI x5)] [] h) (x0 : Option Nat) (x1 : Int32) (x2 : Int32) (x3 : Int32) (x5 : Int32) (s0 : Int32) (s1 : Int32) (h : AH) (hf : b_X12_passes_140 k9 k21 k37 x0 x1 x2 x3 x5 s0 s1 h = some w) : GG K (none, w) 0 0 140 [(0, tR x0), (1, tI x1), (2, tI x2), (3, tI x3), (5, tI x5)] [tI s1, tI s0] h := by
  unfold b_X12_passes_140 at hf
  refine g_ior X dX12_passes_140 ?_
  refine g_istore (lv' := [(0, tR x0), (1, tI x1), (2, tI x2), (3, tI x3), (4, tI (s0 ||| s1)), (5, tI x5)]) X dX12_passes_141 (by decide) (in_pick [1, 2, 3, 4, 0, 5] rfl) ?_
  refine g_iinc (v := (x5 + 1)) (lv' := [(0, tR x0), (1, tI x1), (2, tI x2), (3, tI x3), (4, tI (s0 ||| s1)), (5, tI (x5 + 1))]) X dX12_passes_143 5 rfl (by rfl) (by decide) (in_pick [1, 2, 3, 4, 5, 0] rfl) ?_
  refine g_goto (tgt := 37) X dX12_passes_146 (by decide) ?_
  exact hk37 x0 x1 x2 x3 (s0 ||| s1) (x5 + 1) h hf
def b_X12_passes_115  (k9 : Option Nat → Int32 → Int32 → AH → Option AH) (k21 : Option Nat → Int32 → Int32 → Int32 → AH → Option AH) (k37 : Option Nat → Int32 → Int32 → Int32 → Int32 → Int32 → AH → Option AH) (x0 : Option Nat) (x1 : Int32) (x2 : Int32) (x3 : Int32) (x4 : Int32) (x5 : Int32) (s0 : Int32) (h : AH) : Option AH :=
  if s0 = 0 then
    b_X12_passes_140 k9 k21 k37 x0 x1 x2 x3 x5 x4 0 h
  else
    (ck 12 h x0 (f_X12_had x0 x5 x2 x1 h)).bind fun v1 =>
    if v1 = 0 then
      b_X12_passes_140 k9 k21 k37 x0 x1 x2 x3 x5 x4 0 h
    else
      b_X12_passes_140 k9 k21 k37 x0 x1 x2 x3 x5 x4 1 h
set_option maxRecDepth 20000 in
theorem w_X12_passes_115 {K : KT} {w : AH} {k9 : Option Nat → Int32 → Int32 → AH → Option AH} {k21 : Option Nat → Int32 → Int32 → Int32 → AH → Option AH} {k37 : Option Nat → Int32 → Int32 → Int32 → Int32 → Int32 → AH → Option AH}  (X : CX K cX12_passes RX12 TB none "passes" (rmD 2 0 0) 7 0 0) (hk9 : ∀ (x0 : Option Nat) (x1 : Int32) (x2 : Int32) (h : AH), k9 x0 x1 x2 h = some w → GG K (none, w) 0 0 9 [(0, tR x0), (1, tI x1), (2, tI x2)] [] h) (hk21 : ∀ (x0 : Option Nat) (x1 : Int32) (x2 : Int32) (x3 : Int32) (h : AH), k21 x0 x1 x2 x3 h = some w → GG K (none, w) 0 0 21 [(0, tR x0), (1, tI x1), (2, tI x2), (3, tI x3)] [] h) (hk37 : ∀ (x0 : Option Nat) (x1 : Int32) (x2 : Int32) (x3 : Int32) (x4 : Int32) (x5 : Int32) (h : AH), k37 x0 x1 x2 x3 x4 x5 h = some w → GG K (none, w) 0 0 37 [(0, tR x0), (1, tI x1), (2, tI x2), (3, tI x3), (4, tI x4), (5, tI x5)] [] h) (x0 : Option Nat) (x1 : Int32) (x2 : Int32) (x3 : Int32) (x4 : Int32) (x5 : Int32) (s0 : Int32) (h : AH) (hf : b_X12_passes_115 k9 k21 k37 x0 x1 x2 x3 x4 x5 s0 h = some w) : GG K (none, w) 0 0 115 [(0, tR x0), (1, tI x1), (2, tI x2), (3, tI x3), (4, tI x4), (5, tI x5)] [tI s0] h := by
  unfold b_X12_passes_115 at hf
  refine g_istore (lv' := [(0, tR x0), (1, tI x1), (2, tI x2), (3, tI x3), (4, tI x4), (5, tI x5), (6, tI s0)]) X dX12_passes_115 (by decide) (in_pick [1, 2, 3, 4, 5, 6, 0] rfl) ?_
  refine g_iload X dX12_passes_117 4 rfl ?_
  refine g_iload X dX12_passes_119 6 rfl ?_
  refine g_ifeq (tgt := 139) X hf dX12_passes_121 (by decide) (fun hf => ?_) (fun hf => ?_)
  · refine g_iconst (v := 0) X dX12_passes_139 (by decide) ?_
    refine g_locs (lv' := [(0, tR x0), (1, tI x1), (2, tI x2), (3, tI x3), (5, tI x5)]) (in_pick [0, 1, 2, 3, 5] rfl) ?_
    exact w_X12_passes_140 X hk9 hk21 hk37 x0 x1 x2 x3 x5 x4 0 h hf
  · refine g_aload_n X dX12_passes_124 0 rfl ?_
    refine g_iload X dX12_passes_125 5 rfl ?_
    refine g_iload_n X dX12_passes_127 2 rfl ?_
    refine g_iload_n X dX12_passes_128 1 rfl ?_
    refine g_callV (n := 3) (av := [tI x5, tI x2, tI x1]) (rest := [tI x4]) (k := 12) X hf (fun v1 => (some (tI v1), h)) (fun _ q => m_X12_had q) (gdV tb_1232 tb_1233 tb_1688 tb_12 tb_1234) rfl (by decide +kernel) rfl (by decide) rfl (by decide) (by decide) rfl (Nat.le_of_ble_eq_true rfl) dX12_passes_129 (fun v1 hf => ?_)
    refine g_ifeq (tgt := 139) X hf dX12_passes_132 (by decide) (fun hf => ?_) (fun hf => ?_)
    · refine g_iconst (v := 0) X dX12_passes_139 (by decide) ?_
      refine g_locs (lv' := [(0, tR x0), (1, tI x1), (2, tI x2), (3, tI x3), (5, tI x5)]) (in_pick [0, 1, 2, 3, 5] rfl) ?_
      exact w_X12_passes_140 X hk9 hk21 hk37 x0 x1 x2 x3 x5 x4 0 h hf
    · refine g_iconst (v := 1) X dX12_passes_135 (by decide) ?_
      refine g_goto (tgt := 140) X dX12_passes_136 (by decide) ?_
      refine g_locs (lv' := [(0, tR x0), (1, tI x1), (2, tI x2), (3, tI x3), (5, tI x5)]) (in_pick [0, 1, 2, 3, 5] rfl) ?_
      exact w_X12_passes_140 X hk9 hk21 hk37 x0 x1 x2 x3 x5 x4 1 h hf
def b_X12_passes_37  (k9 : Option Nat → Int32 → Int32 → AH → Option AH) (k21 : Option Nat → Int32 → Int32 → Int32 → AH → Option AH)  : Nat → Option Nat → Int32 → Int32 → Int32 → Int32 → Int32 → AH → Option AH
  | 0 => fun _ _ _ _ _ _ _ => none
  | n + 1 => fun x0 x1 x2 x3 x4 x5 h =>
    (gR 12 0 h x0).bind fun v1 =>
    (aI h v1 2).bind fun v2 =>
    if x5 < v2 then
      (gR 12 0 h x0).bind fun v3 =>
      (aI h v3 (75 + x5)).bind fun v4 =>
      (gR 12 0 h x0).bind fun v5 =>
      (aI h v5 (75 + x3)).bind fun v6 =>
      if v4 = v6 then
        b_X12_passes_115 k9 k21 (b_X12_passes_37 k9 k21 n) x0 x1 x2 x3 x4 x5 1 h
      else
        if (iRem x1 3) = 0 then
          (gR 12 0 h x0).bind fun v7 =>
          (aI h v7 (91 + x3)).bind fun v8 =>
          if v8 < 0 then
            b_X12_passes_115 k9 k21 (b_X12_passes_37 k9 k21 n) x0 x1 x2 x3 x4 x5 0 h
          else
            (gR 12 0 h x0).bind fun v9 =>
            (aI h v9 (91 + x5)).bind fun v10 =>
            (gR 12 0 h x0).bind fun v11 =>
            (aI h v11 (91 + x3)).bind fun v12 =>
            if v10 = v12 then
              b_X12_passes_115 k9 k21 (b_X12_passes_37 k9 k21 n) x0 x1 x2 x3 x4 x5 1 h
            else
              b_X12_passes_115 k9 k21 (b_X12_passes_37 k9 k21 n) x0 x1 x2 x3 x4 x5 0 h
        else
          b_X12_passes_115 k9 k21 (b_X12_passes_37 k9 k21 n) x0 x1 x2 x3 x4 x5 0 h
    else
      (gR 12 0 h x0).bind fun v13 =>
      if x4 = 0 then
        b_X12_passes_188 k9 k21 x0 x1 x2 x3 ((491 + (8 * x3)) + x2) v13 ((491 + (8 * x3)) + x2) h
      else
        (gR 12 0 h x0).bind fun v14 =>
        (aI h v14 ((491 + (8 * x3)) + x2)).bind fun v15 =>
        if v15 < 0 then
          b_X12_passes_195 k9 k21 x0 x1 x2 x3 v13 ((491 + (8 * x3)) + x2) (x1 + 1) h
        else
          b_X12_passes_188 k9 k21 x0 x1 x2 x3 ((491 + (8 * x3)) + x2) v13 ((491 + (8 * x3)) + x2) h
set_option maxRecDepth 20000 in
theorem w_X12_passes_37 {K : KT} {w : AH} {k9 : Option Nat → Int32 → Int32 → AH → Option AH} {k21 : Option Nat → Int32 → Int32 → Int32 → AH → Option AH}  (X : CX K cX12_passes RX12 TB none "passes" (rmD 2 0 0) 7 0 0) (hk9 : ∀ (x0 : Option Nat) (x1 : Int32) (x2 : Int32) (h : AH), k9 x0 x1 x2 h = some w → GG K (none, w) 0 0 9 [(0, tR x0), (1, tI x1), (2, tI x2)] [] h) (hk21 : ∀ (x0 : Option Nat) (x1 : Int32) (x2 : Int32) (x3 : Int32) (h : AH), k21 x0 x1 x2 x3 h = some w → GG K (none, w) 0 0 21 [(0, tR x0), (1, tI x1), (2, tI x2), (3, tI x3)] [] h) : ∀ (n : Nat) (x0 : Option Nat) (x1 : Int32) (x2 : Int32) (x3 : Int32) (x4 : Int32) (x5 : Int32) (h : AH), b_X12_passes_37 k9 k21 n x0 x1 x2 x3 x4 x5 h = some w → GG K (none, w) 0 0 37 [(0, tR x0), (1, tI x1), (2, tI x2), (3, tI x3), (4, tI x4), (5, tI x5)] [] h := by
  intro n
  induction n with
  | zero =>
    intro x0 x1 x2 x3 x4 x5 h hf
    cases (show none = some w from hf)
  | succ n ih =>
    intro x0 x1 x2 x3 x4 x5 h hf
    rw [b_X12_passes_37] at hf
    refine g_iload X dX12_passes_37 5 rfl ?_
    refine g_aload_n X dX12_passes_39 0 rfl ?_
    refine g_getR X hf (T := TX12) rfl (by decide) (by decide) in_RX12 tb_1135 rfl dX12_passes_40 (fun v1 hf => ?_)
    refine g_iconst (v := 2) X dX12_passes_43 (by decide) ?_
    refine g_iaload X hf dX12_passes_44 (fun v2 hf => ?_)
    refine g_icmpge (tgt := 149) X hf dX12_passes_45 (by decide) (fun hf => ?_) (fun hf => ?_)
    · refine g_aload_n X dX12_passes_48 0 rfl ?_
      refine g_getR X hf (T := TX12) rfl (by decide) (by decide) in_RX12 tb_1135 rfl dX12_passes_49 (fun v3 hf => ?_)
      refine g_bipush (v := 75) X dX12_passes_52 (by decide) ?_
      refine g_iload X dX12_passes_54 5 rfl ?_
      refine g_iadd X dX12_passes_56 ?_
      refine g_iaload X hf dX12_passes_57 (fun v4 hf => ?_)
      refine g_aload_n X dX12_passes_58 0 rfl ?_
      refine g_getR X hf (T := TX12) rfl (by decide) (by decide) in_RX12 tb_1135 rfl dX12_passes_59 (fun v5 hf => ?_)
      refine g_bipush (v := 75) X dX12_passes_62 (by decide) ?_
      refine g_iload_n X dX12_passes_64 3 rfl ?_
      refine g_iadd X dX12_passes_65 ?_
      refine g_iaload X hf dX12_passes_66 (fun v6 hf => ?_)
      refine g_icmpeq (tgt := 110) X hf dX12_passes_67 (by decide) (fun hf => ?_) (fun hf => ?_)
      · refine g_iconst (v := 1) X dX12_passes_110 (by decide) ?_
        refine g_goto (tgt := 115) X dX12_passes_111 (by decide) ?_
        exact w_X12_passes_115 X hk9 hk21 ih x0 x1 x2 x3 x4 x5 1 h hf
      · refine g_iload_n X dX12_passes_70 1 rfl ?_
        refine g_iconst (v := 3) X dX12_passes_71 (by decide) ?_
        refine g_iremc X dX12_passes_72 (by decide) ?_
        refine g_ifne (tgt := 114) X hf dX12_passes_73 (by decide) (fun hf => ?_) (fun hf => ?_)
        · refine g_aload_n X dX12_passes_76 0 rfl ?_
          refine g_getR X hf (T := TX12) rfl (by decide) (by decide) in_RX12 tb_1135 rfl dX12_passes_77 (fun v7 hf => ?_)
          refine g_bipush (v := 91) X dX12_passes_80 (by decide) ?_
          refine g_iload_n X dX12_passes_82 3 rfl ?_
          refine g_iadd X dX12_passes_83 ?_
          refine g_iaload X hf dX12_passes_84 (fun v8 hf => ?_)
          refine g_iflt (tgt := 114) X hf dX12_passes_85 (by decide) (fun hf => ?_) (fun hf => ?_)
          · refine g_iconst (v := 0) X dX12_passes_114 (by decide) ?_
            exact w_X12_passes_115 X hk9 hk21 ih x0 x1 x2 x3 x4 x5 0 h hf
          · refine g_aload_n X dX12_passes_88 0 rfl ?_
            refine g_getR X hf (T := TX12) rfl (by decide) (by decide) in_RX12 tb_1135 rfl dX12_passes_89 (fun v9 hf => ?_)
            refine g_bipush (v := 91) X dX12_passes_92 (by decide) ?_
            refine g_iload X dX12_passes_94 5 rfl ?_
            refine g_iadd X dX12_passes_96 ?_
            refine g_iaload X hf dX12_passes_97 (fun v10 hf => ?_)
            refine g_aload_n X dX12_passes_98 0 rfl ?_
            refine g_getR X hf (T := TX12) rfl (by decide) (by decide) in_RX12 tb_1135 rfl dX12_passes_99 (fun v11 hf => ?_)
            refine g_bipush (v := 91) X dX12_passes_102 (by decide) ?_
            refine g_iload_n X dX12_passes_104 3 rfl ?_
            refine g_iadd X dX12_passes_105 ?_
            refine g_iaload X hf dX12_passes_106 (fun v12 hf => ?_)
            refine g_icmpne (tgt := 114) X hf dX12_passes_107 (by decide) (fun hf => ?_) (fun hf => ?_)
            · refine g_iconst (v := 1) X dX12_passes_110 (by decide) ?_
              refine g_goto (tgt := 115) X dX12_passes_111 (by decide) ?_
              exact w_X12_passes_115 X hk9 hk21 ih x0 x1 x2 x3 x4 x5 1 h hf
            · refine g_iconst (v := 0) X dX12_passes_114 (by decide) ?_
              exact w_X12_passes_115 X hk9 hk21 ih x0 x1 x2 x3 x4 x5 0 h hf
        · refine g_iconst (v := 0) X dX12_passes_114 (by decide) ?_
          exact w_X12_passes_115 X hk9 hk21 ih x0 x1 x2 x3 x4 x5 0 h hf
    · refine g_sipush (v := 491) X dX12_passes_149 (by decide) ?_
      refine g_bipush (v := 8) X dX12_passes_152 (by decide) ?_
      refine g_iload_n X dX12_passes_154 3 rfl ?_
      refine g_imul X dX12_passes_155 ?_
      refine g_iadd X dX12_passes_156 ?_
      refine g_iload_n X dX12_passes_157 2 rfl ?_
      refine g_iadd X dX12_passes_158 ?_
      refine g_istore (lv' := [(0, tR x0), (1, tI x1), (2, tI x2), (3, tI x3), (4, tI x4), (5, tI ((491 + (8 * x3)) + x2))]) X dX12_passes_159 (by decide) (in_pick [1, 2, 3, 4, 5, 0] rfl) ?_
      refine g_aload_n X dX12_passes_161 0 rfl ?_
      refine g_getR X hf (T := TX12) rfl (by decide) (by decide) in_RX12 tb_1135 rfl dX12_passes_162 (fun v13 hf => ?_)
      refine g_iload X dX12_passes_165 5 rfl ?_
      refine g_iload X dX12_passes_167 4 rfl ?_
      refine g_ifeq (tgt := 188) X hf dX12_passes_169 (by decide) (fun hf => ?_) (fun hf => ?_)
      · refine g_locs (lv' := [(0, tR x0), (1, tI x1), (2, tI x2), (3, tI x3), (5, tI ((491 + (8 * x3)) + x2))]) (in_pick [0, 1, 2, 3, 5] rfl) ?_
        exact w_X12_passes_188 X hk9 hk21 x0 x1 x2 x3 ((491 + (8 * x3)) + x2) v13 ((491 + (8 * x3)) + x2) h hf
      · refine g_aload_n X dX12_passes_172 0 rfl ?_
        refine g_getR X hf (T := TX12) rfl (by decide) (by decide) in_RX12 tb_1135 rfl dX12_passes_173 (fun v14 hf => ?_)
        refine g_iload X dX12_passes_176 5 rfl ?_
        refine g_iaload X hf dX12_passes_178 (fun v15 hf => ?_)
        refine g_ifge (tgt := 188) X hf dX12_passes_179 (by decide) (fun hf => ?_) (fun hf => ?_)
        · refine g_iload_n X dX12_passes_182 1 rfl ?_
          refine g_iconst (v := 1) X dX12_passes_183 (by decide) ?_
          refine g_iadd X dX12_passes_184 ?_
          refine g_goto (tgt := 195) X dX12_passes_185 (by decide) ?_
          refine g_locs (lv' := [(0, tR x0), (1, tI x1), (2, tI x2), (3, tI x3)]) (in_pick [0, 1, 2, 3] rfl) ?_
          exact w_X12_passes_195 X hk9 hk21 x0 x1 x2 x3 v13 ((491 + (8 * x3)) + x2) (x1 + 1) h hf
        · refine g_locs (lv' := [(0, tR x0), (1, tI x1), (2, tI x2), (3, tI x3), (5, tI ((491 + (8 * x3)) + x2))]) (in_pick [0, 1, 2, 3, 5] rfl) ?_
          exact w_X12_passes_188 X hk9 hk21 x0 x1 x2 x3 ((491 + (8 * x3)) + x2) v13 ((491 + (8 * x3)) + x2) h hf
def b_X12_passes_21  (k9 : Option Nat → Int32 → Int32 → AH → Option AH)  : Nat → Option Nat → Int32 → Int32 → Int32 → AH → Option AH
  | 0 => fun _ _ _ _ _ => none
  | n + 1 => fun x0 x1 x2 x3 h =>
    (gR 12 0 h x0).bind fun v1 =>
    (aI h v1 2).bind fun v2 =>
    if x3 < v2 then
      b_X12_passes_37 k9 (b_X12_passes_21 k9 n) FU x0 x1 x2 x3 0 0 h
    else
      k9 x0 x1 (x2 + 1) h
set_option maxRecDepth 20000 in
theorem w_X12_passes_21 {K : KT} {w : AH} {k9 : Option Nat → Int32 → Int32 → AH → Option AH}  (X : CX K cX12_passes RX12 TB none "passes" (rmD 2 0 0) 7 0 0) (hk9 : ∀ (x0 : Option Nat) (x1 : Int32) (x2 : Int32) (h : AH), k9 x0 x1 x2 h = some w → GG K (none, w) 0 0 9 [(0, tR x0), (1, tI x1), (2, tI x2)] [] h) : ∀ (n : Nat) (x0 : Option Nat) (x1 : Int32) (x2 : Int32) (x3 : Int32) (h : AH), b_X12_passes_21 k9 n x0 x1 x2 x3 h = some w → GG K (none, w) 0 0 21 [(0, tR x0), (1, tI x1), (2, tI x2), (3, tI x3)] [] h := by
  intro n
  induction n with
  | zero =>
    intro x0 x1 x2 x3 h hf
    cases (show none = some w from hf)
  | succ n ih =>
    intro x0 x1 x2 x3 h hf
    rw [b_X12_passes_21] at hf
    refine g_iload_n X dX12_passes_21 3 rfl ?_
    refine g_aload_n X dX12_passes_22 0 rfl ?_
    refine g_getR X hf (T := TX12) rfl (by decide) (by decide) in_RX12 tb_1135 rfl dX12_passes_23 (fun v1 hf => ?_)
    refine g_iconst (v := 2) X dX12_passes_26 (by decide) ?_
    refine g_iaload X hf dX12_passes_27 (fun v2 hf => ?_)
    refine g_icmpge (tgt := 202) X hf dX12_passes_28 (by decide) (fun hf => ?_) (fun hf => ?_)
    · refine g_iconst (v := 0) X dX12_passes_31 (by decide) ?_
      refine g_istore (lv' := [(0, tR x0), (1, tI x1), (2, tI x2), (3, tI x3), (4, tI 0)]) X dX12_passes_32 (by decide) (in_pick [1, 2, 3, 4, 0] rfl) ?_
      refine g_iconst (v := 0) X dX12_passes_34 (by decide) ?_
      refine g_istore (lv' := [(0, tR x0), (1, tI x1), (2, tI x2), (3, tI x3), (4, tI 0), (5, tI 0)]) X dX12_passes_35 (by decide) (in_pick [1, 2, 3, 4, 5, 0] rfl) ?_
      exact w_X12_passes_37 X hk9 ih FU x0 x1 x2 x3 0 0 h hf
    · refine g_iinc (v := (x2 + 1)) (lv' := [(0, tR x0), (1, tI x1), (2, tI (x2 + 1)), (3, tI x3)]) X dX12_passes_202 2 rfl (by rfl) (by decide) (in_pick [1, 2, 0, 3] rfl) ?_
      refine g_goto (tgt := 9) X dX12_passes_205 (by decide) ?_
      refine g_locs (lv' := [(0, tR x0), (1, tI x1), (2, tI (x2 + 1))]) (in_pick [0, 1, 2] rfl) ?_
      exact hk9 x0 x1 (x2 + 1) h hf
def b_X12_passes_9    : Nat → Option Nat → Int32 → Int32 → AH → Option AH
  | 0 => fun _ _ _ _ => none
  | n + 1 => fun x0 x1 x2 h =>
    (gR 12 0 h x0).bind fun v1 =>
    (aI h v1 3).bind fun v2 =>
    if x2 < v2 then
      b_X12_passes_21 (b_X12_passes_9 n) FU x0 x1 x2 0 h
    else
      (gR 12 0 h x0).bind fun v3 =>
      (aI h v3 0).bind fun v4 =>
      (sI h v3 0 (v4 + 1)).bind fun h5 =>
      some h5
set_option maxRecDepth 20000 in
theorem w_X12_passes_9 {K : KT} {w : AH}   (X : CX K cX12_passes RX12 TB none "passes" (rmD 2 0 0) 7 0 0)  : ∀ (n : Nat) (x0 : Option Nat) (x1 : Int32) (x2 : Int32) (h : AH), b_X12_passes_9 n x0 x1 x2 h = some w → GG K (none, w) 0 0 9 [(0, tR x0), (1, tI x1), (2, tI x2)] [] h := by
  intro n
  induction n with
  | zero =>
    intro x0 x1 x2 h hf
    cases (show none = some w from hf)
  | succ n ih =>
    intro x0 x1 x2 h hf
    rw [b_X12_passes_9] at hf
    refine g_iload_n X dX12_passes_9 2 rfl ?_
    refine g_aload_n X dX12_passes_10 0 rfl ?_
    refine g_getR X hf (T := TX12) rfl (by decide) (by decide) in_RX12 tb_1135 rfl dX12_passes_11 (fun v1 hf => ?_)
    refine g_iconst (v := 3) X dX12_passes_14 (by decide) ?_
    refine g_iaload X hf dX12_passes_15 (fun v2 hf => ?_)
    refine g_icmpge (tgt := 208) X hf dX12_passes_16 (by decide) (fun hf => ?_) (fun hf => ?_)
    · refine g_iconst (v := 0) X dX12_passes_19 (by decide) ?_
      refine g_istore_n (lv' := [(0, tR x0), (1, tI x1), (2, tI x2), (3, tI 0)]) X dX12_passes_20 (by decide) (in_pick [1, 2, 3, 0] rfl) ?_
      exact w_X12_passes_21 X ih FU x0 x1 x2 0 h hf
    · refine g_aload_n X dX12_passes_208 0 rfl ?_
      refine g_getR X hf (T := TX12) rfl (by decide) (by decide) in_RX12 tb_1135 rfl dX12_passes_209 (fun v3 hf => ?_)
      refine g_iconst (v := 0) X dX12_passes_212 (by decide) ?_
      refine g_dup2 X dX12_passes_213 rfl rfl ?_
      refine g_iaload X hf dX12_passes_214 (fun v4 hf => ?_)
      refine g_iconst (v := 1) X dX12_passes_215 (by decide) ?_
      refine g_iadd X dX12_passes_216 ?_
      refine g_iastore X hf dX12_passes_217 (fun h5 hf => ?_)
      exact g_vreturn X (zV hf) (by decide) (by decide) dX12_passes_218
def f_X12_passes  (a0 : Option Nat) (h : AH) : Option AH :=
  (gR 12 0 h a0).bind fun v1 =>
  (aI h v1 0).bind fun v2 =>
  b_X12_passes_9 FU a0 v2 0 h
set_option maxRecDepth 20000 in
theorem m_X12_passes  {a0 : Option Nat} {h : AH} {w : AH} (hf : f_X12_passes a0 h = some w) : CT yX12_passes (wU yX12_passes cX12_passes 7 none) (rmD 2 0 0) 0 0 [tR a0] h (none, w) := by
  refine CT.of (cc := cX12_passes) (nL := 7) (ret := none) (by decide) (by simp [lg_sl, vOf_cat, wOf]) ?_
  intro K X
  refine g_locs (lv' := [(0, tR a0)]) (fun q hq => hq) ?_
  unfold f_X12_passes at hf
  refine g_aload_n X dX12_passes_0 0 rfl ?_
  refine g_getR X hf (T := TX12) rfl (by decide) (by decide) in_RX12 tb_1135 rfl dX12_passes_1 (fun v1 hf => ?_)
  refine g_iconst (v := 0) X dX12_passes_4 (by decide) ?_
  refine g_iaload X hf dX12_passes_5 (fun v2 hf => ?_)
  refine g_istore_n (lv' := [(0, tR a0), (1, tI v2)]) X dX12_passes_6 (by decide) (in_pick [1, 0] rfl) ?_
  refine g_iconst (v := 0) X dX12_passes_7 (by decide) ?_
  refine g_istore_n (lv' := [(0, tR a0), (1, tI v2), (2, tI 0)]) X dX12_passes_8 (by decide) (in_pick [1, 2, 0] rfl) ?_
  exact w_X12_passes_9 X FU a0 v2 0 h hf
def b_X12_days_32    : Nat → Option Nat → Int32 → Int32 → AH → Option (Int32 × AH)
  | 0 => fun _ _ _ _ => none
  | n + 1 => fun x0 x1 x2 h =>
    if x2 < x1 then
      (ck 12 h x0 (f_X12_passes x0 h)).bind fun h1 =>
      b_X12_days_32 n x0 x1 (x2 + 1) h1
    else
      (gR 12 0 h x0).bind fun v2 =>
      (aI h v2 0).bind fun v3 =>
      some (v3, h)
set_option maxRecDepth 20000 in
theorem w_X12_days_32 {K : KT} {w : (Int32 × AH)}   (X : CX K cX12_days RX12 TB (some .int) "days" (rmD 3 0 0) 3 0 0)  : ∀ (n : Nat) (x0 : Option Nat) (x1 : Int32) (x2 : Int32) (h : AH), b_X12_days_32 n x0 x1 x2 h = some w → GG K (some (tI w.1), w.2) 0 0 32 [(0, tR x0), (1, tI x1), (2, tI x2)] [] h := by
  intro n
  induction n with
  | zero =>
    intro x0 x1 x2 h hf
    cases (show none = some w from hf)
  | succ n ih =>
    intro x0 x1 x2 h hf
    rw [b_X12_days_32] at hf
    refine g_iload_n X dX12_days_32 2 rfl ?_
    refine g_iload_n X dX12_days_33 1 rfl ?_
    refine g_icmpge (tgt := 47) X hf dX12_days_34 (by decide) (fun hf => ?_) (fun hf => ?_)
    · refine g_aload_n X dX12_days_37 0 rfl ?_
      refine g_callV (n := 0) (av := []) (rest := []) (k := 12) X hf (fun h1 => (none, h1)) (fun _ q => m_X12_passes q) (gdV tb_1229 tb_1230 tb_1687 tb_12 tb_1231) rfl (by decide +kernel) rfl (by decide) rfl (by decide) (by decide) rfl (Nat.le_of_ble_eq_true rfl) dX12_days_38 (fun h1 hf => ?_)
      refine g_iinc (v := (x2 + 1)) (lv' := [(0, tR x0), (1, tI x1), (2, tI (x2 + 1))]) X dX12_days_41 2 rfl (by rfl) (by decide) (in_pick [1, 2, 0] rfl) ?_
      refine g_goto (tgt := 32) X dX12_days_44 (by decide) ?_
      exact ih x0 x1 (x2 + 1) h1 hf
    · refine g_aload_n X dX12_days_47 0 rfl ?_
      refine g_getR X hf (T := TX12) rfl (by decide) (by decide) in_RX12 tb_1135 rfl dX12_days_48 (fun v2 hf => ?_)
      refine g_iconst (v := 0) X dX12_days_51 (by decide) ?_
      refine g_iaload X hf dX12_days_52 (fun v3 hf => ?_)
      exact g_ireturn X (zW hf) (by decide) (by decide) dX12_days_53
def f_X12_days  (a0 : Option Nat) (a1 : Int32) (h : AH) : Option (Int32 × AH) :=
  (f_X12_in a1 1 400 h).bind fun v1 =>
  if v1 = 0 then
    some ((-1), h)
  else
    (gR 12 0 h a0).bind fun v2 =>
    (aI h v2 0).bind fun v3 =>
    if 9999 < (v3 + a1) then
      some ((-4), h)
    else
      b_X12_days_32 FU a0 a1 0 h
set_option maxRecDepth 20000 in
theorem m_X12_days  {a0 : Option Nat} {a1 : Int32} {h : AH} {w : (Int32 × AH)} (hf : f_X12_days a0 a1 h = some w) : CT yX12_days (wU yX12_days cX12_days 3 (some .int)) (rmD 3 0 0) 0 0 [tR a0, tI a1] h (some (tI w.1), w.2) := by
  refine CT.of (cc := cX12_days) (nL := 3) (ret := (some .int)) (by decide) (by simp [lg_sl, vOf_cat, wOf]) ?_
  intro K X
  refine g_locs (lv' := [(0, tR a0), (1, tI a1)]) (fun q hq => hq) ?_
  unfold f_X12_days at hf
  refine g_iload_n X dX12_days_0 1 rfl ?_
  refine g_iconst (v := 1) X dX12_days_1 (by decide) ?_
  refine g_sipush (v := 400) X dX12_days_2 (by decide) ?_
  refine g_callS (n := 3) (av := [tI a1, tI 1, tI 400]) (rest := []) X hf (fun v1 => (some (tI v1), h)) (fun _ q => m_X12_in q) (gdS tb_1226 tb_1227 tb_12 tb_1228) rfl (by decide +kernel) rfl (by decide) (by decide) rfl (Nat.le_of_ble_eq_true rfl) dX12_days_5 (fun v1 hf => ?_)
  refine g_ifne (tgt := 13) X hf dX12_days_8 (by decide) (fun hf => ?_) (fun hf => ?_)
  · refine g_iconst (v := (-1)) X dX12_days_11 (by decide) ?_
    exact g_ireturn X (zW hf) (by decide) (by decide) dX12_days_12
  · refine g_aload_n X dX12_days_13 0 rfl ?_
    refine g_getR X hf (T := TX12) rfl (by decide) (by decide) in_RX12 tb_1135 rfl dX12_days_14 (fun v2 hf => ?_)
    refine g_iconst (v := 0) X dX12_days_17 (by decide) ?_
    refine g_iaload X hf dX12_days_18 (fun v3 hf => ?_)
    refine g_iload_n X dX12_days_19 1 rfl ?_
    refine g_iadd X dX12_days_20 ?_
    refine g_sipush (v := 9999) X dX12_days_21 (by decide) ?_
    refine g_icmple (tgt := 30) X hf dX12_days_24 (by decide) (fun hf => ?_) (fun hf => ?_)
    · refine g_bipush (v := (-4)) X dX12_days_27 (by decide) ?_
      exact g_ireturn X (zW hf) (by decide) (by decide) dX12_days_29
    · refine g_iconst (v := 0) X dX12_days_30 (by decide) ?_
      refine g_istore_n (lv' := [(0, tR a0), (1, tI a1), (2, tI 0)]) X dX12_days_31 (by decide) (in_pick [1, 2, 0] rfl) ?_
      exact w_X12_days_32 X FU a0 a1 0 h hf
def b_X12_isWet_2   (h : AH) : Nat → Option Nat → Int32 → Int32 → Option Int32
  | 0 => fun _ _ _ => none
  | n + 1 => fun x0 x1 x2 =>
    (gR 12 0 h x0).bind fun v1 =>
    (aI h v1 6).bind fun v2 =>
    if x2 < v2 then
      (gR 12 0 h x0).bind fun v3 =>
      (aI h v3 (55 + x2)).bind fun v4 =>
      if v4 = x1 then
        some 1
      else
        b_X12_isWet_2 h n x0 x1 (x2 + 1)
    else
      some 0
set_option maxRecDepth 20000 in
theorem w_X12_isWet_2 {K : KT} {w : Int32} {h : AH}   (X : CX K cX12_isWet RX12 TB (some .boolean) "isWet" (rmD 1 0 0) 3 0 0)  : ∀ (n : Nat) (x0 : Option Nat) (x1 : Int32) (x2 : Int32), b_X12_isWet_2 h n x0 x1 x2 = some w → GG K (some (tI w), h) 0 0 2 [(0, tR x0), (1, tI x1), (2, tI x2)] [] h := by
  intro n
  induction n with
  | zero =>
    intro x0 x1 x2 hf
    cases (show none = some w from hf)
  | succ n ih =>
    intro x0 x1 x2 hf
    rw [b_X12_isWet_2] at hf
    refine g_iload_n X dX12_isWet_2 2 rfl ?_
    refine g_aload_n X dX12_isWet_3 0 rfl ?_
    refine g_getR X hf (T := TX12) rfl (by decide) (by decide) in_RX12 tb_1135 rfl dX12_isWet_4 (fun v1 hf => ?_)
    refine g_bipush (v := 6) X dX12_isWet_7 (by decide) ?_
    refine g_iaload X hf dX12_isWet_9 (fun v2 hf => ?_)
    refine g_icmpge (tgt := 34) X hf dX12_isWet_10 (by decide) (fun hf => ?_) (fun hf => ?_)
    · refine g_aload_n X dX12_isWet_13 0 rfl ?_
      refine g_getR X hf (T := TX12) rfl (by decide) (by decide) in_RX12 tb_1135 rfl dX12_isWet_14 (fun v3 hf => ?_)
      refine g_bipush (v := 55) X dX12_isWet_17 (by decide) ?_
      refine g_iload_n X dX12_isWet_19 2 rfl ?_
      refine g_iadd X dX12_isWet_20 ?_
      refine g_iaload X hf dX12_isWet_21 (fun v4 hf => ?_)
      refine g_iload_n X dX12_isWet_22 1 rfl ?_
      refine g_icmpne (tgt := 28) X hf dX12_isWet_23 (by decide) (fun hf => ?_) (fun hf => ?_)
      · refine g_iconst (v := 1) X dX12_isWet_26 (by decide) ?_
        exact g_zreturn X (zP hf) (by decide) (by decide) (by decide) dX12_isWet_27
      · refine g_iinc (v := (x2 + 1)) (lv' := [(0, tR x0), (1, tI x1), (2, tI (x2 + 1))]) X dX12_isWet_28 2 rfl (by rfl) (by decide) (in_pick [1, 2, 0] rfl) ?_
        refine g_goto (tgt := 2) X dX12_isWet_31 (by decide) ?_
        exact ih x0 x1 (x2 + 1) hf
    · refine g_iconst (v := 0) X dX12_isWet_34 (by decide) ?_
      exact g_zreturn X (zP hf) (by decide) (by decide) (by decide) dX12_isWet_35
def f_X12_isWet  (a0 : Option Nat) (a1 : Int32) (h : AH) : Option Int32 :=
  b_X12_isWet_2 h FU a0 a1 0
set_option maxRecDepth 20000 in
theorem m_X12_isWet  {a0 : Option Nat} {a1 : Int32} {h : AH} {w : Int32} (hf : f_X12_isWet a0 a1 h = some w) : CT yX12_isWet (wU yX12_isWet cX12_isWet 3 (some .boolean)) (rmD 1 0 0) 0 0 [tR a0, tI a1] h (some (tI w), h) := by
  refine CT.of (cc := cX12_isWet) (nL := 3) (ret := (some .boolean)) (by decide) (by simp [lg_sl, vOf_cat, wOf]) ?_
  intro K X
  refine g_locs (lv' := [(0, tR a0), (1, tI a1)]) (fun q hq => hq) ?_
  unfold f_X12_isWet at hf
  refine g_iconst (v := 0) X dX12_isWet_0 (by decide) ?_
  refine g_istore_n (lv' := [(0, tR a0), (1, tI a1), (2, tI 0)]) X dX12_isWet_1 (by decide) (in_pick [1, 2, 0] rfl) ?_
  exact w_X12_isWet_2 X FU a0 a1 0 hf
def f_X12_wet  (a0 : Option Nat) (a1 : Int32) (h : AH) : Option (Int32 × AH) :=
  (f_X12_isDay a1 h).bind fun v1 =>
  if v1 = 0 then
    some ((-1), h)
  else
    (ck 12 h a0 (f_X12_isWet a0 a1 h)).bind fun v2 =>
    if v2 = 0 then
      (gR 12 0 h a0).bind fun v3 =>
      (aI h v3 6).bind fun v4 =>
      if v4 = 20 then
        some ((-2), h)
      else
        (gR 12 0 h a0).bind fun v5 =>
        (gR 12 0 h a0).bind fun v6 =>
        (aI h v6 6).bind fun v7 =>
        (sI h v5 (55 + v7) a1).bind fun h8 =>
        (gR 12 0 h8 a0).bind fun v9 =>
        (aI h8 v9 6).bind fun v10 =>
        (sI h8 v9 6 (v10 + 1)).bind fun h11 =>
        (gR 12 0 h11 a0).bind fun v12 =>
        (aI h11 v12 6).bind fun v13 =>
        some (v13, h11)
    else
      some ((-4), h)
set_option maxRecDepth 20000 in
theorem m_X12_wet  {a0 : Option Nat} {a1 : Int32} {h : AH} {w : (Int32 × AH)} (hf : f_X12_wet a0 a1 h = some w) : CT yX12_wet (wU yX12_wet cX12_wet 2 (some .int)) (rmD 3 0 0) 0 0 [tR a0, tI a1] h (some (tI w.1), w.2) := by
  refine CT.of (cc := cX12_wet) (nL := 2) (ret := (some .int)) (by decide) (by simp [lg_sl, vOf_cat, wOf]) ?_
  intro K X
  refine g_locs (lv' := [(0, tR a0), (1, tI a1)]) (fun q hq => hq) ?_
  unfold f_X12_wet at hf
  refine g_iload_n X dX12_wet_0 1 rfl ?_
  refine g_callS (n := 1) (av := [tI a1]) (rest := []) X hf (fun v1 => (some (tI v1), h)) (fun _ q => m_X12_isDay q) (gdS tb_1239 tb_1240 tb_12 tb_1241) rfl (by decide +kernel) rfl (by decide) (by decide) rfl (Nat.le_of_ble_eq_true rfl) dX12_wet_1 (fun v1 hf => ?_)
  refine g_ifne (tgt := 9) X hf dX12_wet_4 (by decide) (fun hf => ?_) (fun hf => ?_)
  · refine g_iconst (v := (-1)) X dX12_wet_7 (by decide) ?_
    exact g_ireturn X (zW hf) (by decide) (by decide) dX12_wet_8
  · refine g_aload_n X dX12_wet_9 0 rfl ?_
    refine g_iload_n X dX12_wet_10 1 rfl ?_
    refine g_callV (n := 1) (av := [tI a1]) (rest := []) (k := 12) X hf (fun v2 => (some (tI v2), h)) (fun _ q => m_X12_isWet q) (gdV tb_1242 tb_1243 tb_1689 tb_12 tb_1244) rfl (by decide +kernel) rfl (by decide) rfl (by decide) (by decide) rfl (Nat.le_of_ble_eq_true rfl) dX12_wet_11 (fun v2 hf => ?_)
    refine g_ifeq (tgt := 20) X hf dX12_wet_14 (by decide) (fun hf => ?_) (fun hf => ?_)
    · refine g_aload_n X dX12_wet_20 0 rfl ?_
      refine g_getR X hf (T := TX12) rfl (by decide) (by decide) in_RX12 tb_1135 rfl dX12_wet_21 (fun v3 hf => ?_)
      refine g_bipush (v := 6) X dX12_wet_24 (by decide) ?_
      refine g_iaload X hf dX12_wet_26 (fun v4 hf => ?_)
      refine g_bipush (v := 20) X dX12_wet_27 (by decide) ?_
      refine g_icmpne (tgt := 35) X hf dX12_wet_29 (by decide) (fun hf => ?_) (fun hf => ?_)
      · refine g_bipush (v := (-2)) X dX12_wet_32 (by decide) ?_
        exact g_ireturn X (zW hf) (by decide) (by decide) dX12_wet_34
      · refine g_aload_n X dX12_wet_35 0 rfl ?_
        refine g_getR X hf (T := TX12) rfl (by decide) (by decide) in_RX12 tb_1135 rfl dX12_wet_36 (fun v5 hf => ?_)
        refine g_bipush (v := 55) X dX12_wet_39 (by decide) ?_
        refine g_aload_n X dX12_wet_41 0 rfl ?_
        refine g_getR X hf (T := TX12) rfl (by decide) (by decide) in_RX12 tb_1135 rfl dX12_wet_42 (fun v6 hf => ?_)
        refine g_bipush (v := 6) X dX12_wet_45 (by decide) ?_
        refine g_iaload X hf dX12_wet_47 (fun v7 hf => ?_)
        refine g_iadd X dX12_wet_48 ?_
        refine g_iload_n X dX12_wet_49 1 rfl ?_
        refine g_iastore X hf dX12_wet_50 (fun h8 hf => ?_)
        refine g_aload_n X dX12_wet_51 0 rfl ?_
        refine g_getR X hf (T := TX12) rfl (by decide) (by decide) in_RX12 tb_1135 rfl dX12_wet_52 (fun v9 hf => ?_)
        refine g_bipush (v := 6) X dX12_wet_55 (by decide) ?_
        refine g_dup2 X dX12_wet_57 rfl rfl ?_
        refine g_iaload X hf dX12_wet_58 (fun v10 hf => ?_)
        refine g_iconst (v := 1) X dX12_wet_59 (by decide) ?_
        refine g_iadd X dX12_wet_60 ?_
        refine g_iastore X hf dX12_wet_61 (fun h11 hf => ?_)
        refine g_aload_n X dX12_wet_62 0 rfl ?_
        refine g_getR X hf (T := TX12) rfl (by decide) (by decide) in_RX12 tb_1135 rfl dX12_wet_63 (fun v12 hf => ?_)
        refine g_bipush (v := 6) X dX12_wet_66 (by decide) ?_
        refine g_iaload X hf dX12_wet_68 (fun v13 hf => ?_)
        exact g_ireturn X (zW hf) (by decide) (by decide) dX12_wet_69
    · refine g_bipush (v := (-4)) X dX12_wet_17 (by decide) ?_
      exact g_ireturn X (zW hf) (by decide) (by decide) dX12_wet_19
def f_X12_ward  (a0 : Option Nat) (a1 : Int32) (a2 : Int32) (h : AH) : Option (Int32 × AH) :=
  (f_X12_in a1 0 4 h).bind fun v1 =>
  if v1 = 0 then
    some ((-1), h)
  else
    (f_X12_in a2 0 600 h).bind fun v2 =>
    if v2 = 0 then
      some ((-1), h)
    else
      (gR 12 0 h a0).bind fun v3 =>
      (aI h v3 1).bind fun v4 =>
      if v4 = 8 then
        some ((-2), h)
      else
        (gR 12 0 h a0).bind fun v5 =>
        (aI h v5 1).bind fun v6 =>
        (gR 12 0 h a0).bind fun v7 =>
        (sI h v7 (23 + v6) a1).bind fun h8 =>
        (gR 12 0 h8 a0).bind fun v9 =>
        (sI h8 v9 (31 + v6) a2).bind fun h10 =>
        (gR 12 0 h10 a0).bind fun v11 =>
        (sI h10 v11 (39 + v6) (-1)).bind fun h12 =>
        (gR 12 0 h12 a0).bind fun v13 =>
        (sI h12 v13 (47 + v6) (-1)).bind fun h14 =>
        (gR 12 0 h14 a0).bind fun v15 =>
        (aI h14 v15 1).bind fun v16 =>
        (sI h14 v15 1 (v16 + 1)).bind fun h17 =>
        some (v6, h17)
set_option maxRecDepth 20000 in
theorem m_X12_ward  {a0 : Option Nat} {a1 : Int32} {a2 : Int32} {h : AH} {w : (Int32 × AH)} (hf : f_X12_ward a0 a1 a2 h = some w) : CT yX12_ward (wU yX12_ward cX12_ward 4 (some .int)) (rmD 2 0 0) 0 0 [tR a0, tI a1, tI a2] h (some (tI w.1), w.2) := by
  refine CT.of (cc := cX12_ward) (nL := 4) (ret := (some .int)) (by decide) (by simp [lg_sl, vOf_cat, wOf]) ?_
  intro K X
  refine g_locs (lv' := [(0, tR a0), (1, tI a1), (2, tI a2)]) (fun q hq => hq) ?_
  unfold f_X12_ward at hf
  refine g_iload_n X dX12_ward_0 1 rfl ?_
  refine g_iconst (v := 0) X dX12_ward_1 (by decide) ?_
  refine g_iconst (v := 4) X dX12_ward_2 (by decide) ?_
  refine g_callS (n := 3) (av := [tI a1, tI 0, tI 4]) (rest := []) X hf (fun v1 => (some (tI v1), h)) (fun _ q => m_X12_in q) (gdS tb_1226 tb_1227 tb_12 tb_1228) rfl (by decide +kernel) rfl (by decide) (by decide) rfl (Nat.le_of_ble_eq_true rfl) dX12_ward_3 (fun v1 hf => ?_)
  refine g_ifeq (tgt := 20) X hf dX12_ward_6 (by decide) (fun hf => ?_) (fun hf => ?_)
  · refine g_iconst (v := (-1)) X dX12_ward_20 (by decide) ?_
    exact g_ireturn X (zW hf) (by decide) (by decide) dX12_ward_21
  · refine g_iload_n X dX12_ward_9 2 rfl ?_
    refine g_iconst (v := 0) X dX12_ward_10 (by decide) ?_
    refine g_sipush (v := 600) X dX12_ward_11 (by decide) ?_
    refine g_callS (n := 3) (av := [tI a2, tI 0, tI 600]) (rest := []) X hf (fun v2 => (some (tI v2), h)) (fun _ q => m_X12_in q) (gdS tb_1226 tb_1227 tb_12 tb_1228) rfl (by decide +kernel) rfl (by decide) (by decide) rfl (Nat.le_of_ble_eq_true rfl) dX12_ward_14 (fun v2 hf => ?_)
    refine g_ifne (tgt := 22) X hf dX12_ward_17 (by decide) (fun hf => ?_) (fun hf => ?_)
    · refine g_iconst (v := (-1)) X dX12_ward_20 (by decide) ?_
      exact g_ireturn X (zW hf) (by decide) (by decide) dX12_ward_21
    · refine g_aload_n X dX12_ward_22 0 rfl ?_
      refine g_getR X hf (T := TX12) rfl (by decide) (by decide) in_RX12 tb_1135 rfl dX12_ward_23 (fun v3 hf => ?_)
      refine g_iconst (v := 1) X dX12_ward_26 (by decide) ?_
      refine g_iaload X hf dX12_ward_27 (fun v4 hf => ?_)
      refine g_bipush (v := 8) X dX12_ward_28 (by decide) ?_
      refine g_icmpne (tgt := 36) X hf dX12_ward_30 (by decide) (fun hf => ?_) (fun hf => ?_)
      · refine g_bipush (v := (-2)) X dX12_ward_33 (by decide) ?_
        exact g_ireturn X (zW hf) (by decide) (by decide) dX12_ward_35
      · refine g_aload_n X dX12_ward_36 0 rfl ?_
        refine g_getR X hf (T := TX12) rfl (by decide) (by decide) in_RX12 tb_1135 rfl dX12_ward_37 (fun v5 hf => ?_)
        refine g_iconst (v := 1) X dX12_ward_40 (by decide) ?_
        refine g_iaload X hf dX12_ward_41 (fun v6 hf => ?_)
        refine g_istore_n (lv' := [(0, tR a0), (1, tI a1), (2, tI a2), (3, tI v6)]) X dX12_ward_42 (by decide) (in_pick [1, 2, 3, 0] rfl) ?_
        refine g_aload_n X dX12_ward_43 0 rfl ?_
        refine g_getR X hf (T := TX12) rfl (by decide) (by decide) in_RX12 tb_1135 rfl dX12_ward_44 (fun v7 hf => ?_)
        refine g_bipush (v := 23) X dX12_ward_47 (by decide) ?_
        refine g_iload_n X dX12_ward_49 3 rfl ?_
        refine g_iadd X dX12_ward_50 ?_
        refine g_iload_n X dX12_ward_51 1 rfl ?_
        refine g_iastore X hf dX12_ward_52 (fun h8 hf => ?_)
        refine g_aload_n X dX12_ward_53 0 rfl ?_
        refine g_getR X hf (T := TX12) rfl (by decide) (by decide) in_RX12 tb_1135 rfl dX12_ward_54 (fun v9 hf => ?_)
        refine g_bipush (v := 31) X dX12_ward_57 (by decide) ?_
        refine g_iload_n X dX12_ward_59 3 rfl ?_
        refine g_iadd X dX12_ward_60 ?_
        refine g_iload_n X dX12_ward_61 2 rfl ?_
        refine g_iastore X hf dX12_ward_62 (fun h10 hf => ?_)
        refine g_aload_n X dX12_ward_63 0 rfl ?_
        refine g_getR X hf (T := TX12) rfl (by decide) (by decide) in_RX12 tb_1135 rfl dX12_ward_64 (fun v11 hf => ?_)
        refine g_bipush (v := 39) X dX12_ward_67 (by decide) ?_
        refine g_iload_n X dX12_ward_69 3 rfl ?_
        refine g_iadd X dX12_ward_70 ?_
        refine g_iconst (v := (-1)) X dX12_ward_71 (by decide) ?_
        refine g_iastore X hf dX12_ward_72 (fun h12 hf => ?_)
        refine g_aload_n X dX12_ward_73 0 rfl ?_
        refine g_getR X hf (T := TX12) rfl (by decide) (by decide) in_RX12 tb_1135 rfl dX12_ward_74 (fun v13 hf => ?_)
        refine g_bipush (v := 47) X dX12_ward_77 (by decide) ?_
        refine g_iload_n X dX12_ward_79 3 rfl ?_
        refine g_iadd X dX12_ward_80 ?_
        refine g_iconst (v := (-1)) X dX12_ward_81 (by decide) ?_
        refine g_iastore X hf dX12_ward_82 (fun h14 hf => ?_)
        refine g_aload_n X dX12_ward_83 0 rfl ?_
        refine g_getR X hf (T := TX12) rfl (by decide) (by decide) in_RX12 tb_1135 rfl dX12_ward_84 (fun v15 hf => ?_)
        refine g_iconst (v := 1) X dX12_ward_87 (by decide) ?_
        refine g_dup2 X dX12_ward_88 rfl rfl ?_
        refine g_iaload X hf dX12_ward_89 (fun v16 hf => ?_)
        refine g_iconst (v := 1) X dX12_ward_90 (by decide) ?_
        refine g_iadd X dX12_ward_91 ?_
        refine g_iastore X hf dX12_ward_92 (fun h17 hf => ?_)
        refine g_iload_n X dX12_ward_93 3 rfl ?_
        exact g_ireturn X (zW hf) (by decide) (by decide) dX12_ward_94
def f_X12_harvest  (a0 : Option Nat) (a1 : Int32) (a2 : Int32) (a3 : Int32) (h : AH) : Option (Int32 × AH) :=
  (ck 12 h a0 (f_X12_isWard a0 a1 h)).bind fun v1 =>
  if v1 = 0 then
    some ((-1), h)
  else
    (f_X12_isDay a2 h).bind fun v2 =>
    if v2 = 0 then
      some ((-1), h)
    else
      (f_X12_in a3 a2 9999 h).bind fun v3 =>
      if v3 = 0 then
        some ((-1), h)
      else
        (gR 12 0 h a0).bind fun v4 =>
        (sI h v4 (39 + a1) a2).bind fun h5 =>
        (gR 12 0 h5 a0).bind fun v6 =>
        (sI h5 v6 (47 + a1) a3).bind fun h7 =>
        some (1, h7)
set_option maxRecDepth 20000 in
theorem m_X12_harvest  {a0 : Option Nat} {a1 : Int32} {a2 : Int32} {a3 : Int32} {h : AH} {w : (Int32 × AH)} (hf : f_X12_harvest a0 a1 a2 a3 h = some w) : CT yX12_harvest (wU yX12_harvest cX12_harvest 4 (some .int)) (rmD 3 0 0) 0 0 [tR a0, tI a1, tI a2, tI a3] h (some (tI w.1), w.2) := by
  refine CT.of (cc := cX12_harvest) (nL := 4) (ret := (some .int)) (by decide) (by simp [lg_sl, vOf_cat, wOf]) ?_
  intro K X
  refine g_locs (lv' := [(0, tR a0), (1, tI a1), (2, tI a2), (3, tI a3)]) (fun q hq => hq) ?_
  unfold f_X12_harvest at hf
  refine g_aload_n X dX12_harvest_0 0 rfl ?_
  refine g_iload_n X dX12_harvest_1 1 rfl ?_
  refine g_callV (n := 1) (av := [tI a1]) (rest := []) (k := 12) X hf (fun v1 => (some (tI v1), h)) (fun _ q => m_X12_isWard q) (gdV tb_1253 tb_1254 tb_1690 tb_12 tb_1255) rfl (by decide +kernel) rfl (by decide) rfl (by decide) (by decide) rfl (Nat.le_of_ble_eq_true rfl) dX12_harvest_2 (fun v1 hf => ?_)
  refine g_ifeq (tgt := 26) X hf dX12_harvest_5 (by decide) (fun hf => ?_) (fun hf => ?_)
  · refine g_iconst (v := (-1)) X dX12_harvest_26 (by decide) ?_
    exact g_ireturn X (zW hf) (by decide) (by decide) dX12_harvest_27
  · refine g_iload_n X dX12_harvest_8 2 rfl ?_
    refine g_callS (n := 1) (av := [tI a2]) (rest := []) X hf (fun v2 => (some (tI v2), h)) (fun _ q => m_X12_isDay q) (gdS tb_1239 tb_1240 tb_12 tb_1241) rfl (by decide +kernel) rfl (by decide) (by decide) rfl (Nat.le_of_ble_eq_true rfl) dX12_harvest_9 (fun v2 hf => ?_)
    refine g_ifeq (tgt := 26) X hf dX12_harvest_12 (by decide) (fun hf => ?_) (fun hf => ?_)
    · refine g_iconst (v := (-1)) X dX12_harvest_26 (by decide) ?_
      exact g_ireturn X (zW hf) (by decide) (by decide) dX12_harvest_27
    · refine g_iload_n X dX12_harvest_15 3 rfl ?_
      refine g_iload_n X dX12_harvest_16 2 rfl ?_
      refine g_sipush (v := 9999) X dX12_harvest_17 (by decide) ?_
      refine g_callS (n := 3) (av := [tI a3, tI a2, tI 9999]) (rest := []) X hf (fun v3 => (some (tI v3), h)) (fun _ q => m_X12_in q) (gdS tb_1226 tb_1227 tb_12 tb_1228) rfl (by decide +kernel) rfl (by decide) (by decide) rfl (Nat.le_of_ble_eq_true rfl) dX12_harvest_20 (fun v3 hf => ?_)
      refine g_ifne (tgt := 28) X hf dX12_harvest_23 (by decide) (fun hf => ?_) (fun hf => ?_)
      · refine g_iconst (v := (-1)) X dX12_harvest_26 (by decide) ?_
        exact g_ireturn X (zW hf) (by decide) (by decide) dX12_harvest_27
      · refine g_aload_n X dX12_harvest_28 0 rfl ?_
        refine g_getR X hf (T := TX12) rfl (by decide) (by decide) in_RX12 tb_1135 rfl dX12_harvest_29 (fun v4 hf => ?_)
        refine g_bipush (v := 39) X dX12_harvest_32 (by decide) ?_
        refine g_iload_n X dX12_harvest_34 1 rfl ?_
        refine g_iadd X dX12_harvest_35 ?_
        refine g_iload_n X dX12_harvest_36 2 rfl ?_
        refine g_iastore X hf dX12_harvest_37 (fun h5 hf => ?_)
        refine g_aload_n X dX12_harvest_38 0 rfl ?_
        refine g_getR X hf (T := TX12) rfl (by decide) (by decide) in_RX12 tb_1135 rfl dX12_harvest_39 (fun v6 hf => ?_)
        refine g_bipush (v := 47) X dX12_harvest_42 (by decide) ?_
        refine g_iload_n X dX12_harvest_44 1 rfl ?_
        refine g_iadd X dX12_harvest_45 ?_
        refine g_iload_n X dX12_harvest_46 3 rfl ?_
        refine g_iastore X hf dX12_harvest_47 (fun h7 hf => ?_)
        refine g_iconst (v := 1) X dX12_harvest_48 (by decide) ?_
        exact g_ireturn X (zW hf) (by decide) (by decide) dX12_harvest_49
def b_X12_man_198    : Nat → Option Nat → Int32 → Int32 → AH → Option (Int32 × AH)
  | 0 => fun _ _ _ _ => none
  | n + 1 => fun x0 x5 x6 h =>
    if x6 < 8 then
      (gR 12 0 h x0).bind fun v1 =>
      (sI h v1 ((491 + (8 * x5)) + x6) (-1)).bind fun h2 =>
      b_X12_man_198 n x0 x5 (x6 + 1) h2
    else
      (gR 12 0 h x0).bind fun v3 =>
      (aI h v3 2).bind fun v4 =>
      (sI h v3 2 (v4 + 1)).bind fun h5 =>
      some (x5, h5)
set_option maxRecDepth 20000 in
theorem w_X12_man_198 {K : KT} {w : (Int32 × AH)}   (X : CX K cX12_man RX12 TB (some .int) "man" (rmD 3 0 0) 7 0 0)  : ∀ (n : Nat) (x0 : Option Nat) (x5 : Int32) (x6 : Int32) (h : AH), b_X12_man_198 n x0 x5 x6 h = some w → GG K (some (tI w.1), w.2) 0 0 198 [(0, tR x0), (5, tI x5), (6, tI x6)] [] h := by
  intro n
  induction n with
  | zero =>
    intro x0 x5 x6 h hf
    cases (show none = some w from hf)
  | succ n ih =>
    intro x0 x5 x6 h hf
    rw [b_X12_man_198] at hf
    refine g_iload X dX12_man_198 2 rfl ?_
    refine g_bipush (v := 8) X dX12_man_200 (by decide) ?_
    refine g_icmpge (tgt := 229) X hf dX12_man_202 (by decide) (fun hf => ?_) (fun hf => ?_)
    · refine g_aload_n X dX12_man_205 0 rfl ?_
      refine g_getR X hf (T := TX12) rfl (by decide) (by decide) in_RX12 tb_1135 rfl dX12_man_206 (fun v1 hf => ?_)
      refine g_sipush (v := 491) X dX12_man_209 (by decide) ?_
      refine g_bipush (v := 8) X dX12_man_212 (by decide) ?_
      refine g_iload X dX12_man_214 1 rfl ?_
      refine g_imul X dX12_man_216 ?_
      refine g_iadd X dX12_man_217 ?_
      refine g_iload X dX12_man_218 2 rfl ?_
      refine g_iadd X dX12_man_220 ?_
      refine g_iconst (v := (-1)) X dX12_man_221 (by decide) ?_
      refine g_iastore X hf dX12_man_222 (fun h2 hf => ?_)
      refine g_iinc (v := (x6 + 1)) (lv' := [(0, tR x0), (5, tI x5), (6, tI (x6 + 1))]) X dX12_man_223 2 rfl (by rfl) (by decide) (in_pick [1, 2, 0] rfl) ?_
      refine g_goto (tgt := 198) X dX12_man_226 (by decide) ?_
      exact ih x0 x5 (x6 + 1) h2 hf
    · refine g_aload_n X dX12_man_229 0 rfl ?_
      refine g_getR X hf (T := TX12) rfl (by decide) (by decide) in_RX12 tb_1135 rfl dX12_man_230 (fun v3 hf => ?_)
      refine g_iconst (v := 2) X dX12_man_233 (by decide) ?_
      refine g_dup2 X dX12_man_234 rfl rfl ?_
      refine g_iaload X hf dX12_man_235 (fun v4 hf => ?_)
      refine g_iconst (v := 1) X dX12_man_236 (by decide) ?_
      refine g_iadd X dX12_man_237 ?_
      refine g_iastore X hf dX12_man_238 (fun h5 hf => ?_)
      refine g_iload X dX12_man_239 1 rfl ?_
      exact g_ireturn X (zW hf) (by decide) (by decide) dX12_man_241
def b_X12_man_164    : Nat → Option Nat → Int32 → Int32 → AH → Option (Int32 × AH)
  | 0 => fun _ _ _ _ => none
  | n + 1 => fun x0 x5 x6 h =>
    if x6 < 16 then
      (gR 12 0 h x0).bind fun v1 =>
      (sI h v1 ((219 + (16 * x5)) + x6) 0).bind fun h2 =>
      b_X12_man_164 n x0 x5 (x6 + 1) h2
    else
      b_X12_man_198 FU x0 x5 0 h
set_option maxRecDepth 20000 in
theorem w_X12_man_164 {K : KT} {w : (Int32 × AH)}   (X : CX K cX12_man RX12 TB (some .int) "man" (rmD 3 0 0) 7 0 0)  : ∀ (n : Nat) (x0 : Option Nat) (x5 : Int32) (x6 : Int32) (h : AH), b_X12_man_164 n x0 x5 x6 h = some w → GG K (some (tI w.1), w.2) 0 0 164 [(0, tR x0), (5, tI x5), (6, tI x6)] [] h := by
  intro n
  induction n with
  | zero =>
    intro x0 x5 x6 h hf
    cases (show none = some w from hf)
  | succ n ih =>
    intro x0 x5 x6 h hf
    rw [b_X12_man_164] at hf
    refine g_iload X dX12_man_164 2 rfl ?_
    refine g_bipush (v := 16) X dX12_man_166 (by decide) ?_
    refine g_icmpge (tgt := 195) X hf dX12_man_168 (by decide) (fun hf => ?_) (fun hf => ?_)
    · refine g_aload_n X dX12_man_171 0 rfl ?_
      refine g_getR X hf (T := TX12) rfl (by decide) (by decide) in_RX12 tb_1135 rfl dX12_man_172 (fun v1 hf => ?_)
      refine g_sipush (v := 219) X dX12_man_175 (by decide) ?_
      refine g_bipush (v := 16) X dX12_man_178 (by decide) ?_
      refine g_iload X dX12_man_180 1 rfl ?_
      refine g_imul X dX12_man_182 ?_
      refine g_iadd X dX12_man_183 ?_
      refine g_iload X dX12_man_184 2 rfl ?_
      refine g_iadd X dX12_man_186 ?_
      refine g_iconst (v := 0) X dX12_man_187 (by decide) ?_
      refine g_iastore X hf dX12_man_188 (fun h2 hf => ?_)
      refine g_iinc (v := (x6 + 1)) (lv' := [(0, tR x0), (5, tI x5), (6, tI (x6 + 1))]) X dX12_man_189 2 rfl (by rfl) (by decide) (in_pick [1, 2, 0] rfl) ?_
      refine g_goto (tgt := 164) X dX12_man_192 (by decide) ?_
      exact ih x0 x5 (x6 + 1) h2 hf
    · refine g_iconst (v := 0) X dX12_man_195 (by decide) ?_
      refine g_istore (lv' := [(0, tR x0), (5, tI x5), (6, tI 0)]) X dX12_man_196 (by decide) (in_pick [1, 2, 0] rfl) ?_
      exact w_X12_man_198 X FU x0 x5 0 h hf
def f_X12_man  (a0 : Option Nat) (a1 : Int32) (a2 : Int32) (a3 : Int32) (a4 : Int32) (h : AH) : Option (Int32 × AH) :=
  (ck 12 h a0 (f_X12_isWard a0 a1 h)).bind fun v1 =>
  if v1 = 0 then
    some ((-1), h)
  else
    (f_X12_in a2 (-1) 5 h).bind fun v2 =>
    if v2 = 0 then
      some ((-1), h)
    else
      (f_X12_isName a3 h).bind fun v3 =>
      if v3 = 0 then
        some ((-1), h)
      else
        (f_X12_isName a4 h).bind fun v4 =>
        if v4 = 0 then
          some ((-1), h)
        else
          (gR 12 0 h a0).bind fun v5 =>
          (aI h v5 2).bind fun v6 =>
          if v6 = 16 then
            some ((-2), h)
          else
            (gR 12 0 h a0).bind fun v7 =>
            (aI h v7 2).bind fun v8 =>
            (gR 12 0 h a0).bind fun v9 =>
            (sI h v9 (75 + v8) a1).bind fun h10 =>
            (gR 12 0 h10 a0).bind fun v11 =>
            (sI h10 v11 (91 + v8) a2).bind fun h12 =>
            (gR 12 0 h12 a0).bind fun v13 =>
            (sI h12 v13 (107 + v8) a3).bind fun h14 =>
            (gR 12 0 h14 a0).bind fun v15 =>
            (sI h14 v15 (123 + v8) a4).bind fun h16 =>
            (gR 12 0 h16 a0).bind fun v17 =>
            (sI h16 v17 (139 + v8) 0).bind fun h18 =>
            (gR 12 0 h18 a0).bind fun v19 =>
            (sI h18 v19 (155 + v8) 0).bind fun h20 =>
            (gR 12 0 h20 a0).bind fun v21 =>
            (sI h20 v21 (171 + v8) (-1)).bind fun h22 =>
            (gR 12 0 h22 a0).bind fun v23 =>
            (sI h22 v23 (187 + v8) (-1)).bind fun h24 =>
            (gR 12 0 h24 a0).bind fun v25 =>
            (sI h24 v25 (203 + v8) 0).bind fun h26 =>
            b_X12_man_164 FU a0 v8 0 h26
set_option maxRecDepth 20000 in
theorem m_X12_man  {a0 : Option Nat} {a1 : Int32} {a2 : Int32} {a3 : Int32} {a4 : Int32} {h : AH} {w : (Int32 × AH)} (hf : f_X12_man a0 a1 a2 a3 a4 h = some w) : CT yX12_man (wU yX12_man cX12_man 7 (some .int)) (rmD 3 0 0) 0 0 [tR a0, tI a1, tI a2, tI a3, tI a4] h (some (tI w.1), w.2) := by
  refine CT.of (cc := cX12_man) (nL := 7) (ret := (some .int)) (by decide) (by simp [lg_sl, vOf_cat, wOf]) ?_
  intro K X
  refine g_locs (lv' := [(0, tR a0), (1, tI a1), (2, tI a2), (3, tI a3), (4, tI a4)]) (fun q hq => hq) ?_
  unfold f_X12_man at hf
  refine g_aload_n X dX12_man_0 0 rfl ?_
  refine g_iload_n X dX12_man_1 1 rfl ?_
  refine g_callV (n := 1) (av := [tI a1]) (rest := []) (k := 12) X hf (fun v1 => (some (tI v1), h)) (fun _ q => m_X12_isWard q) (gdV tb_1253 tb_1254 tb_1690 tb_12 tb_1255) rfl (by decide +kernel) rfl (by decide) rfl (by decide) (by decide) rfl (Nat.le_of_ble_eq_true rfl) dX12_man_2 (fun v1 hf => ?_)
  refine g_ifeq (tgt := 32) X hf dX12_man_5 (by decide) (fun hf => ?_) (fun hf => ?_)
  · refine g_iconst (v := (-1)) X dX12_man_32 (by decide) ?_
    exact g_ireturn X (zW hf) (by decide) (by decide) dX12_man_33
  · refine g_iload_n X dX12_man_8 2 rfl ?_
    refine g_iconst (v := (-1)) X dX12_man_9 (by decide) ?_
    refine g_iconst (v := 5) X dX12_man_10 (by decide) ?_
    refine g_callS (n := 3) (av := [tI a2, tI (-1), tI 5]) (rest := []) X hf (fun v2 => (some (tI v2), h)) (fun _ q => m_X12_in q) (gdS tb_1226 tb_1227 tb_12 tb_1228) rfl (by decide +kernel) rfl (by decide) (by decide) rfl (Nat.le_of_ble_eq_true rfl) dX12_man_11 (fun v2 hf => ?_)
    refine g_ifeq (tgt := 32) X hf dX12_man_14 (by decide) (fun hf => ?_) (fun hf => ?_)
    · refine g_iconst (v := (-1)) X dX12_man_32 (by decide) ?_
      exact g_ireturn X (zW hf) (by decide) (by decide) dX12_man_33
    · refine g_iload_n X dX12_man_17 3 rfl ?_
      refine g_callS (n := 1) (av := [tI a3]) (rest := []) X hf (fun v3 => (some (tI v3), h)) (fun _ q => m_X12_isName q) (gdS tb_1260 tb_1261 tb_12 tb_1262) rfl (by decide +kernel) rfl (by decide) (by decide) rfl (Nat.le_of_ble_eq_true rfl) dX12_man_18 (fun v3 hf => ?_)
      refine g_ifeq (tgt := 32) X hf dX12_man_21 (by decide) (fun hf => ?_) (fun hf => ?_)
      · refine g_iconst (v := (-1)) X dX12_man_32 (by decide) ?_
        exact g_ireturn X (zW hf) (by decide) (by decide) dX12_man_33
      · refine g_iload X dX12_man_24 4 rfl ?_
        refine g_callS (n := 1) (av := [tI a4]) (rest := []) X hf (fun v4 => (some (tI v4), h)) (fun _ q => m_X12_isName q) (gdS tb_1260 tb_1261 tb_12 tb_1262) rfl (by decide +kernel) rfl (by decide) (by decide) rfl (Nat.le_of_ble_eq_true rfl) dX12_man_26 (fun v4 hf => ?_)
        refine g_ifne (tgt := 34) X hf dX12_man_29 (by decide) (fun hf => ?_) (fun hf => ?_)
        · refine g_iconst (v := (-1)) X dX12_man_32 (by decide) ?_
          exact g_ireturn X (zW hf) (by decide) (by decide) dX12_man_33
        · refine g_aload_n X dX12_man_34 0 rfl ?_
          refine g_getR X hf (T := TX12) rfl (by decide) (by decide) in_RX12 tb_1135 rfl dX12_man_35 (fun v5 hf => ?_)
          refine g_iconst (v := 2) X dX12_man_38 (by decide) ?_
          refine g_iaload X hf dX12_man_39 (fun v6 hf => ?_)
          refine g_bipush (v := 16) X dX12_man_40 (by decide) ?_
          refine g_icmpne (tgt := 48) X hf dX12_man_42 (by decide) (fun hf => ?_) (fun hf => ?_)
          · refine g_bipush (v := (-2)) X dX12_man_45 (by decide) ?_
            exact g_ireturn X (zW hf) (by decide) (by decide) dX12_man_47
          · refine g_aload_n X dX12_man_48 0 rfl ?_
            refine g_getR X hf (T := TX12) rfl (by decide) (by decide) in_RX12 tb_1135 rfl dX12_man_49 (fun v7 hf => ?_)
            refine g_iconst (v := 2) X dX12_man_52 (by decide) ?_
            refine g_iaload X hf dX12_man_53 (fun v8 hf => ?_)
            refine g_istore (lv' := [(0, tR a0), (1, tI a1), (2, tI a2), (3, tI a3), (4, tI a4), (5, tI v8)]) X dX12_man_54 (by decide) (in_pick [1, 2, 3, 4, 5, 0] rfl) ?_
            refine g_aload_n X dX12_man_56 0 rfl ?_
            refine g_getR X hf (T := TX12) rfl (by decide) (by decide) in_RX12 tb_1135 rfl dX12_man_57 (fun v9 hf => ?_)
            refine g_bipush (v := 75) X dX12_man_60 (by decide) ?_
            refine g_iload X dX12_man_62 5 rfl ?_
            refine g_iadd X dX12_man_64 ?_
            refine g_iload_n X dX12_man_65 1 rfl ?_
            refine g_iastore X hf dX12_man_66 (fun h10 hf => ?_)
            refine g_aload_n X dX12_man_67 0 rfl ?_
            refine g_getR X hf (T := TX12) rfl (by decide) (by decide) in_RX12 tb_1135 rfl dX12_man_68 (fun v11 hf => ?_)
            refine g_bipush (v := 91) X dX12_man_71 (by decide) ?_
            refine g_iload X dX12_man_73 5 rfl ?_
            refine g_iadd X dX12_man_75 ?_
            refine g_iload_n X dX12_man_76 2 rfl ?_
            refine g_iastore X hf dX12_man_77 (fun h12 hf => ?_)
            refine g_aload_n X dX12_man_78 0 rfl ?_
            refine g_getR X hf (T := TX12) rfl (by decide) (by decide) in_RX12 tb_1135 rfl dX12_man_79 (fun v13 hf => ?_)
            refine g_bipush (v := 107) X dX12_man_82 (by decide) ?_
            refine g_iload X dX12_man_84 5 rfl ?_
            refine g_iadd X dX12_man_86 ?_
            refine g_iload_n X dX12_man_87 3 rfl ?_
            refine g_iastore X hf dX12_man_88 (fun h14 hf => ?_)
            refine g_aload_n X dX12_man_89 0 rfl ?_
            refine g_getR X hf (T := TX12) rfl (by decide) (by decide) in_RX12 tb_1135 rfl dX12_man_90 (fun v15 hf => ?_)
            refine g_bipush (v := 123) X dX12_man_93 (by decide) ?_
            refine g_iload X dX12_man_95 5 rfl ?_
            refine g_iadd X dX12_man_97 ?_
            refine g_iload X dX12_man_98 4 rfl ?_
            refine g_iastore X hf dX12_man_100 (fun h16 hf => ?_)
            refine g_aload_n X dX12_man_101 0 rfl ?_
            refine g_getR X hf (T := TX12) rfl (by decide) (by decide) in_RX12 tb_1135 rfl dX12_man_102 (fun v17 hf => ?_)
            refine g_sipush (v := 139) X dX12_man_105 (by decide) ?_
            refine g_iload X dX12_man_108 5 rfl ?_
            refine g_iadd X dX12_man_110 ?_
            refine g_iconst (v := 0) X dX12_man_111 (by decide) ?_
            refine g_iastore X hf dX12_man_112 (fun h18 hf => ?_)
            refine g_aload_n X dX12_man_113 0 rfl ?_
            refine g_getR X hf (T := TX12) rfl (by decide) (by decide) in_RX12 tb_1135 rfl dX12_man_114 (fun v19 hf => ?_)
            refine g_sipush (v := 155) X dX12_man_117 (by decide) ?_
            refine g_iload X dX12_man_120 5 rfl ?_
            refine g_iadd X dX12_man_122 ?_
            refine g_iconst (v := 0) X dX12_man_123 (by decide) ?_
            refine g_iastore X hf dX12_man_124 (fun h20 hf => ?_)
            refine g_aload_n X dX12_man_125 0 rfl ?_
            refine g_getR X hf (T := TX12) rfl (by decide) (by decide) in_RX12 tb_1135 rfl dX12_man_126 (fun v21 hf => ?_)
            refine g_sipush (v := 171) X dX12_man_129 (by decide) ?_
            refine g_iload X dX12_man_132 5 rfl ?_
            refine g_iadd X dX12_man_134 ?_
            refine g_iconst (v := (-1)) X dX12_man_135 (by decide) ?_
            refine g_iastore X hf dX12_man_136 (fun h22 hf => ?_)
            refine g_aload_n X dX12_man_137 0 rfl ?_
            refine g_getR X hf (T := TX12) rfl (by decide) (by decide) in_RX12 tb_1135 rfl dX12_man_138 (fun v23 hf => ?_)
            refine g_sipush (v := 187) X dX12_man_141 (by decide) ?_
            refine g_iload X dX12_man_144 5 rfl ?_
            refine g_iadd X dX12_man_146 ?_
            refine g_iconst (v := (-1)) X dX12_man_147 (by decide) ?_
            refine g_iastore X hf dX12_man_148 (fun h24 hf => ?_)
            refine g_aload_n X dX12_man_149 0 rfl ?_
            refine g_getR X hf (T := TX12) rfl (by decide) (by decide) in_RX12 tb_1135 rfl dX12_man_150 (fun v25 hf => ?_)
            refine g_sipush (v := 203) X dX12_man_153 (by decide) ?_
            refine g_iload X dX12_man_156 5 rfl ?_
            refine g_iadd X dX12_man_158 ?_
            refine g_iconst (v := 0) X dX12_man_159 (by decide) ?_
            refine g_iastore X hf dX12_man_160 (fun h26 hf => ?_)
            refine g_iconst (v := 0) X dX12_man_161 (by decide) ?_
            refine g_istore (lv' := [(0, tR a0), (1, tI a1), (2, tI a2), (3, tI a3), (4, tI a4), (5, tI v8), (6, tI 0)]) X dX12_man_162 (by decide) (in_pick [1, 2, 3, 4, 5, 6, 0] rfl) ?_
            refine g_locs (lv' := [(0, tR a0), (5, tI v8), (6, tI 0)]) (in_pick [0, 5, 6] rfl) ?_
            exact w_X12_man_164 X FU a0 v8 0 h26 hf
def f_X12_style  (a0 : Option Nat) (a1 : Int32) (a2 : Int32) (a3 : Int32) (h : AH) : Option (Int32 × AH) :=
  (ck 12 h a0 (f_X12_isMan a0 a1 h)).bind fun v1 =>
  if v1 = 0 then
    some ((-1), h)
  else
    (f_X12_in a2 0 9999 h).bind fun v2 =>
    if v2 = 0 then
      some ((-1), h)
    else
      (f_X12_in a3 0 3 h).bind fun v3 =>
      if v3 = 0 then
        some ((-1), h)
      else
        (gR 12 0 h a0).bind fun v4 =>
        (sI h v4 (139 + a1) a2).bind fun h5 =>
        (gR 12 0 h5 a0).bind fun v6 =>
        (sI h5 v6 (155 + a1) a3).bind fun h7 =>
        some (1, h7)
set_option maxRecDepth 20000 in
theorem m_X12_style  {a0 : Option Nat} {a1 : Int32} {a2 : Int32} {a3 : Int32} {h : AH} {w : (Int32 × AH)} (hf : f_X12_style a0 a1 a2 a3 h = some w) : CT yX12_style (wU yX12_style cX12_style 4 (some .int)) (rmD 3 0 0) 0 0 [tR a0, tI a1, tI a2, tI a3] h (some (tI w.1), w.2) := by
  refine CT.of (cc := cX12_style) (nL := 4) (ret := (some .int)) (by decide) (by simp [lg_sl, vOf_cat, wOf]) ?_
  intro K X
  refine g_locs (lv' := [(0, tR a0), (1, tI a1), (2, tI a2), (3, tI a3)]) (fun q hq => hq) ?_
  unfold f_X12_style at hf
  refine g_aload_n X dX12_style_0 0 rfl ?_
  refine g_iload_n X dX12_style_1 1 rfl ?_
  refine g_callV (n := 1) (av := [tI a1]) (rest := []) (k := 12) X hf (fun v1 => (some (tI v1), h)) (fun _ q => m_X12_isMan q) (gdV tb_1267 tb_1268 tb_1691 tb_12 tb_1269) rfl (by decide +kernel) rfl (by decide) rfl (by decide) (by decide) rfl (Nat.le_of_ble_eq_true rfl) dX12_style_2 (fun v1 hf => ?_)
  refine g_ifeq (tgt := 28) X hf dX12_style_5 (by decide) (fun hf => ?_) (fun hf => ?_)
  · refine g_iconst (v := (-1)) X dX12_style_28 (by decide) ?_
    exact g_ireturn X (zW hf) (by decide) (by decide) dX12_style_29
  · refine g_iload_n X dX12_style_8 2 rfl ?_
    refine g_iconst (v := 0) X dX12_style_9 (by decide) ?_
    refine g_sipush (v := 9999) X dX12_style_10 (by decide) ?_
    refine g_callS (n := 3) (av := [tI a2, tI 0, tI 9999]) (rest := []) X hf (fun v2 => (some (tI v2), h)) (fun _ q => m_X12_in q) (gdS tb_1226 tb_1227 tb_12 tb_1228) rfl (by decide +kernel) rfl (by decide) (by decide) rfl (Nat.le_of_ble_eq_true rfl) dX12_style_13 (fun v2 hf => ?_)
    refine g_ifeq (tgt := 28) X hf dX12_style_16 (by decide) (fun hf => ?_) (fun hf => ?_)
    · refine g_iconst (v := (-1)) X dX12_style_28 (by decide) ?_
      exact g_ireturn X (zW hf) (by decide) (by decide) dX12_style_29
    · refine g_iload_n X dX12_style_19 3 rfl ?_
      refine g_iconst (v := 0) X dX12_style_20 (by decide) ?_
      refine g_iconst (v := 3) X dX12_style_21 (by decide) ?_
      refine g_callS (n := 3) (av := [tI a3, tI 0, tI 3]) (rest := []) X hf (fun v3 => (some (tI v3), h)) (fun _ q => m_X12_in q) (gdS tb_1226 tb_1227 tb_12 tb_1228) rfl (by decide +kernel) rfl (by decide) (by decide) rfl (Nat.le_of_ble_eq_true rfl) dX12_style_22 (fun v3 hf => ?_)
      refine g_ifne (tgt := 30) X hf dX12_style_25 (by decide) (fun hf => ?_) (fun hf => ?_)
      · refine g_iconst (v := (-1)) X dX12_style_28 (by decide) ?_
        exact g_ireturn X (zW hf) (by decide) (by decide) dX12_style_29
      · refine g_aload_n X dX12_style_30 0 rfl ?_
        refine g_getR X hf (T := TX12) rfl (by decide) (by decide) in_RX12 tb_1135 rfl dX12_style_31 (fun v4 hf => ?_)
        refine g_sipush (v := 139) X dX12_style_34 (by decide) ?_
        refine g_iload_n X dX12_style_37 1 rfl ?_
        refine g_iadd X dX12_style_38 ?_
        refine g_iload_n X dX12_style_39 2 rfl ?_
        refine g_iastore X hf dX12_style_40 (fun h5 hf => ?_)
        refine g_aload_n X dX12_style_41 0 rfl ?_
        refine g_getR X hf (T := TX12) rfl (by decide) (by decide) in_RX12 tb_1135 rfl dX12_style_42 (fun v6 hf => ?_)
        refine g_sipush (v := 155) X dX12_style_45 (by decide) ?_
        refine g_iload_n X dX12_style_48 1 rfl ?_
        refine g_iadd X dX12_style_49 ?_
        refine g_iload_n X dX12_style_50 3 rfl ?_
        refine g_iastore X hf dX12_style_51 (fun h7 hf => ?_)
        refine g_iconst (v := 1) X dX12_style_52 (by decide) ?_
        exact g_ireturn X (zW hf) (by decide) (by decide) dX12_style_53
def f_X12_fear  (a0 : Option Nat) (a1 : Int32) (a2 : Int32) (a3 : Int32) (h : AH) : Option (Int32 × AH) :=
  (ck 12 h a0 (f_X12_isMan a0 a1 h)).bind fun v1 =>
  if v1 = 0 then
    some ((-1), h)
  else
    (ck 12 h a0 (f_X12_isMan a0 a2 h)).bind fun v2 =>
    if v2 = 0 then
      some ((-1), h)
    else
      if a1 = a2 then
        some ((-1), h)
      else
        (f_X12_in a3 0 9 h).bind fun v3 =>
        if v3 = 0 then
          some ((-1), h)
        else
          (gR 12 0 h a0).bind fun v4 =>
          (aI h v4 ((219 + (16 * a1)) + a2)).bind fun v5 =>
          (gR 12 0 h a0).bind fun v6 =>
          (sI h v6 ((219 + (16 * a1)) + a2) a3).bind fun h7 =>
          some (v5, h7)
set_option maxRecDepth 20000 in
theorem m_X12_fear  {a0 : Option Nat} {a1 : Int32} {a2 : Int32} {a3 : Int32} {h : AH} {w : (Int32 × AH)} (hf : f_X12_fear a0 a1 a2 a3 h = some w) : CT yX12_fear (wU yX12_fear cX12_fear 5 (some .int)) (rmD 3 0 0) 0 0 [tR a0, tI a1, tI a2, tI a3] h (some (tI w.1), w.2) := by
  refine CT.of (cc := cX12_fear) (nL := 5) (ret := (some .int)) (by decide) (by simp [lg_sl, vOf_cat, wOf]) ?_
  intro K X
  refine g_locs (lv' := [(0, tR a0), (1, tI a1), (2, tI a2), (3, tI a3)]) (fun q hq => hq) ?_
  unfold f_X12_fear at hf
  refine g_aload_n X dX12_fear_0 0 rfl ?_
  refine g_iload_n X dX12_fear_1 1 rfl ?_
  refine g_callV (n := 1) (av := [tI a1]) (rest := []) (k := 12) X hf (fun v1 => (some (tI v1), h)) (fun _ q => m_X12_isMan q) (gdV tb_1267 tb_1268 tb_1691 tb_12 tb_1269) rfl (by decide +kernel) rfl (by decide) rfl (by decide) (by decide) rfl (Nat.le_of_ble_eq_true rfl) dX12_fear_2 (fun v1 hf => ?_)
  refine g_ifeq (tgt := 31) X hf dX12_fear_5 (by decide) (fun hf => ?_) (fun hf => ?_)
  · refine g_iconst (v := (-1)) X dX12_fear_31 (by decide) ?_
    exact g_ireturn X (zW hf) (by decide) (by decide) dX12_fear_32
  · refine g_aload_n X dX12_fear_8 0 rfl ?_
    refine g_iload_n X dX12_fear_9 2 rfl ?_
    refine g_callV (n := 1) (av := [tI a2]) (rest := []) (k := 12) X hf (fun v2 => (some (tI v2), h)) (fun _ q => m_X12_isMan q) (gdV tb_1267 tb_1268 tb_1691 tb_12 tb_1269) rfl (by decide +kernel) rfl (by decide) rfl (by decide) (by decide) rfl (Nat.le_of_ble_eq_true rfl) dX12_fear_10 (fun v2 hf => ?_)
    refine g_ifeq (tgt := 31) X hf dX12_fear_13 (by decide) (fun hf => ?_) (fun hf => ?_)
    · refine g_iconst (v := (-1)) X dX12_fear_31 (by decide) ?_
      exact g_ireturn X (zW hf) (by decide) (by decide) dX12_fear_32
    · refine g_iload_n X dX12_fear_16 1 rfl ?_
      refine g_iload_n X dX12_fear_17 2 rfl ?_
      refine g_icmpeq (tgt := 31) X hf dX12_fear_18 (by decide) (fun hf => ?_) (fun hf => ?_)
      · refine g_iconst (v := (-1)) X dX12_fear_31 (by decide) ?_
        exact g_ireturn X (zW hf) (by decide) (by decide) dX12_fear_32
      · refine g_iload_n X dX12_fear_21 3 rfl ?_
        refine g_iconst (v := 0) X dX12_fear_22 (by decide) ?_
        refine g_bipush (v := 9) X dX12_fear_23 (by decide) ?_
        refine g_callS (n := 3) (av := [tI a3, tI 0, tI 9]) (rest := []) X hf (fun v3 => (some (tI v3), h)) (fun _ q => m_X12_in q) (gdS tb_1226 tb_1227 tb_12 tb_1228) rfl (by decide +kernel) rfl (by decide) (by decide) rfl (Nat.le_of_ble_eq_true rfl) dX12_fear_25 (fun v3 hf => ?_)
        refine g_ifne (tgt := 33) X hf dX12_fear_28 (by decide) (fun hf => ?_) (fun hf => ?_)
        · refine g_iconst (v := (-1)) X dX12_fear_31 (by decide) ?_
          exact g_ireturn X (zW hf) (by decide) (by decide) dX12_fear_32
        · refine g_aload_n X dX12_fear_33 0 rfl ?_
          refine g_getR X hf (T := TX12) rfl (by decide) (by decide) in_RX12 tb_1135 rfl dX12_fear_34 (fun v4 hf => ?_)
          refine g_sipush (v := 219) X dX12_fear_37 (by decide) ?_
          refine g_bipush (v := 16) X dX12_fear_40 (by decide) ?_
          refine g_iload_n X dX12_fear_42 1 rfl ?_
          refine g_imul X dX12_fear_43 ?_
          refine g_iadd X dX12_fear_44 ?_
          refine g_iload_n X dX12_fear_45 2 rfl ?_
          refine g_iadd X dX12_fear_46 ?_
          refine g_iaload X hf dX12_fear_47 (fun v5 hf => ?_)
          refine g_istore (lv' := [(0, tR a0), (1, tI a1), (2, tI a2), (3, tI a3), (4, tI v5)]) X dX12_fear_48 (by decide) (in_pick [1, 2, 3, 4, 0] rfl) ?_
          refine g_aload_n X dX12_fear_50 0 rfl ?_
          refine g_getR X hf (T := TX12) rfl (by decide) (by decide) in_RX12 tb_1135 rfl dX12_fear_51 (fun v6 hf => ?_)
          refine g_sipush (v := 219) X dX12_fear_54 (by decide) ?_
          refine g_bipush (v := 16) X dX12_fear_57 (by decide) ?_
          refine g_iload_n X dX12_fear_59 1 rfl ?_
          refine g_imul X dX12_fear_60 ?_
          refine g_iadd X dX12_fear_61 ?_
          refine g_iload_n X dX12_fear_62 2 rfl ?_
          refine g_iadd X dX12_fear_63 ?_
          refine g_iload_n X dX12_fear_64 3 rfl ?_
          refine g_iastore X hf dX12_fear_65 (fun h7 hf => ?_)
          refine g_iload X dX12_fear_66 4 rfl ?_
          exact g_ireturn X (zW hf) (by decide) (by decide) dX12_fear_68
def b_X12_word_116  (k77 : Option Nat → Int32 → Int32 → Int32 → AH → Option (Int32 × AH)) (x0 : Option Nat) (x3 : Int32) (x4 : Int32) (x5 : Int32) (s0 : Option Nat) (s1 : Int32) (s2 : Int32) (h : AH) : Option (Int32 × AH) :=
  (sI h s0 s1 s2).bind fun h1 =>
  k77 x0 x3 x4 (x5 + 1) h1
set_option maxRecDepth 20000 in
theorem w_X12_word_116 {K : KT} {w : (Int32 × AH)} {k77 : Option Nat → Int32 → Int32 → Int32 → AH → Option (Int32 × AH)}  (X : CX K cX12_word RX12 TB (some .int) "word" (rmD 3 0 0) 6 0 0) (hk77 : ∀ (x0 : Option Nat) (x3 : Int32) (x4 : Int32) (x5 : Int32) (h : AH), k77 x0 x3 x4 x5 h = some w → GG K (some (tI w.1), w.2) 0 0 77 [(0, tR x0), (3, tI x3), (4, tI x4), (5, tI x5)] [] h) (x0 : Option Nat) (x3 : Int32) (x4 : Int32) (x5 : Int32) (s0 : Option Nat) (s1 : Int32) (s2 : Int32) (h : AH) (hf : b_X12_word_116 k77 x0 x3 x4 x5 s0 s1 s2 h = some w) : GG K (some (tI w.1), w.2) 0 0 116 [(0, tR x0), (3, tI x3), (4, tI x4), (5, tI x5)] [tI s2, tI s1, tR s0] h := by
  unfold b_X12_word_116 at hf
  refine g_iastore X hf dX12_word_116 (fun h1 hf => ?_)
  refine g_iinc (v := (x5 + 1)) (lv' := [(0, tR x0), (3, tI x3), (4, tI x4), (5, tI (x5 + 1))]) X dX12_word_117 3 rfl (by rfl) (by decide) (in_pick [1, 2, 3, 0] rfl) ?_
  refine g_goto (tgt := 77) X dX12_word_120 (by decide) ?_
  exact hk77 x0 x3 x4 (x5 + 1) h1 hf
def b_X12_word_77    : Nat → Option Nat → Int32 → Int32 → Int32 → AH → Option (Int32 × AH)
  | 0 => fun _ _ _ _ _ => none
  | n + 1 => fun x0 x3 x4 x5 h =>
    if x5 < 16 then
      (gR 12 0 h x0).bind fun v1 =>
      if x5 = x3 then
        (gR 12 0 h x0).bind fun v2 =>
        (aI h v2 0).bind fun v3 =>
        b_X12_word_116 (b_X12_word_77 n) x0 x3 x4 x5 v1 ((491 + (8 * x5)) + x4) v3 h
      else
        b_X12_word_116 (b_X12_word_77 n) x0 x3 x4 x5 v1 ((491 + (8 * x5)) + x4) (-1) h
    else
      (gR 12 0 h x0).bind fun v4 =>
      (aI h v4 3).bind fun v5 =>
      (sI h v4 3 (v5 + 1)).bind fun h6 =>
      some (x4, h6)
set_option maxRecDepth 20000 in
theorem w_X12_word_77 {K : KT} {w : (Int32 × AH)}   (X : CX K cX12_word RX12 TB (some .int) "word" (rmD 3 0 0) 6 0 0)  : ∀ (n : Nat) (x0 : Option Nat) (x3 : Int32) (x4 : Int32) (x5 : Int32) (h : AH), b_X12_word_77 n x0 x3 x4 x5 h = some w → GG K (some (tI w.1), w.2) 0 0 77 [(0, tR x0), (3, tI x3), (4, tI x4), (5, tI x5)] [] h := by
  intro n
  induction n with
  | zero =>
    intro x0 x3 x4 x5 h hf
    cases (show none = some w from hf)
  | succ n ih =>
    intro x0 x3 x4 x5 h hf
    rw [b_X12_word_77] at hf
    refine g_iload X dX12_word_77 3 rfl ?_
    refine g_bipush (v := 16) X dX12_word_79 (by decide) ?_
    refine g_icmpge (tgt := 123) X hf dX12_word_81 (by decide) (fun hf => ?_) (fun hf => ?_)
    · refine g_aload_n X dX12_word_84 0 rfl ?_
      refine g_getR X hf (T := TX12) rfl (by decide) (by decide) in_RX12 tb_1135 rfl dX12_word_85 (fun v1 hf => ?_)
      refine g_sipush (v := 491) X dX12_word_88 (by decide) ?_
      refine g_bipush (v := 8) X dX12_word_91 (by decide) ?_
      refine g_iload X dX12_word_93 3 rfl ?_
      refine g_imul X dX12_word_95 ?_
      refine g_iadd X dX12_word_96 ?_
      refine g_iload X dX12_word_97 2 rfl ?_
      refine g_iadd X dX12_word_99 ?_
      refine g_iload X dX12_word_100 3 rfl ?_
      refine g_iload_n X dX12_word_102 1 rfl ?_
      refine g_icmpne (tgt := 115) X hf dX12_word_103 (by decide) (fun hf => ?_) (fun hf => ?_)
      · refine g_aload_n X dX12_word_106 0 rfl ?_
        refine g_getR X hf (T := TX12) rfl (by decide) (by decide) in_RX12 tb_1135 rfl dX12_word_107 (fun v2 hf => ?_)
        refine g_iconst (v := 0) X dX12_word_110 (by decide) ?_
        refine g_iaload X hf dX12_word_111 (fun v3 hf => ?_)
        refine g_goto (tgt := 116) X dX12_word_112 (by decide) ?_
        exact w_X12_word_116 X ih x0 x3 x4 x5 v1 ((491 + (8 * x5)) + x4) v3 h hf
      · refine g_iconst (v := (-1)) X dX12_word_115 (by decide) ?_
        exact w_X12_word_116 X ih x0 x3 x4 x5 v1 ((491 + (8 * x5)) + x4) (-1) h hf
    · refine g_aload_n X dX12_word_123 0 rfl ?_
      refine g_getR X hf (T := TX12) rfl (by decide) (by decide) in_RX12 tb_1135 rfl dX12_word_124 (fun v4 hf => ?_)
      refine g_iconst (v := 3) X dX12_word_127 (by decide) ?_
      refine g_dup2 X dX12_word_128 rfl rfl ?_
      refine g_iaload X hf dX12_word_129 (fun v5 hf => ?_)
      refine g_iconst (v := 1) X dX12_word_130 (by decide) ?_
      refine g_iadd X dX12_word_131 ?_
      refine g_iastore X hf dX12_word_132 (fun h6 hf => ?_)
      refine g_iload X dX12_word_133 2 rfl ?_
      exact g_ireturn X (zW hf) (by decide) (by decide) dX12_word_135
def f_X12_word  (a0 : Option Nat) (a1 : Int32) (a2 : Int32) (a3 : Int32) (h : AH) : Option (Int32 × AH) :=
  (ck 12 h a0 (f_X12_isMan a0 a1 h)).bind fun v1 =>
  if v1 = 0 then
    some ((-1), h)
  else
    (f_X12_in a2 (-5) 5 h).bind fun v2 =>
    if v2 = 0 then
      some ((-1), h)
    else
      (ck 12 h a0 (f_X12_isMan a0 a3 h)).bind fun v3 =>
      if v3 = 0 then
        some ((-1), h)
      else
        (gR 12 0 h a0).bind fun v4 =>
        (aI h v4 3).bind fun v5 =>
        if v5 = 8 then
          some ((-2), h)
        else
          (gR 12 0 h a0).bind fun v6 =>
          (aI h v6 3).bind fun v7 =>
          (gR 12 0 h a0).bind fun v8 =>
          (sI h v8 (475 + v7) a1).bind fun h9 =>
          (gR 12 0 h9 a0).bind fun v10 =>
          (sI h9 v10 (483 + v7) a2).bind fun h11 =>
          b_X12_word_77 FU a0 a3 v7 0 h11
set_option maxRecDepth 20000 in
theorem m_X12_word  {a0 : Option Nat} {a1 : Int32} {a2 : Int32} {a3 : Int32} {h : AH} {w : (Int32 × AH)} (hf : f_X12_word a0 a1 a2 a3 h = some w) : CT yX12_word (wU yX12_word cX12_word 6 (some .int)) (rmD 3 0 0) 0 0 [tR a0, tI a1, tI a2, tI a3] h (some (tI w.1), w.2) := by
  refine CT.of (cc := cX12_word) (nL := 6) (ret := (some .int)) (by decide) (by simp [lg_sl, vOf_cat, wOf]) ?_
  intro K X
  refine g_locs (lv' := [(0, tR a0), (1, tI a1), (2, tI a2), (3, tI a3)]) (fun q hq => hq) ?_
  unfold f_X12_word at hf
  refine g_aload_n X dX12_word_0 0 rfl ?_
  refine g_iload_n X dX12_word_1 1 rfl ?_
  refine g_callV (n := 1) (av := [tI a1]) (rest := []) (k := 12) X hf (fun v1 => (some (tI v1), h)) (fun _ q => m_X12_isMan q) (gdV tb_1267 tb_1268 tb_1691 tb_12 tb_1269) rfl (by decide +kernel) rfl (by decide) rfl (by decide) (by decide) rfl (Nat.le_of_ble_eq_true rfl) dX12_word_2 (fun v1 hf => ?_)
  refine g_ifeq (tgt := 26) X hf dX12_word_5 (by decide) (fun hf => ?_) (fun hf => ?_)
  · refine g_iconst (v := (-1)) X dX12_word_26 (by decide) ?_
    exact g_ireturn X (zW hf) (by decide) (by decide) dX12_word_27
  · refine g_iload_n X dX12_word_8 2 rfl ?_
    refine g_bipush (v := (-5)) X dX12_word_9 (by decide) ?_
    refine g_iconst (v := 5) X dX12_word_11 (by decide) ?_
    refine g_callS (n := 3) (av := [tI a2, tI (-5), tI 5]) (rest := []) X hf (fun v2 => (some (tI v2), h)) (fun _ q => m_X12_in q) (gdS tb_1226 tb_1227 tb_12 tb_1228) rfl (by decide +kernel) rfl (by decide) (by decide) rfl (Nat.le_of_ble_eq_true rfl) dX12_word_12 (fun v2 hf => ?_)
    refine g_ifeq (tgt := 26) X hf dX12_word_15 (by decide) (fun hf => ?_) (fun hf => ?_)
    · refine g_iconst (v := (-1)) X dX12_word_26 (by decide) ?_
      exact g_ireturn X (zW hf) (by decide) (by decide) dX12_word_27
    · refine g_aload_n X dX12_word_18 0 rfl ?_
      refine g_iload_n X dX12_word_19 3 rfl ?_
      refine g_callV (n := 1) (av := [tI a3]) (rest := []) (k := 12) X hf (fun v3 => (some (tI v3), h)) (fun _ q => m_X12_isMan q) (gdV tb_1267 tb_1268 tb_1691 tb_12 tb_1269) rfl (by decide +kernel) rfl (by decide) rfl (by decide) (by decide) rfl (Nat.le_of_ble_eq_true rfl) dX12_word_20 (fun v3 hf => ?_)
      refine g_ifne (tgt := 28) X hf dX12_word_23 (by decide) (fun hf => ?_) (fun hf => ?_)
      · refine g_iconst (v := (-1)) X dX12_word_26 (by decide) ?_
        exact g_ireturn X (zW hf) (by decide) (by decide) dX12_word_27
      · refine g_aload_n X dX12_word_28 0 rfl ?_
        refine g_getR X hf (T := TX12) rfl (by decide) (by decide) in_RX12 tb_1135 rfl dX12_word_29 (fun v4 hf => ?_)
        refine g_iconst (v := 3) X dX12_word_32 (by decide) ?_
        refine g_iaload X hf dX12_word_33 (fun v5 hf => ?_)
        refine g_bipush (v := 8) X dX12_word_34 (by decide) ?_
        refine g_icmpne (tgt := 42) X hf dX12_word_36 (by decide) (fun hf => ?_) (fun hf => ?_)
        · refine g_bipush (v := (-2)) X dX12_word_39 (by decide) ?_
          exact g_ireturn X (zW hf) (by decide) (by decide) dX12_word_41
        · refine g_aload_n X dX12_word_42 0 rfl ?_
          refine g_getR X hf (T := TX12) rfl (by decide) (by decide) in_RX12 tb_1135 rfl dX12_word_43 (fun v6 hf => ?_)
          refine g_iconst (v := 3) X dX12_word_46 (by decide) ?_
          refine g_iaload X hf dX12_word_47 (fun v7 hf => ?_)
          refine g_istore (lv' := [(0, tR a0), (1, tI a1), (2, tI a2), (3, tI a3), (4, tI v7)]) X dX12_word_48 (by decide) (in_pick [1, 2, 3, 4, 0] rfl) ?_
          refine g_aload_n X dX12_word_50 0 rfl ?_
          refine g_getR X hf (T := TX12) rfl (by decide) (by decide) in_RX12 tb_1135 rfl dX12_word_51 (fun v8 hf => ?_)
          refine g_sipush (v := 475) X dX12_word_54 (by decide) ?_
          refine g_iload X dX12_word_57 4 rfl ?_
          refine g_iadd X dX12_word_59 ?_
          refine g_iload_n X dX12_word_60 1 rfl ?_
          refine g_iastore X hf dX12_word_61 (fun h9 hf => ?_)
          refine g_aload_n X dX12_word_62 0 rfl ?_
          refine g_getR X hf (T := TX12) rfl (by decide) (by decide) in_RX12 tb_1135 rfl dX12_word_63 (fun v10 hf => ?_)
          refine g_sipush (v := 483) X dX12_word_66 (by decide) ?_
          refine g_iload X dX12_word_69 4 rfl ?_
          refine g_iadd X dX12_word_71 ?_
          refine g_iload_n X dX12_word_72 2 rfl ?_
          refine g_iastore X hf dX12_word_73 (fun h11 hf => ?_)
          refine g_iconst (v := 0) X dX12_word_74 (by decide) ?_
          refine g_istore (lv' := [(0, tR a0), (1, tI a1), (2, tI a2), (3, tI a3), (4, tI v7), (5, tI 0)]) X dX12_word_75 (by decide) (in_pick [1, 2, 3, 4, 5, 0] rfl) ?_
          refine g_locs (lv' := [(0, tR a0), (3, tI a3), (4, tI v7), (5, tI 0)]) (in_pick [0, 3, 4, 5] rfl) ?_
          exact w_X12_word_77 X FU a0 a3 v7 0 h11 hf
def f_X12_heard  (a0 : Option Nat) (a1 : Int32) (a2 : Int32) (h : AH) : Option Int32 :=
  (ck 12 h a0 (f_X12_isMan a0 a1 h)).bind fun v1 =>
  if v1 = 0 then
    some (-1)
  else
    (gR 12 0 h a0).bind fun v2 =>
    (aI h v2 3).bind fun v3 =>
    (f_X12_in a2 0 (v3 - 1) h).bind fun v4 =>
    if v4 = 0 then
      some (-1)
    else
      (gR 12 0 h a0).bind fun v5 =>
      (aI h v5 ((491 + (8 * a1)) + a2)).bind fun v6 =>
      if v6 < 0 then
        some (-3)
      else
        some v6
set_option maxRecDepth 20000 in
theorem m_X12_heard  {a0 : Option Nat} {a1 : Int32} {a2 : Int32} {h : AH} {w : Int32} (hf : f_X12_heard a0 a1 a2 h = some w) : CT yX12_heard (wU yX12_heard cX12_heard 4 (some .int)) (rmD 3 0 0) 0 0 [tR a0, tI a1, tI a2] h (some (tI w), h) := by
  refine CT.of (cc := cX12_heard) (nL := 4) (ret := (some .int)) (by decide) (by simp [lg_sl, vOf_cat, wOf]) ?_
  intro K X
  refine g_locs (lv' := [(0, tR a0), (1, tI a1), (2, tI a2)]) (fun q hq => hq) ?_
  unfold f_X12_heard at hf
  refine g_aload_n X dX12_heard_0 0 rfl ?_
  refine g_iload_n X dX12_heard_1 1 rfl ?_
  refine g_callV (n := 1) (av := [tI a1]) (rest := []) (k := 12) X hf (fun v1 => (some (tI v1), h)) (fun _ q => m_X12_isMan q) (gdV tb_1267 tb_1268 tb_1691 tb_12 tb_1269) rfl (by decide +kernel) rfl (by decide) rfl (by decide) (by decide) rfl (Nat.le_of_ble_eq_true rfl) dX12_heard_2 (fun v1 hf => ?_)
  refine g_ifeq (tgt := 24) X hf dX12_heard_5 (by decide) (fun hf => ?_) (fun hf => ?_)
  · refine g_iconst (v := (-1)) X dX12_heard_24 (by decide) ?_
    exact g_ireturn X (zP hf) (by decide) (by decide) dX12_heard_25
  · refine g_iload_n X dX12_heard_8 2 rfl ?_
    refine g_iconst (v := 0) X dX12_heard_9 (by decide) ?_
    refine g_aload_n X dX12_heard_10 0 rfl ?_
    refine g_getR X hf (T := TX12) rfl (by decide) (by decide) in_RX12 tb_1135 rfl dX12_heard_11 (fun v2 hf => ?_)
    refine g_iconst (v := 3) X dX12_heard_14 (by decide) ?_
    refine g_iaload X hf dX12_heard_15 (fun v3 hf => ?_)
    refine g_iconst (v := 1) X dX12_heard_16 (by decide) ?_
    refine g_isub X dX12_heard_17 ?_
    refine g_callS (n := 3) (av := [tI a2, tI 0, tI (v3 - 1)]) (rest := []) X hf (fun v4 => (some (tI v4), h)) (fun _ q => m_X12_in q) (gdS tb_1226 tb_1227 tb_12 tb_1228) rfl (by decide +kernel) rfl (by decide) (by decide) rfl (Nat.le_of_ble_eq_true rfl) dX12_heard_18 (fun v4 hf => ?_)
    refine g_ifne (tgt := 26) X hf dX12_heard_21 (by decide) (fun hf => ?_) (fun hf => ?_)
    · refine g_iconst (v := (-1)) X dX12_heard_24 (by decide) ?_
      exact g_ireturn X (zP hf) (by decide) (by decide) dX12_heard_25
    · refine g_aload_n X dX12_heard_26 0 rfl ?_
      refine g_getR X hf (T := TX12) rfl (by decide) (by decide) in_RX12 tb_1135 rfl dX12_heard_27 (fun v5 hf => ?_)
      refine g_sipush (v := 491) X dX12_heard_30 (by decide) ?_
      refine g_bipush (v := 8) X dX12_heard_33 (by decide) ?_
      refine g_iload_n X dX12_heard_35 1 rfl ?_
      refine g_imul X dX12_heard_36 ?_
      refine g_iadd X dX12_heard_37 ?_
      refine g_iload_n X dX12_heard_38 2 rfl ?_
      refine g_iadd X dX12_heard_39 ?_
      refine g_iaload X hf dX12_heard_40 (fun v6 hf => ?_)
      refine g_istore_n (lv' := [(0, tR a0), (1, tI a1), (2, tI a2), (3, tI v6)]) X dX12_heard_41 (by decide) (in_pick [1, 2, 3, 0] rfl) ?_
      refine g_iload_n X dX12_heard_42 3 rfl ?_
      refine g_ifge (tgt := 51) X hf dX12_heard_43 (by decide) (fun hf => ?_) (fun hf => ?_)
      · refine g_bipush (v := (-3)) X dX12_heard_46 (by decide) ?_
        refine g_goto (tgt := 52) X dX12_heard_48 (by decide) ?_
        exact g_ireturn X (zP hf) (by decide) (by decide) dX12_heard_52
      · refine g_iload_n X dX12_heard_51 3 rfl ?_
        exact g_ireturn X (zP hf) (by decide) (by decide) dX12_heard_52
def b_X12_dreadOf_74  (k20 : Option Nat → Int32 → Int32 → Int32 → Int32 → Int32 → Option Int32) (h : AH) (x0 : Option Nat) (x1 : Int32) (x2 : Int32) (x3 : Int32) (x5 : Int32) (s0 : Int32) (s1 : Int32) : Option Int32 :=
  k20 x0 x1 x2 x3 (s0 + s1) (x5 + 1)
set_option maxRecDepth 20000 in
theorem w_X12_dreadOf_74 {K : KT} {w : Int32} {h : AH} {k20 : Option Nat → Int32 → Int32 → Int32 → Int32 → Int32 → Option Int32}  (X : CX K cX12_dreadOf RX12 TB (some .int) "dreadOf" (rmD 2 0 0) 6 0 0) (hk20 : ∀ (x0 : Option Nat) (x1 : Int32) (x2 : Int32) (x3 : Int32) (x4 : Int32) (x5 : Int32), k20 x0 x1 x2 x3 x4 x5 = some w → GG K (some (tI w), h) 0 0 20 [(0, tR x0), (1, tI x1), (2, tI x2), (3, tI x3), (4, tI x4), (5, tI x5)] [] h) (x0 : Option Nat) (x1 : Int32) (x2 : Int32) (x3 : Int32) (x5 : Int32) (s0 : Int32) (s1 : Int32) (hf : b_X12_dreadOf_74 k20 h x0 x1 x2 x3 x5 s0 s1 = some w) : GG K (some (tI w), h) 0 0 74 [(0, tR x0), (1, tI x1), (2, tI x2), (3, tI x3), (5, tI x5)] [tI s1, tI s0] h := by
  unfold b_X12_dreadOf_74 at hf
  refine g_iadd X dX12_dreadOf_74 ?_
  refine g_istore (lv' := [(0, tR x0), (1, tI x1), (2, tI x2), (3, tI x3), (4, tI (s0 + s1)), (5, tI x5)]) X dX12_dreadOf_75 (by decide) (in_pick [1, 2, 3, 4, 0, 5] rfl) ?_
  refine g_iinc (v := (x5 + 1)) (lv' := [(0, tR x0), (1, tI x1), (2, tI x2), (3, tI x3), (4, tI (s0 + s1)), (5, tI (x5 + 1))]) X dX12_dreadOf_77 5 rfl (by rfl) (by decide) (in_pick [1, 2, 3, 4, 5, 0] rfl) ?_
  refine g_goto (tgt := 20) X dX12_dreadOf_80 (by decide) ?_
  exact hk20 x0 x1 x2 x3 (s0 + s1) (x5 + 1) hf
def b_X12_dreadOf_20   (h : AH) : Nat → Option Nat → Int32 → Int32 → Int32 → Int32 → Int32 → Option Int32
  | 0 => fun _ _ _ _ _ _ => none
  | n + 1 => fun x0 x1 x2 x3 x4 x5 =>
    (gR 12 0 h x0).bind fun v1 =>
    (aI h v1 3).bind fun v2 =>
    if x5 < v2 then
      (gR 12 0 h x0).bind fun v3 =>
      (aI h v3 (475 + x5)).bind fun v4 =>
      if v4 = x2 then
        (ck 12 h x0 (f_X12_had x0 x1 x5 x3 h)).bind fun v5 =>
        if v5 = 0 then
          b_X12_dreadOf_74 (b_X12_dreadOf_20 h n) h x0 x1 x2 x3 x5 x4 0
        else
          (gR 12 0 h x0).bind fun v6 =>
          (aI h v6 (483 + x5)).bind fun v7 =>
          b_X12_dreadOf_74 (b_X12_dreadOf_20 h n) h x0 x1 x2 x3 x5 x4 v7
      else
        b_X12_dreadOf_74 (b_X12_dreadOf_20 h n) h x0 x1 x2 x3 x5 x4 0
    else
      if x4 < 0 then
        some 0
      else
        if 20 < x4 then
          some 20
        else
          some x4
set_option maxRecDepth 20000 in
theorem w_X12_dreadOf_20 {K : KT} {w : Int32} {h : AH}   (X : CX K cX12_dreadOf RX12 TB (some .int) "dreadOf" (rmD 2 0 0) 6 0 0)  : ∀ (n : Nat) (x0 : Option Nat) (x1 : Int32) (x2 : Int32) (x3 : Int32) (x4 : Int32) (x5 : Int32), b_X12_dreadOf_20 h n x0 x1 x2 x3 x4 x5 = some w → GG K (some (tI w), h) 0 0 20 [(0, tR x0), (1, tI x1), (2, tI x2), (3, tI x3), (4, tI x4), (5, tI x5)] [] h := by
  intro n
  induction n with
  | zero =>
    intro x0 x1 x2 x3 x4 x5 hf
    cases (show none = some w from hf)
  | succ n ih =>
    intro x0 x1 x2 x3 x4 x5 hf
    rw [b_X12_dreadOf_20] at hf
    refine g_iload X dX12_dreadOf_20 5 rfl ?_
    refine g_aload_n X dX12_dreadOf_22 0 rfl ?_
    refine g_getR X hf (T := TX12) rfl (by decide) (by decide) in_RX12 tb_1135 rfl dX12_dreadOf_23 (fun v1 hf => ?_)
    refine g_iconst (v := 3) X dX12_dreadOf_26 (by decide) ?_
    refine g_iaload X hf dX12_dreadOf_27 (fun v2 hf => ?_)
    refine g_icmpge (tgt := 83) X hf dX12_dreadOf_28 (by decide) (fun hf => ?_) (fun hf => ?_)
    · refine g_iload X dX12_dreadOf_31 4 rfl ?_
      refine g_aload_n X dX12_dreadOf_33 0 rfl ?_
      refine g_getR X hf (T := TX12) rfl (by decide) (by decide) in_RX12 tb_1135 rfl dX12_dreadOf_34 (fun v3 hf => ?_)
      refine g_sipush (v := 475) X dX12_dreadOf_37 (by decide) ?_
      refine g_iload X dX12_dreadOf_40 5 rfl ?_
      refine g_iadd X dX12_dreadOf_42 ?_
      refine g_iaload X hf dX12_dreadOf_43 (fun v4 hf => ?_)
      refine g_iload_n X dX12_dreadOf_44 2 rfl ?_
      refine g_icmpne (tgt := 73) X hf dX12_dreadOf_45 (by decide) (fun hf => ?_) (fun hf => ?_)
      · refine g_aload_n X dX12_dreadOf_48 0 rfl ?_
        refine g_iload_n X dX12_dreadOf_49 1 rfl ?_
        refine g_iload X dX12_dreadOf_50 5 rfl ?_
        refine g_iload_n X dX12_dreadOf_52 3 rfl ?_
        refine g_callV (n := 3) (av := [tI x1, tI x5, tI x3]) (rest := [tI x4]) (k := 12) X hf (fun v5 => (some (tI v5), h)) (fun _ q => m_X12_had q) (gdV tb_1232 tb_1233 tb_1688 tb_12 tb_1234) rfl (by decide +kernel) rfl (by decide) rfl (by decide) (by decide) rfl (Nat.le_of_ble_eq_true rfl) dX12_dreadOf_53 (fun v5 hf => ?_)
        refine g_ifeq (tgt := 73) X hf dX12_dreadOf_56 (by decide) (fun hf => ?_) (fun hf => ?_)
        · refine g_iconst (v := 0) X dX12_dreadOf_73 (by decide) ?_
          refine g_locs (lv' := [(0, tR x0), (1, tI x1), (2, tI x2), (3, tI x3), (5, tI x5)]) (in_pick [0, 1, 2, 3, 5] rfl) ?_
          exact w_X12_dreadOf_74 X ih x0 x1 x2 x3 x5 x4 0 hf
        · refine g_aload_n X dX12_dreadOf_59 0 rfl ?_
          refine g_getR X hf (T := TX12) rfl (by decide) (by decide) in_RX12 tb_1135 rfl dX12_dreadOf_60 (fun v6 hf => ?_)
          refine g_sipush (v := 483) X dX12_dreadOf_63 (by decide) ?_
          refine g_iload X dX12_dreadOf_66 5 rfl ?_
          refine g_iadd X dX12_dreadOf_68 ?_
          refine g_iaload X hf dX12_dreadOf_69 (fun v7 hf => ?_)
          refine g_goto (tgt := 74) X dX12_dreadOf_70 (by decide) ?_
          refine g_locs (lv' := [(0, tR x0), (1, tI x1), (2, tI x2), (3, tI x3), (5, tI x5)]) (in_pick [0, 1, 2, 3, 5] rfl) ?_
          exact w_X12_dreadOf_74 X ih x0 x1 x2 x3 x5 x4 v7 hf
      · refine g_iconst (v := 0) X dX12_dreadOf_73 (by decide) ?_
        refine g_locs (lv' := [(0, tR x0), (1, tI x1), (2, tI x2), (3, tI x3), (5, tI x5)]) (in_pick [0, 1, 2, 3, 5] rfl) ?_
        exact w_X12_dreadOf_74 X ih x0 x1 x2 x3 x5 x4 0 hf
    · refine g_iload X dX12_dreadOf_83 4 rfl ?_
      refine g_ifge (tgt := 92) X hf dX12_dreadOf_85 (by decide) (fun hf => ?_) (fun hf => ?_)
      · refine g_iconst (v := 0) X dX12_dreadOf_88 (by decide) ?_
        refine g_goto (tgt := 106) X dX12_dreadOf_89 (by decide) ?_
        exact g_ireturn X (zP hf) (by decide) (by decide) dX12_dreadOf_106
      · refine g_iload X dX12_dreadOf_92 4 rfl ?_
        refine g_bipush (v := 20) X dX12_dreadOf_94 (by decide) ?_
        refine g_icmple (tgt := 104) X hf dX12_dreadOf_96 (by decide) (fun hf => ?_) (fun hf => ?_)
        · refine g_bipush (v := 20) X dX12_dreadOf_99 (by decide) ?_
          refine g_goto (tgt := 106) X dX12_dreadOf_101 (by decide) ?_
          exact g_ireturn X (zP hf) (by decide) (by decide) dX12_dreadOf_106
        · refine g_iload X dX12_dreadOf_104 4 rfl ?_
          exact g_ireturn X (zP hf) (by decide) (by decide) dX12_dreadOf_106
def f_X12_dreadOf  (a0 : Option Nat) (a1 : Int32) (a2 : Int32) (a3 : Int32) (h : AH) : Option Int32 :=
  (gR 12 0 h a0).bind fun v1 =>
  (aI h v1 ((219 + (16 * a1)) + a2)).bind fun v2 =>
  b_X12_dreadOf_20 h FU a0 a1 a2 a3 v2 0
set_option maxRecDepth 20000 in
theorem m_X12_dreadOf  {a0 : Option Nat} {a1 : Int32} {a2 : Int32} {a3 : Int32} {h : AH} {w : Int32} (hf : f_X12_dreadOf a0 a1 a2 a3 h = some w) : CT yX12_dreadOf (wU yX12_dreadOf cX12_dreadOf 6 (some .int)) (rmD 2 0 0) 0 0 [tR a0, tI a1, tI a2, tI a3] h (some (tI w), h) := by
  refine CT.of (cc := cX12_dreadOf) (nL := 6) (ret := (some .int)) (by decide) (by simp [lg_sl, vOf_cat, wOf]) ?_
  intro K X
  refine g_locs (lv' := [(0, tR a0), (1, tI a1), (2, tI a2), (3, tI a3)]) (fun q hq => hq) ?_
  unfold f_X12_dreadOf at hf
  refine g_aload_n X dX12_dreadOf_0 0 rfl ?_
  refine g_getR X hf (T := TX12) rfl (by decide) (by decide) in_RX12 tb_1135 rfl dX12_dreadOf_1 (fun v1 hf => ?_)
  refine g_sipush (v := 219) X dX12_dreadOf_4 (by decide) ?_
  refine g_bipush (v := 16) X dX12_dreadOf_7 (by decide) ?_
  refine g_iload_n X dX12_dreadOf_9 1 rfl ?_
  refine g_imul X dX12_dreadOf_10 ?_
  refine g_iadd X dX12_dreadOf_11 ?_
  refine g_iload_n X dX12_dreadOf_12 2 rfl ?_
  refine g_iadd X dX12_dreadOf_13 ?_
  refine g_iaload X hf dX12_dreadOf_14 (fun v2 hf => ?_)
  refine g_istore (lv' := [(0, tR a0), (1, tI a1), (2, tI a2), (3, tI a3), (4, tI v2)]) X dX12_dreadOf_15 (by decide) (in_pick [1, 2, 3, 4, 0] rfl) ?_
  refine g_iconst (v := 0) X dX12_dreadOf_17 (by decide) ?_
  refine g_istore (lv' := [(0, tR a0), (1, tI a1), (2, tI a2), (3, tI a3), (4, tI v2), (5, tI 0)]) X dX12_dreadOf_18 (by decide) (in_pick [1, 2, 3, 4, 5, 0] rfl) ?_
  exact w_X12_dreadOf_20 X FU a0 a1 a2 a3 v2 0 hf
def f_X12_dread  (a0 : Option Nat) (a1 : Int32) (a2 : Int32) (a3 : Int32) (h : AH) : Option Int32 :=
  (ck 12 h a0 (f_X12_isMan a0 a1 h)).bind fun v1 =>
  if v1 = 0 then
    some (-1)
  else
    (ck 12 h a0 (f_X12_isMan a0 a2 h)).bind fun v2 =>
    if v2 = 0 then
      some (-1)
    else
      if a1 = a2 then
        some (-1)
      else
        (f_X12_isDay a3 h).bind fun v3 =>
        if v3 = 0 then
          some (-1)
        else
          (ck 12 h a0 (f_X12_dreadOf a0 a1 a2 a3 h)).bind fun v4 =>
          some v4
set_option maxRecDepth 20000 in
theorem m_X12_dread  {a0 : Option Nat} {a1 : Int32} {a2 : Int32} {a3 : Int32} {h : AH} {w : Int32} (hf : f_X12_dread a0 a1 a2 a3 h = some w) : CT yX12_dread (wU yX12_dread cX12_dread 4 (some .int)) (rmD 3 0 0) 0 0 [tR a0, tI a1, tI a2, tI a3] h (some (tI w), h) := by
  refine CT.of (cc := cX12_dread) (nL := 4) (ret := (some .int)) (by decide) (by simp [lg_sl, vOf_cat, wOf]) ?_
  intro K X
  refine g_locs (lv' := [(0, tR a0), (1, tI a1), (2, tI a2), (3, tI a3)]) (fun q hq => hq) ?_
  unfold f_X12_dread at hf
  refine g_aload_n X dX12_dread_0 0 rfl ?_
  refine g_iload_n X dX12_dread_1 1 rfl ?_
  refine g_callV (n := 1) (av := [tI a1]) (rest := []) (k := 12) X hf (fun v1 => (some (tI v1), h)) (fun _ q => m_X12_isMan q) (gdV tb_1267 tb_1268 tb_1691 tb_12 tb_1269) rfl (by decide +kernel) rfl (by decide) rfl (by decide) (by decide) rfl (Nat.le_of_ble_eq_true rfl) dX12_dread_2 (fun v1 hf => ?_)
  refine g_ifeq (tgt := 28) X hf dX12_dread_5 (by decide) (fun hf => ?_) (fun hf => ?_)
  · refine g_iconst (v := (-1)) X dX12_dread_28 (by decide) ?_
    exact g_ireturn X (zP hf) (by decide) (by decide) dX12_dread_29
  · refine g_aload_n X dX12_dread_8 0 rfl ?_
    refine g_iload_n X dX12_dread_9 2 rfl ?_
    refine g_callV (n := 1) (av := [tI a2]) (rest := []) (k := 12) X hf (fun v2 => (some (tI v2), h)) (fun _ q => m_X12_isMan q) (gdV tb_1267 tb_1268 tb_1691 tb_12 tb_1269) rfl (by decide +kernel) rfl (by decide) rfl (by decide) (by decide) rfl (Nat.le_of_ble_eq_true rfl) dX12_dread_10 (fun v2 hf => ?_)
    refine g_ifeq (tgt := 28) X hf dX12_dread_13 (by decide) (fun hf => ?_) (fun hf => ?_)
    · refine g_iconst (v := (-1)) X dX12_dread_28 (by decide) ?_
      exact g_ireturn X (zP hf) (by decide) (by decide) dX12_dread_29
    · refine g_iload_n X dX12_dread_16 1 rfl ?_
      refine g_iload_n X dX12_dread_17 2 rfl ?_
      refine g_icmpeq (tgt := 28) X hf dX12_dread_18 (by decide) (fun hf => ?_) (fun hf => ?_)
      · refine g_iconst (v := (-1)) X dX12_dread_28 (by decide) ?_
        exact g_ireturn X (zP hf) (by decide) (by decide) dX12_dread_29
      · refine g_iload_n X dX12_dread_21 3 rfl ?_
        refine g_callS (n := 1) (av := [tI a3]) (rest := []) X hf (fun v3 => (some (tI v3), h)) (fun _ q => m_X12_isDay q) (gdS tb_1239 tb_1240 tb_12 tb_1241) rfl (by decide +kernel) rfl (by decide) (by decide) rfl (Nat.le_of_ble_eq_true rfl) dX12_dread_22 (fun v3 hf => ?_)
        refine g_ifne (tgt := 30) X hf dX12_dread_25 (by decide) (fun hf => ?_) (fun hf => ?_)
        · refine g_iconst (v := (-1)) X dX12_dread_28 (by decide) ?_
          exact g_ireturn X (zP hf) (by decide) (by decide) dX12_dread_29
        · refine g_aload_n X dX12_dread_30 0 rfl ?_
          refine g_iload_n X dX12_dread_31 1 rfl ?_
          refine g_iload_n X dX12_dread_32 2 rfl ?_
          refine g_iload_n X dX12_dread_33 3 rfl ?_
          refine g_callV (n := 3) (av := [tI a1, tI a2, tI a3]) (rest := []) (k := 12) X hf (fun v4 => (some (tI v4), h)) (fun _ q => m_X12_dreadOf q) (gdV tb_1286 tb_1287 tb_1692 tb_12 tb_1288) rfl (by decide +kernel) rfl (by decide) rfl (by decide) (by decide) rfl (Nat.le_of_ble_eq_true rfl) dX12_dread_34 (fun v4 hf => ?_)
          exact g_ireturn X (zP hf) (by decide) (by decide) dX12_dread_37
def b_X12_rule_33   (x0 : Option Nat) (x1 : Int32) (x2 : Int32) (s0 : Int32) (s1 : Int32) (s2 : Int32) (h : AH) : Option (Int32 × AH) :=
  (f_X12_in s0 s1 s2 h).bind fun v1 =>
  if v1 = 0 then
    some ((-1), h)
  else
    (gR 12 0 h x0).bind fun v2 =>
    (aI h v2 (9 + x1)).bind fun v3 =>
    (gR 12 0 h x0).bind fun v4 =>
    (sI h v4 (9 + x1) x2).bind fun h5 =>
    some (v3, h5)
set_option maxRecDepth 20000 in
theorem w_X12_rule_33 {K : KT} {w : (Int32 × AH)}   (X : CX K cX12_rule RX12 TB (some .int) "rule" (rmD 2 0 0) 4 0 0)  (x0 : Option Nat) (x1 : Int32) (x2 : Int32) (s0 : Int32) (s1 : Int32) (s2 : Int32) (h : AH) (hf : b_X12_rule_33 x0 x1 x2 s0 s1 s2 h = some w) : GG K (some (tI w.1), w.2) 0 0 33 [(0, tR x0), (1, tI x1), (2, tI x2)] [tI s2, tI s1, tI s0] h := by
  unfold b_X12_rule_33 at hf
  refine g_callS (n := 3) (av := [tI s0, tI s1, tI s2]) (rest := []) X hf (fun v1 => (some (tI v1), h)) (fun _ q => m_X12_in q) (gdS tb_1226 tb_1227 tb_12 tb_1228) rfl (by decide +kernel) rfl (by decide) (by decide) rfl (Nat.le_of_ble_eq_true rfl) dX12_rule_33 (fun v1 hf => ?_)
  refine g_ifne (tgt := 41) X hf dX12_rule_36 (by decide) (fun hf => ?_) (fun hf => ?_)
  · refine g_iconst (v := (-1)) X dX12_rule_39 (by decide) ?_
    exact g_ireturn X (zW hf) (by decide) (by decide) dX12_rule_40
  · refine g_aload_n X dX12_rule_41 0 rfl ?_
    refine g_getR X hf (T := TX12) rfl (by decide) (by decide) in_RX12 tb_1135 rfl dX12_rule_42 (fun v2 hf => ?_)
    refine g_bipush (v := 9) X dX12_rule_45 (by decide) ?_
    refine g_iload_n X dX12_rule_47 1 rfl ?_
    refine g_iadd X dX12_rule_48 ?_
    refine g_iaload X hf dX12_rule_49 (fun v3 hf => ?_)
    refine g_istore_n (lv' := [(0, tR x0), (1, tI x1), (2, tI x2), (3, tI v3)]) X dX12_rule_50 (by decide) (in_pick [1, 2, 3, 0] rfl) ?_
    refine g_aload_n X dX12_rule_51 0 rfl ?_
    refine g_getR X hf (T := TX12) rfl (by decide) (by decide) in_RX12 tb_1135 rfl dX12_rule_52 (fun v4 hf => ?_)
    refine g_bipush (v := 9) X dX12_rule_55 (by decide) ?_
    refine g_iload_n X dX12_rule_57 1 rfl ?_
    refine g_iadd X dX12_rule_58 ?_
    refine g_iload_n X dX12_rule_59 2 rfl ?_
    refine g_iastore X hf dX12_rule_60 (fun h5 hf => ?_)
    refine g_iload_n X dX12_rule_61 3 rfl ?_
    exact g_ireturn X (zW hf) (by decide) (by decide) dX12_rule_62
def f_X12_rule  (a0 : Option Nat) (a1 : Int32) (a2 : Int32) (h : AH) : Option (Int32 × AH) :=
  (f_X12_in a1 0 3 h).bind fun v1 =>
  if v1 = 0 then
    some ((-1), h)
  else
    if a1 = 0 then
      b_X12_rule_33 a0 a1 a2 a2 0 1200 h
    else
      if a1 = 3 then
        b_X12_rule_33 a0 a1 a2 a2 0 36 h
      else
        b_X12_rule_33 a0 a1 a2 a2 0 20 h
set_option maxRecDepth 20000 in
theorem m_X12_rule  {a0 : Option Nat} {a1 : Int32} {a2 : Int32} {h : AH} {w : (Int32 × AH)} (hf : f_X12_rule a0 a1 a2 h = some w) : CT yX12_rule (wU yX12_rule cX12_rule 4 (some .int)) (rmD 2 0 0) 0 0 [tR a0, tI a1, tI a2] h (some (tI w.1), w.2) := by
  refine CT.of (cc := cX12_rule) (nL := 4) (ret := (some .int)) (by decide) (by simp [lg_sl, vOf_cat, wOf]) ?_
  intro K X
  refine g_locs (lv' := [(0, tR a0), (1, tI a1), (2, tI a2)]) (fun q hq => hq) ?_
  unfold f_X12_rule at hf
  refine g_iload_n X dX12_rule_0 1 rfl ?_
  refine g_iconst (v := 0) X dX12_rule_1 (by decide) ?_
  refine g_iconst (v := 3) X dX12_rule_2 (by decide) ?_
  refine g_callS (n := 3) (av := [tI a1, tI 0, tI 3]) (rest := []) X hf (fun v1 => (some (tI v1), h)) (fun _ q => m_X12_in q) (gdS tb_1226 tb_1227 tb_12 tb_1228) rfl (by decide +kernel) rfl (by decide) (by decide) rfl (Nat.le_of_ble_eq_true rfl) dX12_rule_3 (fun v1 hf => ?_)
  refine g_ifeq (tgt := 39) X hf dX12_rule_6 (by decide) (fun hf => ?_) (fun hf => ?_)
  · refine g_iconst (v := (-1)) X dX12_rule_39 (by decide) ?_
    exact g_ireturn X (zW hf) (by decide) (by decide) dX12_rule_40
  · refine g_iload_n X dX12_rule_9 2 rfl ?_
    refine g_iconst (v := 0) X dX12_rule_10 (by decide) ?_
    refine g_iload_n X dX12_rule_11 1 rfl ?_
    refine g_ifne (tgt := 21) X hf dX12_rule_12 (by decide) (fun hf => ?_) (fun hf => ?_)
    · refine g_sipush (v := 1200) X dX12_rule_15 (by decide) ?_
      refine g_goto (tgt := 33) X dX12_rule_18 (by decide) ?_
      exact w_X12_rule_33 X a0 a1 a2 a2 0 1200 h hf
    · refine g_iload_n X dX12_rule_21 1 rfl ?_
      refine g_iconst (v := 3) X dX12_rule_22 (by decide) ?_
      refine g_icmpne (tgt := 31) X hf dX12_rule_23 (by decide) (fun hf => ?_) (fun hf => ?_)
      · refine g_bipush (v := 36) X dX12_rule_26 (by decide) ?_
        refine g_goto (tgt := 33) X dX12_rule_28 (by decide) ?_
        exact w_X12_rule_33 X a0 a1 a2 a2 0 36 h hf
      · refine g_bipush (v := 20) X dX12_rule_31 (by decide) ?_
        exact w_X12_rule_33 X a0 a1 a2 a2 0 20 h hf
def f_X12_of  (a0 : Option Nat) (a1 : Int32) (a2 : Int32) (h : AH) : Option Int32 :=
  (ck 12 h a0 (f_X12_isMan a0 a1 h)).bind fun v1 =>
  if v1 = 0 then
    some (-1)
  else
    (f_X12_in a2 0 7 h).bind fun v2 =>
    if v2 = 0 then
      some (-1)
    else
      if a2 < 0 ∨ 6 < a2 then
        (gR 12 0 h a0).bind fun v3 =>
        (aI h v3 (203 + a1)).bind fun v4 =>
        some v4
      else if a2 = 0 then
        (gR 12 0 h a0).bind fun v5 =>
        (aI h v5 (75 + a1)).bind fun v6 =>
        some v6
      else if a2 = 1 then
        (gR 12 0 h a0).bind fun v7 =>
        (aI h v7 (91 + a1)).bind fun v8 =>
        if v8 < 0 then
          some (-3)
        else
          (gR 12 0 h a0).bind fun v9 =>
          (aI h v9 (91 + a1)).bind fun v10 =>
          some v10
      else if a2 = 2 then
        (gR 12 0 h a0).bind fun v11 =>
        (aI h v11 (107 + a1)).bind fun v12 =>
        some v12
      else if a2 = 3 then
        (gR 12 0 h a0).bind fun v13 =>
        (aI h v13 (123 + a1)).bind fun v14 =>
        some v14
      else if a2 = 4 then
        (gR 12 0 h a0).bind fun v15 =>
        (aI h v15 (139 + a1)).bind fun v16 =>
        some v16
      else if a2 = 5 then
        (gR 12 0 h a0).bind fun v17 =>
        (aI h v17 (171 + a1)).bind fun v18 =>
        if v18 < 0 then
          some (-3)
        else
          (gR 12 0 h a0).bind fun v19 =>
          (aI h v19 (171 + a1)).bind fun v20 =>
          some v20
      else if a2 = 6 then
        (gR 12 0 h a0).bind fun v21 =>
        (aI h v21 (171 + a1)).bind fun v22 =>
        if v22 < 0 then
          some (-3)
        else
          (gR 12 0 h a0).bind fun v23 =>
          (aI h v23 (187 + a1)).bind fun v24 =>
          some v24
      else none
set_option maxRecDepth 20000 in
theorem m_X12_of  {a0 : Option Nat} {a1 : Int32} {a2 : Int32} {h : AH} {w : Int32} (hf : f_X12_of a0 a1 a2 h = some w) : CT yX12_of (wU yX12_of cX12_of 3 (some .int)) (rmD 3 0 0) 0 0 [tR a0, tI a1, tI a2] h (some (tI w), h) := by
  refine CT.of (cc := cX12_of) (nL := 3) (ret := (some .int)) (by decide) (by simp [lg_sl, vOf_cat, wOf]) ?_
  intro K X
  refine g_locs (lv' := [(0, tR a0), (1, tI a1), (2, tI a2)]) (fun q hq => hq) ?_
  unfold f_X12_of at hf
  refine g_aload_n X dX12_of_0 0 rfl ?_
  refine g_iload_n X dX12_of_1 1 rfl ?_
  refine g_callV (n := 1) (av := [tI a1]) (rest := []) (k := 12) X hf (fun v1 => (some (tI v1), h)) (fun _ q => m_X12_isMan q) (gdV tb_1267 tb_1268 tb_1691 tb_12 tb_1269) rfl (by decide +kernel) rfl (by decide) rfl (by decide) (by decide) rfl (Nat.le_of_ble_eq_true rfl) dX12_of_2 (fun v1 hf => ?_)
  refine g_ifeq (tgt := 18) X hf dX12_of_5 (by decide) (fun hf => ?_) (fun hf => ?_)
  · refine g_iconst (v := (-1)) X dX12_of_18 (by decide) ?_
    exact g_ireturn X (zP hf) (by decide) (by decide) dX12_of_19
  · refine g_iload_n X dX12_of_8 2 rfl ?_
    refine g_iconst (v := 0) X dX12_of_9 (by decide) ?_
    refine g_bipush (v := 7) X dX12_of_10 (by decide) ?_
    refine g_callS (n := 3) (av := [tI a2, tI 0, tI 7]) (rest := []) X hf (fun v2 => (some (tI v2), h)) (fun _ q => m_X12_in q) (gdS tb_1226 tb_1227 tb_12 tb_1228) rfl (by decide +kernel) rfl (by decide) (by decide) rfl (Nat.le_of_ble_eq_true rfl) dX12_of_12 (fun v2 hf => ?_)
    refine g_ifne (tgt := 20) X hf dX12_of_15 (by decide) (fun hf => ?_) (fun hf => ?_)
    · refine g_iconst (v := (-1)) X dX12_of_18 (by decide) ?_
      exact g_ireturn X (zP hf) (by decide) (by decide) dX12_of_19
    · refine g_iload_n X dX12_of_20 2 rfl ?_
      by_cases hsw : a2 < 0 ∨ 6 < a2
      · rw [if_pos hsw] at hf
        refine g_tabOut (tgt := 190) X dX12_of_21 (tab_out hsw) (by decide) ?_
        refine g_aload_n X dX12_of_190 0 rfl ?_
        refine g_getR X hf (T := TX12) rfl (by decide) (by decide) in_RX12 tb_1135 rfl dX12_of_191 (fun v3 hf => ?_)
        refine g_sipush (v := 203) X dX12_of_194 (by decide) ?_
        refine g_iload_n X dX12_of_197 1 rfl ?_
        refine g_iadd X dX12_of_198 ?_
        refine g_iaload X hf dX12_of_199 (fun v4 hf => ?_)
        exact g_ireturn X (zP hf) (by decide) (by decide) dX12_of_200
      rw [if_neg hsw] at hf
      by_cases hs0 : a2 = 0
      · rw [if_pos hs0] at hf
        refine g_tabIn (off := 43) (tgt := 64) X 0 hs0 dX12_of_21 (by decide) (by decide) (by decide +kernel) (by decide) ?_
        refine g_aload_n X dX12_of_64 0 rfl ?_
        refine g_getR X hf (T := TX12) rfl (by decide) (by decide) in_RX12 tb_1135 rfl dX12_of_65 (fun v5 hf => ?_)
        refine g_bipush (v := 75) X dX12_of_68 (by decide) ?_
        refine g_iload_n X dX12_of_70 1 rfl ?_
        refine g_iadd X dX12_of_71 ?_
        refine g_iaload X hf dX12_of_72 (fun v6 hf => ?_)
        exact g_ireturn X (zP hf) (by decide) (by decide) dX12_of_73
      rw [if_neg hs0] at hf
      by_cases hs1 : a2 = 1
      · rw [if_pos hs1] at hf
        refine g_tabIn (off := 53) (tgt := 74) X 1 hs1 dX12_of_21 (by decide) (by decide) (by decide +kernel) (by decide) ?_
        refine g_aload_n X dX12_of_74 0 rfl ?_
        refine g_getR X hf (T := TX12) rfl (by decide) (by decide) in_RX12 tb_1135 rfl dX12_of_75 (fun v7 hf => ?_)
        refine g_bipush (v := 91) X dX12_of_78 (by decide) ?_
        refine g_iload_n X dX12_of_80 1 rfl ?_
        refine g_iadd X dX12_of_81 ?_
        refine g_iaload X hf dX12_of_82 (fun v8 hf => ?_)
        refine g_ifge (tgt := 91) X hf dX12_of_83 (by decide) (fun hf => ?_) (fun hf => ?_)
        · refine g_bipush (v := (-3)) X dX12_of_86 (by decide) ?_
          refine g_goto (tgt := 100) X dX12_of_88 (by decide) ?_
          exact g_ireturn X (zP hf) (by decide) (by decide) dX12_of_100
        · refine g_aload_n X dX12_of_91 0 rfl ?_
          refine g_getR X hf (T := TX12) rfl (by decide) (by decide) in_RX12 tb_1135 rfl dX12_of_92 (fun v9 hf => ?_)
          refine g_bipush (v := 91) X dX12_of_95 (by decide) ?_
          refine g_iload_n X dX12_of_97 1 rfl ?_
          refine g_iadd X dX12_of_98 ?_
          refine g_iaload X hf dX12_of_99 (fun v10 hf => ?_)
          exact g_ireturn X (zP hf) (by decide) (by decide) dX12_of_100
      rw [if_neg hs1] at hf
      by_cases hs2 : a2 = 2
      · rw [if_pos hs2] at hf
        refine g_tabIn (off := 80) (tgt := 101) X 2 hs2 dX12_of_21 (by decide) (by decide) (by decide +kernel) (by decide) ?_
        refine g_aload_n X dX12_of_101 0 rfl ?_
        refine g_getR X hf (T := TX12) rfl (by decide) (by decide) in_RX12 tb_1135 rfl dX12_of_102 (fun v11 hf => ?_)
        refine g_bipush (v := 107) X dX12_of_105 (by decide) ?_
        refine g_iload_n X dX12_of_107 1 rfl ?_
        refine g_iadd X dX12_of_108 ?_
        refine g_iaload X hf dX12_of_109 (fun v12 hf => ?_)
        exact g_ireturn X (zP hf) (by decide) (by decide) dX12_of_110
      rw [if_neg hs2] at hf
      by_cases hs3 : a2 = 3
      · rw [if_pos hs3] at hf
        refine g_tabIn (off := 90) (tgt := 111) X 3 hs3 dX12_of_21 (by decide) (by decide) (by decide +kernel) (by decide) ?_
        refine g_aload_n X dX12_of_111 0 rfl ?_
        refine g_getR X hf (T := TX12) rfl (by decide) (by decide) in_RX12 tb_1135 rfl dX12_of_112 (fun v13 hf => ?_)
        refine g_bipush (v := 123) X dX12_of_115 (by decide) ?_
        refine g_iload_n X dX12_of_117 1 rfl ?_
        refine g_iadd X dX12_of_118 ?_
        refine g_iaload X hf dX12_of_119 (fun v14 hf => ?_)
        exact g_ireturn X (zP hf) (by decide) (by decide) dX12_of_120
      rw [if_neg hs3] at hf
      by_cases hs4 : a2 = 4
      · rw [if_pos hs4] at hf
        refine g_tabIn (off := 100) (tgt := 121) X 4 hs4 dX12_of_21 (by decide) (by decide) (by decide +kernel) (by decide) ?_
        refine g_aload_n X dX12_of_121 0 rfl ?_
        refine g_getR X hf (T := TX12) rfl (by decide) (by decide) in_RX12 tb_1135 rfl dX12_of_122 (fun v15 hf => ?_)
        refine g_sipush (v := 139) X dX12_of_125 (by decide) ?_
        refine g_iload_n X dX12_of_128 1 rfl ?_
        refine g_iadd X dX12_of_129 ?_
        refine g_iaload X hf dX12_of_130 (fun v16 hf => ?_)
        exact g_ireturn X (zP hf) (by decide) (by decide) dX12_of_131
      rw [if_neg hs4] at hf
      by_cases hs5 : a2 = 5
      · rw [if_pos hs5] at hf
        refine g_tabIn (off := 111) (tgt := 132) X 5 hs5 dX12_of_21 (by decide) (by decide) (by decide +kernel) (by decide) ?_
        refine g_aload_n X dX12_of_132 0 rfl ?_
        refine g_getR X hf (T := TX12) rfl (by decide) (by decide) in_RX12 tb_1135 rfl dX12_of_133 (fun v17 hf => ?_)
        refine g_sipush (v := 171) X dX12_of_136 (by decide) ?_
        refine g_iload_n X dX12_of_139 1 rfl ?_
        refine g_iadd X dX12_of_140 ?_
        refine g_iaload X hf dX12_of_141 (fun v18 hf => ?_)
        refine g_ifge (tgt := 150) X hf dX12_of_142 (by decide) (fun hf => ?_) (fun hf => ?_)
        · refine g_bipush (v := (-3)) X dX12_of_145 (by decide) ?_
          refine g_goto (tgt := 160) X dX12_of_147 (by decide) ?_
          exact g_ireturn X (zP hf) (by decide) (by decide) dX12_of_160
        · refine g_aload_n X dX12_of_150 0 rfl ?_
          refine g_getR X hf (T := TX12) rfl (by decide) (by decide) in_RX12 tb_1135 rfl dX12_of_151 (fun v19 hf => ?_)
          refine g_sipush (v := 171) X dX12_of_154 (by decide) ?_
          refine g_iload_n X dX12_of_157 1 rfl ?_
          refine g_iadd X dX12_of_158 ?_
          refine g_iaload X hf dX12_of_159 (fun v20 hf => ?_)
          exact g_ireturn X (zP hf) (by decide) (by decide) dX12_of_160
      rw [if_neg hs5] at hf
      by_cases hs6 : a2 = 6
      · rw [if_pos hs6] at hf
        refine g_tabIn (off := 140) (tgt := 161) X 6 hs6 dX12_of_21 (by decide) (by decide) (by decide +kernel) (by decide) ?_
        refine g_aload_n X dX12_of_161 0 rfl ?_
        refine g_getR X hf (T := TX12) rfl (by decide) (by decide) in_RX12 tb_1135 rfl dX12_of_162 (fun v21 hf => ?_)
        refine g_sipush (v := 171) X dX12_of_165 (by decide) ?_
        refine g_iload_n X dX12_of_168 1 rfl ?_
        refine g_iadd X dX12_of_169 ?_
        refine g_iaload X hf dX12_of_170 (fun v22 hf => ?_)
        refine g_ifge (tgt := 179) X hf dX12_of_171 (by decide) (fun hf => ?_) (fun hf => ?_)
        · refine g_bipush (v := (-3)) X dX12_of_174 (by decide) ?_
          refine g_goto (tgt := 189) X dX12_of_176 (by decide) ?_
          exact g_ireturn X (zP hf) (by decide) (by decide) dX12_of_189
        · refine g_aload_n X dX12_of_179 0 rfl ?_
          refine g_getR X hf (T := TX12) rfl (by decide) (by decide) in_RX12 tb_1135 rfl dX12_of_180 (fun v23 hf => ?_)
          refine g_sipush (v := 187) X dX12_of_183 (by decide) ?_
          refine g_iload_n X dX12_of_186 1 rfl ?_
          refine g_iadd X dX12_of_187 ?_
          refine g_iaload X hf dX12_of_188 (fun v24 hf => ?_)
          exact g_ireturn X (zP hf) (by decide) (by decide) dX12_of_189
      rw [if_neg hs6] at hf
      cases hf
def f_X12_bargain  (a0 : Option Nat) (a1 : Int32) (a2 : Int32) (a3 : Int32) (a4 : Int32) (h : AH) : Option (Int32 × AH) :=
  (f_X12_isClub a1 h).bind fun v1 =>
  if v1 = 0 then
    some ((-1), h)
  else
    (ck 12 h a0 (f_X12_isMan a0 a2 h)).bind fun v2 =>
    if v2 = 0 then
      some ((-1), h)
    else
      (f_X12_isDay a3 h).bind fun v3 =>
      if v3 = 0 then
        some ((-1), h)
      else
        (f_X12_in a4 a3 9999 h).bind fun v4 =>
        if v4 = 0 then
          some ((-1), h)
        else
          (gR 12 0 h a0).bind fun v5 =>
          (aI h v5 4).bind fun v6 =>
          if v6 = 8 then
            some ((-2), h)
          else
            (gR 12 0 h a0).bind fun v7 =>
            (aI h v7 4).bind fun v8 =>
            (gR 12 0 h a0).bind fun v9 =>
            (sI h v9 (619 + v8) a1).bind fun h10 =>
            (gR 12 0 h10 a0).bind fun v11 =>
            (sI h10 v11 (627 + v8) a2).bind fun h12 =>
            (gR 12 0 h12 a0).bind fun v13 =>
            (sI h12 v13 (635 + v8) a3).bind fun h14 =>
            (gR 12 0 h14 a0).bind fun v15 =>
            (sI h14 v15 (643 + v8) a4).bind fun h16 =>
            (gR 12 0 h16 a0).bind fun v17 =>
            (aI h16 v17 4).bind fun v18 =>
            (sI h16 v17 4 (v18 + 1)).bind fun h19 =>
            some (v8, h19)
set_option maxRecDepth 20000 in
theorem m_X12_bargain  {a0 : Option Nat} {a1 : Int32} {a2 : Int32} {a3 : Int32} {a4 : Int32} {h : AH} {w : (Int32 × AH)} (hf : f_X12_bargain a0 a1 a2 a3 a4 h = some w) : CT yX12_bargain (wU yX12_bargain cX12_bargain 6 (some .int)) (rmD 3 0 0) 0 0 [tR a0, tI a1, tI a2, tI a3, tI a4] h (some (tI w.1), w.2) := by
  refine CT.of (cc := cX12_bargain) (nL := 6) (ret := (some .int)) (by decide) (by simp [lg_sl, vOf_cat, wOf]) ?_
  intro K X
  refine g_locs (lv' := [(0, tR a0), (1, tI a1), (2, tI a2), (3, tI a3), (4, tI a4)]) (fun q hq => hq) ?_
  unfold f_X12_bargain at hf
  refine g_iload_n X dX12_bargain_0 1 rfl ?_
  refine g_callS (n := 1) (av := [tI a1]) (rest := []) X hf (fun v1 => (some (tI v1), h)) (fun _ q => m_X12_isClub q) (gdS tb_1301 tb_1302 tb_12 tb_1303) rfl (by decide +kernel) rfl (by decide) (by decide) rfl (Nat.le_of_ble_eq_true rfl) dX12_bargain_1 (fun v1 hf => ?_)
  refine g_ifeq (tgt := 34) X hf dX12_bargain_4 (by decide) (fun hf => ?_) (fun hf => ?_)
  · refine g_iconst (v := (-1)) X dX12_bargain_34 (by decide) ?_
    exact g_ireturn X (zW hf) (by decide) (by decide) dX12_bargain_35
  · refine g_aload_n X dX12_bargain_7 0 rfl ?_
    refine g_iload_n X dX12_bargain_8 2 rfl ?_
    refine g_callV (n := 1) (av := [tI a2]) (rest := []) (k := 12) X hf (fun v2 => (some (tI v2), h)) (fun _ q => m_X12_isMan q) (gdV tb_1267 tb_1268 tb_1691 tb_12 tb_1269) rfl (by decide +kernel) rfl (by decide) rfl (by decide) (by decide) rfl (Nat.le_of_ble_eq_true rfl) dX12_bargain_9 (fun v2 hf => ?_)
    refine g_ifeq (tgt := 34) X hf dX12_bargain_12 (by decide) (fun hf => ?_) (fun hf => ?_)
    · refine g_iconst (v := (-1)) X dX12_bargain_34 (by decide) ?_
      exact g_ireturn X (zW hf) (by decide) (by decide) dX12_bargain_35
    · refine g_iload_n X dX12_bargain_15 3 rfl ?_
      refine g_callS (n := 1) (av := [tI a3]) (rest := []) X hf (fun v3 => (some (tI v3), h)) (fun _ q => m_X12_isDay q) (gdS tb_1239 tb_1240 tb_12 tb_1241) rfl (by decide +kernel) rfl (by decide) (by decide) rfl (Nat.le_of_ble_eq_true rfl) dX12_bargain_16 (fun v3 hf => ?_)
      refine g_ifeq (tgt := 34) X hf dX12_bargain_19 (by decide) (fun hf => ?_) (fun hf => ?_)
      · refine g_iconst (v := (-1)) X dX12_bargain_34 (by decide) ?_
        exact g_ireturn X (zW hf) (by decide) (by decide) dX12_bargain_35
      · refine g_iload X dX12_bargain_22 4 rfl ?_
        refine g_iload_n X dX12_bargain_24 3 rfl ?_
        refine g_sipush (v := 9999) X dX12_bargain_25 (by decide) ?_
        refine g_callS (n := 3) (av := [tI a4, tI a3, tI 9999]) (rest := []) X hf (fun v4 => (some (tI v4), h)) (fun _ q => m_X12_in q) (gdS tb_1226 tb_1227 tb_12 tb_1228) rfl (by decide +kernel) rfl (by decide) (by decide) rfl (Nat.le_of_ble_eq_true rfl) dX12_bargain_28 (fun v4 hf => ?_)
        refine g_ifne (tgt := 36) X hf dX12_bargain_31 (by decide) (fun hf => ?_) (fun hf => ?_)
        · refine g_iconst (v := (-1)) X dX12_bargain_34 (by decide) ?_
          exact g_ireturn X (zW hf) (by decide) (by decide) dX12_bargain_35
        · refine g_aload_n X dX12_bargain_36 0 rfl ?_
          refine g_getR X hf (T := TX12) rfl (by decide) (by decide) in_RX12 tb_1135 rfl dX12_bargain_37 (fun v5 hf => ?_)
          refine g_iconst (v := 4) X dX12_bargain_40 (by decide) ?_
          refine g_iaload X hf dX12_bargain_41 (fun v6 hf => ?_)
          refine g_bipush (v := 8) X dX12_bargain_42 (by decide) ?_
          refine g_icmpne (tgt := 50) X hf dX12_bargain_44 (by decide) (fun hf => ?_) (fun hf => ?_)
          · refine g_bipush (v := (-2)) X dX12_bargain_47 (by decide) ?_
            exact g_ireturn X (zW hf) (by decide) (by decide) dX12_bargain_49
          · refine g_aload_n X dX12_bargain_50 0 rfl ?_
            refine g_getR X hf (T := TX12) rfl (by decide) (by decide) in_RX12 tb_1135 rfl dX12_bargain_51 (fun v7 hf => ?_)
            refine g_iconst (v := 4) X dX12_bargain_54 (by decide) ?_
            refine g_iaload X hf dX12_bargain_55 (fun v8 hf => ?_)
            refine g_istore (lv' := [(0, tR a0), (1, tI a1), (2, tI a2), (3, tI a3), (4, tI a4), (5, tI v8)]) X dX12_bargain_56 (by decide) (in_pick [1, 2, 3, 4, 5, 0] rfl) ?_
            refine g_aload_n X dX12_bargain_58 0 rfl ?_
            refine g_getR X hf (T := TX12) rfl (by decide) (by decide) in_RX12 tb_1135 rfl dX12_bargain_59 (fun v9 hf => ?_)
            refine g_sipush (v := 619) X dX12_bargain_62 (by decide) ?_
            refine g_iload X dX12_bargain_65 5 rfl ?_
            refine g_iadd X dX12_bargain_67 ?_
            refine g_iload_n X dX12_bargain_68 1 rfl ?_
            refine g_iastore X hf dX12_bargain_69 (fun h10 hf => ?_)
            refine g_aload_n X dX12_bargain_70 0 rfl ?_
            refine g_getR X hf (T := TX12) rfl (by decide) (by decide) in_RX12 tb_1135 rfl dX12_bargain_71 (fun v11 hf => ?_)
            refine g_sipush (v := 627) X dX12_bargain_74 (by decide) ?_
            refine g_iload X dX12_bargain_77 5 rfl ?_
            refine g_iadd X dX12_bargain_79 ?_
            refine g_iload_n X dX12_bargain_80 2 rfl ?_
            refine g_iastore X hf dX12_bargain_81 (fun h12 hf => ?_)
            refine g_aload_n X dX12_bargain_82 0 rfl ?_
            refine g_getR X hf (T := TX12) rfl (by decide) (by decide) in_RX12 tb_1135 rfl dX12_bargain_83 (fun v13 hf => ?_)
            refine g_sipush (v := 635) X dX12_bargain_86 (by decide) ?_
            refine g_iload X dX12_bargain_89 5 rfl ?_
            refine g_iadd X dX12_bargain_91 ?_
            refine g_iload_n X dX12_bargain_92 3 rfl ?_
            refine g_iastore X hf dX12_bargain_93 (fun h14 hf => ?_)
            refine g_aload_n X dX12_bargain_94 0 rfl ?_
            refine g_getR X hf (T := TX12) rfl (by decide) (by decide) in_RX12 tb_1135 rfl dX12_bargain_95 (fun v15 hf => ?_)
            refine g_sipush (v := 643) X dX12_bargain_98 (by decide) ?_
            refine g_iload X dX12_bargain_101 5 rfl ?_
            refine g_iadd X dX12_bargain_103 ?_
            refine g_iload X dX12_bargain_104 4 rfl ?_
            refine g_iastore X hf dX12_bargain_106 (fun h16 hf => ?_)
            refine g_aload_n X dX12_bargain_107 0 rfl ?_
            refine g_getR X hf (T := TX12) rfl (by decide) (by decide) in_RX12 tb_1135 rfl dX12_bargain_108 (fun v17 hf => ?_)
            refine g_iconst (v := 4) X dX12_bargain_111 (by decide) ?_
            refine g_dup2 X dX12_bargain_112 rfl rfl ?_
            refine g_iaload X hf dX12_bargain_113 (fun v18 hf => ?_)
            refine g_iconst (v := 1) X dX12_bargain_114 (by decide) ?_
            refine g_iadd X dX12_bargain_115 ?_
            refine g_iastore X hf dX12_bargain_116 (fun h19 hf => ?_)
            refine g_iload X dX12_bargain_117 5 rfl ?_
            exact g_ireturn X (zW hf) (by decide) (by decide) dX12_bargain_119
def b_X12_boundTo_74  (k5 : Option Nat → Int32 → Int32 → Int32 → Int32 → Option Int32) (h : AH) (x0 : Option Nat) (x1 : Int32) (x2 : Int32) (x3 : Int32) (x4 : Int32) : Option Int32 :=
  k5 x0 x1 x2 x3 (x4 + 1)
set_option maxRecDepth 20000 in
theorem w_X12_boundTo_74 {K : KT} {w : Int32} {h : AH} {k5 : Option Nat → Int32 → Int32 → Int32 → Int32 → Option Int32}  (X : CX K cX12_boundTo RX12 TB (some .int) "boundTo" (rmD 2 0 0) 5 0 0) (hk5 : ∀ (x0 : Option Nat) (x1 : Int32) (x2 : Int32) (x3 : Int32) (x4 : Int32), k5 x0 x1 x2 x3 x4 = some w → GG K (some (tI w), h) 0 0 5 [(0, tR x0), (1, tI x1), (2, tI x2), (3, tI x3), (4, tI x4)] [] h) (x0 : Option Nat) (x1 : Int32) (x2 : Int32) (x3 : Int32) (x4 : Int32) (hf : b_X12_boundTo_74 k5 h x0 x1 x2 x3 x4 = some w) : GG K (some (tI w), h) 0 0 74 [(0, tR x0), (1, tI x1), (2, tI x2), (3, tI x3), (4, tI x4)] [] h := by
  unfold b_X12_boundTo_74 at hf
  refine g_iload_n X dX12_boundTo_74 3 rfl ?_
  refine g_istore_n (lv' := [(0, tR x0), (1, tI x1), (2, tI x2), (3, tI x3), (4, tI x4)]) X dX12_boundTo_75 (by decide) (in_pick [1, 2, 3, 0, 4] rfl) ?_
  refine g_iinc (v := (x4 + 1)) (lv' := [(0, tR x0), (1, tI x1), (2, tI x2), (3, tI x3), (4, tI (x4 + 1))]) X dX12_boundTo_76 4 rfl (by rfl) (by decide) (in_pick [1, 2, 3, 4, 0] rfl) ?_
  refine g_goto (tgt := 5) X dX12_boundTo_79 (by decide) ?_
  exact hk5 x0 x1 x2 x3 (x4 + 1) hf
def b_X12_boundTo_5   (h : AH) : Nat → Option Nat → Int32 → Int32 → Int32 → Int32 → Option Int32
  | 0 => fun _ _ _ _ _ => none
  | n + 1 => fun x0 x1 x2 x3 x4 =>
    (gR 12 0 h x0).bind fun v1 =>
    (aI h v1 4).bind fun v2 =>
    if x4 < v2 then
      (gR 12 0 h x0).bind fun v3 =>
      (aI h v3 (619 + x4)).bind fun v4 =>
      if v4 = x1 then
        (gR 12 0 h x0).bind fun v5 =>
        (aI h v5 (635 + x4)).bind fun v6 =>
        (gR 12 0 h x0).bind fun v7 =>
        (aI h v7 (643 + x4)).bind fun v8 =>
        (f_X12_in x2 v6 v8 h).bind fun v9 =>
        if v9 = 0 then
          b_X12_boundTo_74 (b_X12_boundTo_5 h n) h x0 x1 x2 x3 x4
        else
          (gR 12 0 h x0).bind fun v10 =>
          (aI h v10 (627 + x4)).bind fun v11 =>
          b_X12_boundTo_5 h n x0 x1 x2 v11 (x4 + 1)
      else
        b_X12_boundTo_74 (b_X12_boundTo_5 h n) h x0 x1 x2 x3 x4
    else
      some x3
set_option maxRecDepth 20000 in
theorem w_X12_boundTo_5 {K : KT} {w : Int32} {h : AH}   (X : CX K cX12_boundTo RX12 TB (some .int) "boundTo" (rmD 2 0 0) 5 0 0)  : ∀ (n : Nat) (x0 : Option Nat) (x1 : Int32) (x2 : Int32) (x3 : Int32) (x4 : Int32), b_X12_boundTo_5 h n x0 x1 x2 x3 x4 = some w → GG K (some (tI w), h) 0 0 5 [(0, tR x0), (1, tI x1), (2, tI x2), (3, tI x3), (4, tI x4)] [] h := by
  intro n
  induction n with
  | zero =>
    intro x0 x1 x2 x3 x4 hf
    cases (show none = some w from hf)
  | succ n ih =>
    intro x0 x1 x2 x3 x4 hf
    rw [b_X12_boundTo_5] at hf
    refine g_iload X dX12_boundTo_5 4 rfl ?_
    refine g_aload_n X dX12_boundTo_7 0 rfl ?_
    refine g_getR X hf (T := TX12) rfl (by decide) (by decide) in_RX12 tb_1135 rfl dX12_boundTo_8 (fun v1 hf => ?_)
    refine g_iconst (v := 4) X dX12_boundTo_11 (by decide) ?_
    refine g_iaload X hf dX12_boundTo_12 (fun v2 hf => ?_)
    refine g_icmpge (tgt := 82) X hf dX12_boundTo_13 (by decide) (fun hf => ?_) (fun hf => ?_)
    · refine g_aload_n X dX12_boundTo_16 0 rfl ?_
      refine g_getR X hf (T := TX12) rfl (by decide) (by decide) in_RX12 tb_1135 rfl dX12_boundTo_17 (fun v3 hf => ?_)
      refine g_sipush (v := 619) X dX12_boundTo_20 (by decide) ?_
      refine g_iload X dX12_boundTo_23 4 rfl ?_
      refine g_iadd X dX12_boundTo_25 ?_
      refine g_iaload X hf dX12_boundTo_26 (fun v4 hf => ?_)
      refine g_iload_n X dX12_boundTo_27 1 rfl ?_
      refine g_icmpne (tgt := 74) X hf dX12_boundTo_28 (by decide) (fun hf => ?_) (fun hf => ?_)
      · refine g_iload_n X dX12_boundTo_31 2 rfl ?_
        refine g_aload_n X dX12_boundTo_32 0 rfl ?_
        refine g_getR X hf (T := TX12) rfl (by decide) (by decide) in_RX12 tb_1135 rfl dX12_boundTo_33 (fun v5 hf => ?_)
        refine g_sipush (v := 635) X dX12_boundTo_36 (by decide) ?_
        refine g_iload X dX12_boundTo_39 4 rfl ?_
        refine g_iadd X dX12_boundTo_41 ?_
        refine g_iaload X hf dX12_boundTo_42 (fun v6 hf => ?_)
        refine g_aload_n X dX12_boundTo_43 0 rfl ?_
        refine g_getR X hf (T := TX12) rfl (by decide) (by decide) in_RX12 tb_1135 rfl dX12_boundTo_44 (fun v7 hf => ?_)
        refine g_sipush (v := 643) X dX12_boundTo_47 (by decide) ?_
        refine g_iload X dX12_boundTo_50 4 rfl ?_
        refine g_iadd X dX12_boundTo_52 ?_
        refine g_iaload X hf dX12_boundTo_53 (fun v8 hf => ?_)
        refine g_callS (n := 3) (av := [tI x2, tI v6, tI v8]) (rest := []) X hf (fun v9 => (some (tI v9), h)) (fun _ q => m_X12_in q) (gdS tb_1226 tb_1227 tb_12 tb_1228) rfl (by decide +kernel) rfl (by decide) (by decide) rfl (Nat.le_of_ble_eq_true rfl) dX12_boundTo_54 (fun v9 hf => ?_)
        refine g_ifeq (tgt := 74) X hf dX12_boundTo_57 (by decide) (fun hf => ?_) (fun hf => ?_)
        · exact w_X12_boundTo_74 X ih x0 x1 x2 x3 x4 hf
        · refine g_aload_n X dX12_boundTo_60 0 rfl ?_
          refine g_getR X hf (T := TX12) rfl (by decide) (by decide) in_RX12 tb_1135 rfl dX12_boundTo_61 (fun v10 hf => ?_)
          refine g_sipush (v := 627) X dX12_boundTo_64 (by decide) ?_
          refine g_iload X dX12_boundTo_67 4 rfl ?_
          refine g_iadd X dX12_boundTo_69 ?_
          refine g_iaload X hf dX12_boundTo_70 (fun v11 hf => ?_)
          refine g_goto (tgt := 75) X dX12_boundTo_71 (by decide) ?_
          refine g_istore_n (lv' := [(0, tR x0), (1, tI x1), (2, tI x2), (3, tI v11), (4, tI x4)]) X dX12_boundTo_75 (by decide) (in_pick [1, 2, 3, 0, 4] rfl) ?_
          refine g_iinc (v := (x4 + 1)) (lv' := [(0, tR x0), (1, tI x1), (2, tI x2), (3, tI v11), (4, tI (x4 + 1))]) X dX12_boundTo_76 4 rfl (by rfl) (by decide) (in_pick [1, 2, 3, 4, 0] rfl) ?_
          refine g_goto (tgt := 5) X dX12_boundTo_79 (by decide) ?_
          exact ih x0 x1 x2 v11 (x4 + 1) hf
      · exact w_X12_boundTo_74 X ih x0 x1 x2 x3 x4 hf
    · refine g_iload_n X dX12_boundTo_82 3 rfl ?_
      exact g_ireturn X (zP hf) (by decide) (by decide) dX12_boundTo_83
def f_X12_boundTo  (a0 : Option Nat) (a1 : Int32) (a2 : Int32) (h : AH) : Option Int32 :=
  b_X12_boundTo_5 h FU a0 a1 a2 (-1) 0
set_option maxRecDepth 20000 in
theorem m_X12_boundTo  {a0 : Option Nat} {a1 : Int32} {a2 : Int32} {h : AH} {w : Int32} (hf : f_X12_boundTo a0 a1 a2 h = some w) : CT yX12_boundTo (wU yX12_boundTo cX12_boundTo 5 (some .int)) (rmD 2 0 0) 0 0 [tR a0, tI a1, tI a2] h (some (tI w), h) := by
  refine CT.of (cc := cX12_boundTo) (nL := 5) (ret := (some .int)) (by decide) (by simp [lg_sl, vOf_cat, wOf]) ?_
  intro K X
  refine g_locs (lv' := [(0, tR a0), (1, tI a1), (2, tI a2)]) (fun q hq => hq) ?_
  unfold f_X12_boundTo at hf
  refine g_iconst (v := (-1)) X dX12_boundTo_0 (by decide) ?_
  refine g_istore_n (lv' := [(0, tR a0), (1, tI a1), (2, tI a2), (3, tI (-1))]) X dX12_boundTo_1 (by decide) (in_pick [1, 2, 3, 0] rfl) ?_
  refine g_iconst (v := 0) X dX12_boundTo_2 (by decide) ?_
  refine g_istore (lv' := [(0, tR a0), (1, tI a1), (2, tI a2), (3, tI (-1)), (4, tI 0)]) X dX12_boundTo_3 (by decide) (in_pick [1, 2, 3, 4, 0] rfl) ?_
  exact w_X12_boundTo_5 X FU a0 a1 a2 (-1) 0 hf
def f_X12_bound  (a0 : Option Nat) (a1 : Int32) (a2 : Int32) (h : AH) : Option Int32 :=
  (f_X12_isClub a1 h).bind fun v1 =>
  if v1 = 0 then
    some (-1)
  else
    (f_X12_isDay a2 h).bind fun v2 =>
    if v2 = 0 then
      some (-1)
    else
      (ck 12 h a0 (f_X12_boundTo a0 a1 a2 h)).bind fun v3 =>
      if v3 < 0 then
        some (-3)
      else
        some v3
set_option maxRecDepth 20000 in
theorem m_X12_bound  {a0 : Option Nat} {a1 : Int32} {a2 : Int32} {h : AH} {w : Int32} (hf : f_X12_bound a0 a1 a2 h = some w) : CT yX12_bound (wU yX12_bound cX12_bound 4 (some .int)) (rmD 3 0 0) 0 0 [tR a0, tI a1, tI a2] h (some (tI w), h) := by
  refine CT.of (cc := cX12_bound) (nL := 4) (ret := (some .int)) (by decide) (by simp [lg_sl, vOf_cat, wOf]) ?_
  intro K X
  refine g_locs (lv' := [(0, tR a0), (1, tI a1), (2, tI a2)]) (fun q hq => hq) ?_
  unfold f_X12_bound at hf
  refine g_iload_n X dX12_bound_0 1 rfl ?_
  refine g_callS (n := 1) (av := [tI a1]) (rest := []) X hf (fun v1 => (some (tI v1), h)) (fun _ q => m_X12_isClub q) (gdS tb_1301 tb_1302 tb_12 tb_1303) rfl (by decide +kernel) rfl (by decide) (by decide) rfl (Nat.le_of_ble_eq_true rfl) dX12_bound_1 (fun v1 hf => ?_)
  refine g_ifeq (tgt := 14) X hf dX12_bound_4 (by decide) (fun hf => ?_) (fun hf => ?_)
  · refine g_iconst (v := (-1)) X dX12_bound_14 (by decide) ?_
    exact g_ireturn X (zP hf) (by decide) (by decide) dX12_bound_15
  · refine g_iload_n X dX12_bound_7 2 rfl ?_
    refine g_callS (n := 1) (av := [tI a2]) (rest := []) X hf (fun v2 => (some (tI v2), h)) (fun _ q => m_X12_isDay q) (gdS tb_1239 tb_1240 tb_12 tb_1241) rfl (by decide +kernel) rfl (by decide) (by decide) rfl (Nat.le_of_ble_eq_true rfl) dX12_bound_8 (fun v2 hf => ?_)
    refine g_ifne (tgt := 16) X hf dX12_bound_11 (by decide) (fun hf => ?_) (fun hf => ?_)
    · refine g_iconst (v := (-1)) X dX12_bound_14 (by decide) ?_
      exact g_ireturn X (zP hf) (by decide) (by decide) dX12_bound_15
    · refine g_aload_n X dX12_bound_16 0 rfl ?_
      refine g_iload_n X dX12_bound_17 1 rfl ?_
      refine g_iload_n X dX12_bound_18 2 rfl ?_
      refine g_callV (n := 2) (av := [tI a1, tI a2]) (rest := []) (k := 12) X hf (fun v3 => (some (tI v3), h)) (fun _ q => m_X12_boundTo q) (gdV tb_1308 tb_1309 tb_1693 tb_12 tb_1310) rfl (by decide +kernel) rfl (by decide) rfl (by decide) (by decide) rfl (Nat.le_of_ble_eq_true rfl) dX12_bound_19 (fun v3 hf => ?_)
      refine g_istore_n (lv' := [(0, tR a0), (1, tI a1), (2, tI a2), (3, tI v3)]) X dX12_bound_22 (by decide) (in_pick [1, 2, 3, 0] rfl) ?_
      refine g_iload_n X dX12_bound_23 3 rfl ?_
      refine g_ifge (tgt := 32) X hf dX12_bound_24 (by decide) (fun hf => ?_) (fun hf => ?_)
      · refine g_bipush (v := (-3)) X dX12_bound_27 (by decide) ?_
        refine g_goto (tgt := 33) X dX12_bound_29 (by decide) ?_
        exact g_ireturn X (zP hf) (by decide) (by decide) dX12_bound_33
      · refine g_iload_n X dX12_bound_32 3 rfl ?_
        exact g_ireturn X (zP hf) (by decide) (by decide) dX12_bound_33
def f_X12_isSent  (a0 : Option Nat) (a1 : Int32) (a2 : Int32) (h : AH) : Option Int32 :=
  (gR 12 0 h a0).bind fun v1 =>
  (aI h v1 (171 + a1)).bind fun v2 =>
  if v2 < 0 then
    some 0
  else
    (gR 12 0 h a0).bind fun v3 =>
    (aI h v3 (171 + a1)).bind fun v4 =>
    (gR 12 0 h a0).bind fun v5 =>
    (aI h v5 (187 + a1)).bind fun v6 =>
    (f_X12_in a2 v4 v6 h).bind fun v7 =>
    if v7 = 0 then
      some 0
    else
      some 1
set_option maxRecDepth 20000 in
theorem m_X12_isSent  {a0 : Option Nat} {a1 : Int32} {a2 : Int32} {h : AH} {w : Int32} (hf : f_X12_isSent a0 a1 a2 h = some w) : CT yX12_isSent (wU yX12_isSent cX12_isSent 3 (some .boolean)) (rmD 2 0 0) 0 0 [tR a0, tI a1, tI a2] h (some (tI w), h) := by
  refine CT.of (cc := cX12_isSent) (nL := 3) (ret := (some .boolean)) (by decide) (by simp [lg_sl, vOf_cat, wOf]) ?_
  intro K X
  refine g_locs (lv' := [(0, tR a0), (1, tI a1), (2, tI a2)]) (fun q hq => hq) ?_
  unfold f_X12_isSent at hf
  refine g_aload_n X dX12_isSent_0 0 rfl ?_
  refine g_getR X hf (T := TX12) rfl (by decide) (by decide) in_RX12 tb_1135 rfl dX12_isSent_1 (fun v1 hf => ?_)
  refine g_sipush (v := 171) X dX12_isSent_4 (by decide) ?_
  refine g_iload_n X dX12_isSent_7 1 rfl ?_
  refine g_iadd X dX12_isSent_8 ?_
  refine g_iaload X hf dX12_isSent_9 (fun v2 hf => ?_)
  refine g_iflt (tgt := 44) X hf dX12_isSent_10 (by decide) (fun hf => ?_) (fun hf => ?_)
  · refine g_iconst (v := 0) X dX12_isSent_44 (by decide) ?_
    exact g_zreturn X (zP hf) (by decide) (by decide) (by decide) dX12_isSent_45
  · refine g_iload_n X dX12_isSent_13 2 rfl ?_
    refine g_aload_n X dX12_isSent_14 0 rfl ?_
    refine g_getR X hf (T := TX12) rfl (by decide) (by decide) in_RX12 tb_1135 rfl dX12_isSent_15 (fun v3 hf => ?_)
    refine g_sipush (v := 171) X dX12_isSent_18 (by decide) ?_
    refine g_iload_n X dX12_isSent_21 1 rfl ?_
    refine g_iadd X dX12_isSent_22 ?_
    refine g_iaload X hf dX12_isSent_23 (fun v4 hf => ?_)
    refine g_aload_n X dX12_isSent_24 0 rfl ?_
    refine g_getR X hf (T := TX12) rfl (by decide) (by decide) in_RX12 tb_1135 rfl dX12_isSent_25 (fun v5 hf => ?_)
    refine g_sipush (v := 187) X dX12_isSent_28 (by decide) ?_
    refine g_iload_n X dX12_isSent_31 1 rfl ?_
    refine g_iadd X dX12_isSent_32 ?_
    refine g_iaload X hf dX12_isSent_33 (fun v6 hf => ?_)
    refine g_callS (n := 3) (av := [tI a2, tI v4, tI v6]) (rest := []) X hf (fun v7 => (some (tI v7), h)) (fun _ q => m_X12_in q) (gdS tb_1226 tb_1227 tb_12 tb_1228) rfl (by decide +kernel) rfl (by decide) (by decide) rfl (Nat.le_of_ble_eq_true rfl) dX12_isSent_34 (fun v7 hf => ?_)
    refine g_ifeq (tgt := 44) X hf dX12_isSent_37 (by decide) (fun hf => ?_) (fun hf => ?_)
    · refine g_iconst (v := 0) X dX12_isSent_44 (by decide) ?_
      exact g_zreturn X (zP hf) (by decide) (by decide) (by decide) dX12_isSent_45
    · refine g_iconst (v := 1) X dX12_isSent_40 (by decide) ?_
      refine g_goto (tgt := 45) X dX12_isSent_41 (by decide) ?_
      exact g_zreturn X (zP hf) (by decide) (by decide) (by decide) dX12_isSent_45
