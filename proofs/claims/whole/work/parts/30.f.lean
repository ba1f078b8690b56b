def f_X12_in (a0 : Int32) (a1 : Int32) (a2 : Int32) (h : AH) : Option Int32 :=
  if a0 < a1 then
    some 0
  else
    if a2 < a0 then
      some 0
    else
      some 1
set_option maxRecDepth 20000 in
theorem m_X12_in {a0 : Int32} {a1 : Int32} {a2 : Int32} {h : AH} {w : Int32} (hf : f_X12_in a0 a1 a2 h = some w) : CT yX12_in wsX12_in (rmD 1 0 0) 0 0 [tI a0, tI a1, tI a2] h (some (tI w), h) := by
  refine CT.of (cc := cX12_in) (nL := 3) (ret := (some .boolean)) (by decide) rfl (by simp [lg_sl, vOf_cat, wOf]) ?_
  intro K X
  refine g_locs (lv' := [(0, tI a0), (1, tI a1), (2, tI a2)]) (fun q hq => hq) ?_
  unfold f_X12_in at hf
  refine g_iload_n X dX12_in_0 0 rfl ?_
  refine g_iload_n X dX12_in_1 1 rfl ?_
  refine g_icmplt (tgt := 14) X hf dX12_in_2 (by decide) (fun hf => ?_) (fun hf => ?_)
  · refine g_iconst (v := 0) X dX12_in_14 (by decide) ?_
    exact g_zreturn X (by cases hf; rfl) (by decide) (by decide) (by decide) dX12_in_15
  · refine g_iload_n X dX12_in_5 0 rfl ?_
    refine g_iload_n X dX12_in_6 2 rfl ?_
    refine g_icmpgt (tgt := 14) X hf dX12_in_7 (by decide) (fun hf => ?_) (fun hf => ?_)
    · refine g_iconst (v := 0) X dX12_in_14 (by decide) ?_
      exact g_zreturn X (by cases hf; rfl) (by decide) (by decide) (by decide) dX12_in_15
    · refine g_iconst (v := 1) X dX12_in_10 (by decide) ?_
      refine g_goto (tgt := 15) X dX12_in_11 (by decide) ?_
      exact g_zreturn X (by cases hf; rfl) (by decide) (by decide) (by decide) dX12_in_15
def f_X12_isDay (a0 : Int32) (h : AH) : Option Int32 :=
  (f_X12_in a0 0 9999 h).bind fun v1 =>
  rZ v1
set_option maxRecDepth 20000 in
theorem m_X12_isDay {a0 : Int32} {h : AH} {w : Int32} (hf : f_X12_isDay a0 h = some w) : CT yX12_isDay wsX12_isDay (rmD 2 0 0) 0 0 [tI a0] h (some (tI w), h) := by
  refine CT.of (cc := cX12_isDay) (nL := 1) (ret := (some .boolean)) (by decide) rfl (by simp [lg_sl, vOf_cat, wOf]) ?_
  intro K X
  refine g_locs (lv' := [(0, tI a0)]) (fun q hq => hq) ?_
  unfold f_X12_isDay at hf
  refine g_iload_n X dX12_isDay_0 0 rfl ?_
  refine g_iconst (v := 0) X dX12_isDay_1 (by decide) ?_
  refine g_sipush (v := 9999) X dX12_isDay_2 (by decide) ?_
  refine g_callS (n := 3) (av := [tI a0, tI 0, tI 9999]) (rest := []) X hf (fun v1 => (some (tI v1), h)) (fun _ q => m_X12_in q) gX12_isDay_X12_in rfl (by decide +kernel) rfl (by decide) (by decide) rfl (Nat.le_of_ble_eq_true rfl) dX12_isDay_5 (fun v1 hf => ?_)
  exact g_zreturn2 X hf (by decide) (by decide) dX12_isDay_8
theorem in_X12_isWard_RX12 : ∀ w ∈ u_ws RX12 TX12 43, w ∈ wsX12_isWard := by decide +kernel
def f_X12_isWard (a0 : Option Nat) (a1 : Int32) (h : AH) : Option Int32 :=
  (gR 12 0 h a0).bind fun v1 =>
  (aI h v1 1).bind fun v2 =>
  (f_X12_in a1 0 (v2 - 1) h).bind fun v3 =>
  rZ v3
set_option maxRecDepth 20000 in
theorem m_X12_isWard {a0 : Option Nat} {a1 : Int32} {h : AH} {w : Int32} (hf : f_X12_isWard a0 a1 h = some w) : CT yX12_isWard wsX12_isWard (rmD 2 0 0) 0 0 [tR a0, tI a1] h (some (tI w), h) := by
  refine CT.of (cc := cX12_isWard) (nL := 2) (ret := (some .boolean)) (by decide) rfl (by simp [lg_sl, vOf_cat, wOf]) ?_
  intro K X
  refine g_locs (lv' := [(0, tR a0), (1, tI a1)]) (fun q hq => hq) ?_
  unfold f_X12_isWard at hf
  refine g_iload_n X dX12_isWard_0 1 rfl ?_
  refine g_iconst (v := 0) X dX12_isWard_1 (by decide) ?_
  refine g_aload_n X dX12_isWard_2 0 rfl ?_
  refine g_getR X hf (T := TX12) rfl (by decide) (by decide) in_X12_isWard_RX12 (by decide +kernel) rfl dX12_isWard_3 (fun v1 hf => ?_)
  refine g_iconst (v := 1) X dX12_isWard_6 (by decide) ?_
  refine g_iaload X hf dX12_isWard_7 (fun v2 hf => ?_)
  refine g_iconst (v := 1) X dX12_isWard_8 (by decide) ?_
  refine g_isub X dX12_isWard_9 ?_
  refine g_callS (n := 3) (av := [tI a1, tI 0, tI (v2 - 1)]) (rest := []) X hf (fun v3 => (some (tI v3), h)) (fun _ q => m_X12_in q) gX12_isWard_X12_in rfl (by decide +kernel) rfl (by decide) (by decide) rfl (Nat.le_of_ble_eq_true rfl) dX12_isWard_10 (fun v3 hf => ?_)
  exact g_zreturn2 X hf (by decide) (by decide) dX12_isWard_13
theorem in_X12_isMan_RX12 : ∀ w ∈ u_ws RX12 TX12 43, w ∈ wsX12_isMan := by decide +kernel
def f_X12_isMan (a0 : Option Nat) (a1 : Int32) (h : AH) : Option Int32 :=
  (gR 12 0 h a0).bind fun v1 =>
  (aI h v1 2).bind fun v2 =>
  (f_X12_in a1 0 (v2 - 1) h).bind fun v3 =>
  rZ v3
set_option maxRecDepth 20000 in
theorem m_X12_isMan {a0 : Option Nat} {a1 : Int32} {h : AH} {w : Int32} (hf : f_X12_isMan a0 a1 h = some w) : CT yX12_isMan wsX12_isMan (rmD 2 0 0) 0 0 [tR a0, tI a1] h (some (tI w), h) := by
  refine CT.of (cc := cX12_isMan) (nL := 2) (ret := (some .boolean)) (by decide) rfl (by simp [lg_sl, vOf_cat, wOf]) ?_
  intro K X
  refine g_locs (lv' := [(0, tR a0), (1, tI a1)]) (fun q hq => hq) ?_
  unfold f_X12_isMan at hf
  refine g_iload_n X dX12_isMan_0 1 rfl ?_
  refine g_iconst (v := 0) X dX12_isMan_1 (by decide) ?_
  refine g_aload_n X dX12_isMan_2 0 rfl ?_
  refine g_getR X hf (T := TX12) rfl (by decide) (by decide) in_X12_isMan_RX12 (by decide +kernel) rfl dX12_isMan_3 (fun v1 hf => ?_)
  refine g_iconst (v := 2) X dX12_isMan_6 (by decide) ?_
  refine g_iaload X hf dX12_isMan_7 (fun v2 hf => ?_)
  refine g_iconst (v := 1) X dX12_isMan_8 (by decide) ?_
  refine g_isub X dX12_isMan_9 ?_
  refine g_callS (n := 3) (av := [tI a1, tI 0, tI (v2 - 1)]) (rest := []) X hf (fun v3 => (some (tI v3), h)) (fun _ q => m_X12_in q) gX12_isMan_X12_in rfl (by decide +kernel) rfl (by decide) (by decide) rfl (Nat.le_of_ble_eq_true rfl) dX12_isMan_10 (fun v3 hf => ?_)
  exact g_zreturn2 X hf (by decide) (by decide) dX12_isMan_13
theorem in_X12_isSherd_RX12 : ∀ w ∈ u_ws RX12 TX12 43, w ∈ wsX12_isSherd := by decide +kernel
def f_X12_isSherd (a0 : Option Nat) (a1 : Int32) (h : AH) : Option Int32 :=
  (gR 12 0 h a0).bind fun v1 =>
  (aI h v1 5).bind fun v2 =>
  (f_X12_in a1 0 (v2 - 1) h).bind fun v3 =>
  rZ v3
set_option maxRecDepth 20000 in
theorem m_X12_isSherd {a0 : Option Nat} {a1 : Int32} {h : AH} {w : Int32} (hf : f_X12_isSherd a0 a1 h = some w) : CT yX12_isSherd wsX12_isSherd (rmD 2 0 0) 0 0 [tR a0, tI a1] h (some (tI w), h) := by
  refine CT.of (cc := cX12_isSherd) (nL := 2) (ret := (some .boolean)) (by decide) rfl (by simp [lg_sl, vOf_cat, wOf]) ?_
  intro K X
  refine g_locs (lv' := [(0, tR a0), (1, tI a1)]) (fun q hq => hq) ?_
  unfold f_X12_isSherd at hf
  refine g_iload_n X dX12_isSherd_0 1 rfl ?_
  refine g_iconst (v := 0) X dX12_isSherd_1 (by decide) ?_
  refine g_aload_n X dX12_isSherd_2 0 rfl ?_
  refine g_getR X hf (T := TX12) rfl (by decide) (by decide) in_X12_isSherd_RX12 (by decide +kernel) rfl dX12_isSherd_3 (fun v1 hf => ?_)
  refine g_iconst (v := 5) X dX12_isSherd_6 (by decide) ?_
  refine g_iaload X hf dX12_isSherd_7 (fun v2 hf => ?_)
  refine g_iconst (v := 1) X dX12_isSherd_8 (by decide) ?_
  refine g_isub X dX12_isSherd_9 ?_
  refine g_callS (n := 3) (av := [tI a1, tI 0, tI (v2 - 1)]) (rest := []) X hf (fun v3 => (some (tI v3), h)) (fun _ q => m_X12_in q) gX12_isSherd_X12_in rfl (by decide +kernel) rfl (by decide) (by decide) rfl (Nat.le_of_ble_eq_true rfl) dX12_isSherd_10 (fun v3 hf => ?_)
  exact g_zreturn2 X hf (by decide) (by decide) dX12_isSherd_13
def f_X12_isClub (a0 : Int32) (h : AH) : Option Int32 :=
  (f_X12_in a0 0 5 h).bind fun v1 =>
  rZ v1
set_option maxRecDepth 20000 in
theorem m_X12_isClub {a0 : Int32} {h : AH} {w : Int32} (hf : f_X12_isClub a0 h = some w) : CT yX12_isClub wsX12_isClub (rmD 2 0 0) 0 0 [tI a0] h (some (tI w), h) := by
  refine CT.of (cc := cX12_isClub) (nL := 1) (ret := (some .boolean)) (by decide) rfl (by simp [lg_sl, vOf_cat, wOf]) ?_
  intro K X
  refine g_locs (lv' := [(0, tI a0)]) (fun q hq => hq) ?_
  unfold f_X12_isClub at hf
  refine g_iload_n X dX12_isClub_0 0 rfl ?_
  refine g_iconst (v := 0) X dX12_isClub_1 (by decide) ?_
  refine g_iconst (v := 5) X dX12_isClub_2 (by decide) ?_
  refine g_callS (n := 3) (av := [tI a0, tI 0, tI 5]) (rest := []) X hf (fun v1 => (some (tI v1), h)) (fun _ q => m_X12_in q) gX12_isClub_X12_in rfl (by decide +kernel) rfl (by decide) (by decide) rfl (Nat.le_of_ble_eq_true rfl) dX12_isClub_3 (fun v1 hf => ?_)
  exact g_zreturn2 X hf (by decide) (by decide) dX12_isClub_6
def b_X12_isName_4  (h : AH) : Nat → Int32 → Int32 → Int32 → Option Int32
  | 0 => fun _ _ _ => none
  | n + 1 => fun x0 x1 x2 =>
    if 0 < x1 then
      if (iRem x1 27) = 0 then
        some 0
      else
        b_X12_isName_4 h n x0 (x1 / 27) (x2 + 1)
    else
      if 0 < x0 then
        if 6 < x2 then
          some 0
        else
          some 1
      else
        some 0
set_option maxRecDepth 20000 in
theorem w_X12_isName_4 {K : KT} {w : Int32} {h : AH}  (X : CX K cX12_isName RX12 wsX12_isName (some .boolean) "isName" (rmD 1 0 0) 3 0 0)  : ∀ (n : Nat) (x0 : Int32) (x1 : Int32) (x2 : Int32), b_X12_isName_4 h n x0 x1 x2 = some w → GG K (some (tI w), h) 0 0 4 [(0, tI x0), (1, tI x1), (2, tI x2)] [] h := by
  intro n
  induction n with
  | zero =>
    intro x0 x1 x2 hf
    cases (show none = some w from hf)
  | succ n ih =>
    intro x0 x1 x2 hf
    rw [b_X12_isName_4] at hf
    refine g_iload_n X dX12_isName_4 1 rfl ?_
    refine g_ifle (tgt := 28) X hf dX12_isName_5 (by decide) (fun hf => ?_) (fun hf => ?_)
    · refine g_iload_n X dX12_isName_8 1 rfl ?_
      refine g_bipush (v := 27) X dX12_isName_9 (by decide) ?_
      refine g_iremc X dX12_isName_11 (by decide) ?_
      refine g_ifne (tgt := 17) X hf dX12_isName_12 (by decide) (fun hf => ?_) (fun hf => ?_)
      · refine g_iconst (v := 0) X dX12_isName_15 (by decide) ?_
        exact g_zreturn X (by cases hf; rfl) (by decide) (by decide) (by decide) dX12_isName_16
      · refine g_iload_n X dX12_isName_17 1 rfl ?_
        refine g_bipush (v := 27) X dX12_isName_18 (by decide) ?_
        refine g_idivc X dX12_isName_20 (by decide) ?_
        refine g_istore_n (lv' := [(0, tI x0), (1, tI (x1 / 27)), (2, tI x2)]) X dX12_isName_21 (by decide) (in_pick [1, 0, 2] rfl) ?_
        refine g_iinc (v := (x2 + 1)) (lv' := [(0, tI x0), (1, tI (x1 / 27)), (2, tI (x2 + 1))]) X dX12_isName_22 2 rfl (by rfl) (by decide) (in_pick [1, 2, 0] rfl) ?_
        refine g_goto (tgt := 4) X dX12_isName_25 (by decide) ?_
        exact ih x0 (x1 / 27) (x2 + 1) hf
    · refine g_iload_n X dX12_isName_28 0 rfl ?_
      refine g_ifle (tgt := 42) X hf dX12_isName_29 (by decide) (fun hf => ?_) (fun hf => ?_)
      · refine g_iload_n X dX12_isName_32 2 rfl ?_
        refine g_bipush (v := 6) X dX12_isName_33 (by decide) ?_
        refine g_icmpgt (tgt := 42) X hf dX12_isName_35 (by decide) (fun hf => ?_) (fun hf => ?_)
        · refine g_iconst (v := 0) X dX12_isName_42 (by decide) ?_
          exact g_zreturn X (by cases hf; rfl) (by decide) (by decide) (by decide) dX12_isName_43
        · refine g_iconst (v := 1) X dX12_isName_38 (by decide) ?_
          refine g_goto (tgt := 43) X dX12_isName_39 (by decide) ?_
          exact g_zreturn X (by cases hf; rfl) (by decide) (by decide) (by decide) dX12_isName_43
      · refine g_iconst (v := 0) X dX12_isName_42 (by decide) ?_
        exact g_zreturn X (by cases hf; rfl) (by decide) (by decide) (by decide) dX12_isName_43
def f_X12_isName (a0 : Int32) (h : AH) : Option Int32 :=
  b_X12_isName_4 h FU a0 a0 0
set_option maxRecDepth 20000 in
theorem m_X12_isName {a0 : Int32} {h : AH} {w : Int32} (hf : f_X12_isName a0 h = some w) : CT yX12_isName wsX12_isName (rmD 1 0 0) 0 0 [tI a0] h (some (tI w), h) := by
  refine CT.of (cc := cX12_isName) (nL := 3) (ret := (some .boolean)) (by decide) rfl (by simp [lg_sl, vOf_cat, wOf]) ?_
  intro K X
  refine g_locs (lv' := [(0, tI a0)]) (fun q hq => hq) ?_
  unfold f_X12_isName at hf
  refine g_iload_n X dX12_isName_0 0 rfl ?_
  refine g_istore_n (lv' := [(0, tI a0), (1, tI a0)]) X dX12_isName_1 (by decide) (in_pick [1, 0] rfl) ?_
  refine g_iconst (v := 0) X dX12_isName_2 (by decide) ?_
  refine g_istore_n (lv' := [(0, tI a0), (1, tI a0), (2, tI 0)]) X dX12_isName_3 (by decide) (in_pick [1, 2, 0] rfl) ?_
  exact w_X12_isName_4 X FU a0 a0 0 hf
theorem in_X12_had_RX12 : ∀ w ∈ u_ws RX12 TX12 43, w ∈ wsX12_had := by decide +kernel
def f_X12_had (a0 : Option Nat) (a1 : Int32) (a2 : Int32) (a3 : Int32) (h : AH) : Option Int32 :=
  (gR 12 0 h a0).bind fun v1 =>
  (aI h v1 ((491 + (8 * a1)) + a2)).bind fun v2 =>
  if v2 < 0 then
    some 0
  else
    if a3 < v2 then
      some 0
    else
      some 1
set_option maxRecDepth 20000 in
theorem m_X12_had {a0 : Option Nat} {a1 : Int32} {a2 : Int32} {a3 : Int32} {h : AH} {w : Int32} (hf : f_X12_had a0 a1 a2 a3 h = some w) : CT yX12_had wsX12_had (rmD 1 0 0) 0 0 [tR a0, tI a1, tI a2, tI a3] h (some (tI w), h) := by
  refine CT.of (cc := cX12_had) (nL := 5) (ret := (some .boolean)) (by decide) rfl (by simp [lg_sl, vOf_cat, wOf]) ?_
  intro K X
  refine g_locs (lv' := [(0, tR a0), (1, tI a1), (2, tI a2), (3, tI a3)]) (fun q hq => hq) ?_
  unfold f_X12_had at hf
  refine g_aload_n X dX12_had_0 0 rfl ?_
  refine g_getR X hf (T := TX12) rfl (by decide) (by decide) in_X12_had_RX12 (by decide +kernel) rfl dX12_had_1 (fun v1 hf => ?_)
  refine g_sipush (v := 491) X dX12_had_4 (by decide) ?_
  refine g_bipush (v := 8) X dX12_had_7 (by decide) ?_
  refine g_iload_n X dX12_had_9 1 rfl ?_
  refine g_imul X dX12_had_10 ?_
  refine g_iadd X dX12_had_11 ?_
  refine g_iload_n X dX12_had_12 2 rfl ?_
  refine g_iadd X dX12_had_13 ?_
  refine g_iaload X hf dX12_had_14 (fun v2 hf => ?_)
  refine g_istore (lv' := [(0, tR a0), (1, tI a1), (2, tI a2), (3, tI a3), (4, tI v2)]) X dX12_had_15 (by decide) (in_pick [1, 2, 3, 4, 0] rfl) ?_
  refine g_iload X dX12_had_17 4 rfl ?_
  refine g_iflt (tgt := 32) X hf dX12_had_19 (by decide) (fun hf => ?_) (fun hf => ?_)
  · refine g_iconst (v := 0) X dX12_had_32 (by decide) ?_
    exact g_zreturn X (by cases hf; rfl) (by decide) (by decide) (by decide) dX12_had_33
  · refine g_iload X dX12_had_22 4 rfl ?_
    refine g_iload_n X dX12_had_24 3 rfl ?_
    refine g_icmpgt (tgt := 32) X hf dX12_had_25 (by decide) (fun hf => ?_) (fun hf => ?_)
    · refine g_iconst (v := 0) X dX12_had_32 (by decide) ?_
      exact g_zreturn X (by cases hf; rfl) (by decide) (by decide) (by decide) dX12_had_33
    · refine g_iconst (v := 1) X dX12_had_28 (by decide) ?_
      refine g_goto (tgt := 33) X dX12_had_29 (by decide) ?_
      exact g_zreturn X (by cases hf; rfl) (by decide) (by decide) (by decide) dX12_had_33
theorem in_X12_passes_RX12 : ∀ w ∈ u_ws RX12 TX12 43, w ∈ wsX12_passes := by decide +kernel
def b_X12_passes_195 (k9 : Option Nat → Int32 → Int32 → AH → Option AH) (k21 : Option Nat → Int32 → Int32 → Int32 → AH → Option AH) (x0 : Option Nat) (x1 : Int32) (x2 : Int32) (x3 : Int32) (s0 : Option Nat) (s1 : Int32) (s2 : Int32) (h : AH) : Option AH :=
  (sI h s0 s1 s2).bind fun h1 =>
  k21 x0 x1 x2 (x3 + 1) h1
set_option maxRecDepth 20000 in
theorem w_X12_passes_195 {K : KT} {w : AH} {k9 : Option Nat → Int32 → Int32 → AH → Option AH} {k21 : Option Nat → Int32 → Int32 → Int32 → AH → Option AH} (X : CX K cX12_passes RX12 wsX12_passes none "passes" (rmD 2 0 0) 7 0 0) (hk9 : ∀ (x0 : Option Nat) (x1 : Int32) (x2 : Int32) (h : AH), k9 x0 x1 x2 h = some w → GG K (none, w) 0 0 9 [(0, tR x0), (1, tI x1), (2, tI x2)] [] h) (hk21 : ∀ (x0 : Option Nat) (x1 : Int32) (x2 : Int32) (x3 : Int32) (h : AH), k21 x0 x1 x2 x3 h = some w → GG K (none, w) 0 0 21 [(0, tR x0), (1, tI x1), (2, tI x2), (3, tI x3)] [] h) (x0 : Option Nat) (x1 : Int32) (x2 : Int32) (x3 : Int32) (s0 : Option Nat) (s1 : Int32) (s2 : Int32) (h : AH) (hf : b_X12_passes_195 k9 k21 x0 x1 x2 x3 s0 s1 s2 h = some w) : GG K (none, w) 0 0 195 [(0, tR x0), (1, tI x1), (2, tI x2), (3, tI x3)] [tI s2, tI s1, tR s0] h := by
  unfold b_X12_passes_195 at hf
  refine g_iastore X hf dX12_passes_195 (fun h1 hf => ?_)
  refine g_iinc (v := (x3 + 1)) (lv' := [(0, tR x0), (1, tI x1), (2, tI x2), (3, tI (x3 + 1))]) X dX12_passes_196 3 rfl (by rfl) (by decide) (in_pick [1, 2, 3, 0] rfl) ?_
  refine g_goto (tgt := 21) X dX12_passes_199 (by decide) ?_
  exact hk21 x0 x1 x2 (x3 + 1) h1 hf
def b_X12_passes_188 (k9 : Option Nat → Int32 → Int32 → AH → Option AH) (k21 : Option Nat → Int32 → Int32 → Int32 → AH → Option AH) (x0 : Option Nat) (x1 : Int32) (x2 : Int32) (x3 : Int32) (x5 : Int32) (s0 : Option Nat) (s1 : Int32) (h : AH) : Option AH :=
  (gR 12 0 h x0).bind fun v1 =>
  (aI h v1 x5).bind fun v2 =>
  b_X12_passes_195 k9 k21 x0 x1 x2 x3 s0 s1 v2 h
set_option maxRecDepth 20000 in
theorem w_X12_passes_188 {K : KT} {w : AH} {k9 : Option Nat → Int32 → Int32 → AH → Option AH} {k21 : Option Nat → Int32 → Int32 → Int32 → AH → Option AH} (X : CX K cX12_passes RX12 wsX12_passes none "passes" (rmD 2 0 0) 7 0 0) (hk9 : ∀ (x0 : Option Nat) (x1 : Int32) (x2 : Int32) (h : AH), k9 x0 x1 x2 h = some w → GG K (none, w) 0 0 9 [(0, tR x0), (1, tI x1), (2, tI x2)] [] h) (hk21 : ∀ (x0 : Option Nat) (x1 : Int32) (x2 : Int32) (x3 : Int32) (h : AH), k21 x0 x1 x2 x3 h = some w → GG K (none, w) 0 0 21 [(0, tR x0), (1, tI x1), (2, tI x2), (3, tI x3)] [] h) (x0 : Option Nat) (x1 : Int32) (x2 : Int32) (x3 : Int32) (x5 : Int32) (s0 : Option Nat) (s1 : Int32) (h : AH) (hf : b_X12_passes_188 k9 k21 x0 x1 x2 x3 x5 s0 s1 h = some w) : GG K (none, w) 0 0 188 [(0, tR x0), (1, tI x1), (2, tI x2), (3, tI x3), (5, tI x5)] [tI s1, tR s0] h := by
  unfold b_X12_passes_188 at hf
  refine g_aload_n X dX12_passes_188 0 rfl ?_
  refine g_getR X hf (T := TX12) rfl (by decide) (by decide) in_X12_passes_RX12 (by decide +kernel) rfl dX12_passes_189 (fun v1 hf => ?_)
  refine g_iload X dX12_passes_192 4 rfl ?_
  refine g_iaload X hf dX12_passes_194 (fun v2 hf => ?_)
  refine g_locs (lv' := [(0, tR x0), (1, tI x1), (2, tI x2), (3, tI x3)]) (in_pick [0, 1, 2, 3] rfl) ?_
  exact w_X12_passes_195 X hk9 hk21 x0 x1 x2 x3 s0 s1 v2 h hf
def b_X12_passes_140 (k9 : Option Nat → Int32 → Int32 → AH → Option AH) (k21 : Option Nat → Int32 → Int32 → Int32 → AH → Option AH) (k37 : Option Nat → Int32 → Int32 → Int32 → Int32 → Int32 → AH → Option AH) (x0 : Option Nat) (x1 : Int32) (x2 : Int32) (x3 : Int32) (x5 : Int32) (s0 : Int32) (s1 : Int32) (h : AH) : Option AH :=
  k37 x0 x1 x2 x3 (s0 ||| s1) (x5 + 1) h
set_option maxRecDepth 20000 in
theorem w_X12_passes_140 {K : KT} {w : AH} {k9 : Option Nat → Int32 → Int32 → AH → Option AH} {k21 : Option Nat → Int32 → Int32 → Int32 → AH → Option AH} {k37 : Option Nat → Int32 → Int32 → Int32 → Int32 → Int32 → AH → Option AH} (X : CX K cX12_passes RX12 wsX12_passes none "passes" (rmD 2 0 0) 7 0 0) (hk9 : ∀ (x0 : Option Nat) (x1 : Int32) (x2 : Int32) (h : AH), k9 x0 x1 x2 h = some w → GG K (none, w) 0 0 9 [(0, tR x0), (1, tI x1), (2, tI x2)] [] h) (hk21 : ∀ (x0 : Option Nat) (x1 : Int32) (x2 : Int32) (x3 : Int32) (h : AH), k21 x0 x1 x2 x3 h = some w → GG K (none, w) 0 0 21 [(0, tR x0), (1, tI x1), (2, tI x2), (3, tI x3)] [] h) (hk37 : ∀ (x0 : Option Nat) (x1 : Int32) (x2 : Int32) (x3 : Int32) (x4 : Int32) (x5 : Int32) (h : AH), k37 x0 x1 x2 x3 x4 x5 h = some w → GG K (none, w) 0 0 37 [(0, tR x0), (1, tI x1), (2, tI x2), (3, tI x3), (4, tI x4), (5, tI x5)] [] h) (x0 : Option Nat) (x1 : Int32) (x2 : Int32) (x3 : Int32) (x5 : Int32) (s0 : Int32) (s1 : Int32) (h : AH) (hf : b_X12_passes_140 k9 k21 k37 x0 x1 x2 x3 x5 s0 s1 h = some w) : GG K (none, w) 0 0 140 [(0, tR x0), (1, tI x1), (2, tI x2), (3, tI x3), (5, tI x5)] [tI s1, tI s0] h := by
  unfold b_X12_passes_140 at hf
  refine g_ior X dX12_passes_140 ?_
  refine g_istore (lv' := [(0, tR x0), (1, tI x1), (2, tI x2), (3, tI x3), (4, tI (s0 ||| s1)), (5, tI x5)]) X dX12_passes_141 (by decide) (in_pick [1, 2, 3, 4, 0, 5] rfl) ?_
  refine g_iinc (v := (x5 + 1)) (lv' := [(0, tR x0), (1, tI x1), (2, tI x2), (3, tI x3), (4, tI (s0 ||| s1)), (5, tI (x5 + 1))]) X dX12_passes_143 5 rfl (by rfl) (by decide) (in_pick [1, 2, 3, 4, 5, 0] rfl) ?_
  refine g_goto (tgt := 37) X dX12_passes_146 (by decide) ?_
  exact hk37 x0 x1 x2 x3 (s0 ||| s1) (x5 + 1) h hf
def b_X12_passes_115 (k9 : Option Nat → Int32 → Int32 → AH → Option AH) (k21 : Option Nat → Int32 → Int32 → Int32 → AH → Option AH) (k37 : Option Nat → Int32 → Int32 → Int32 → Int32 → Int32 → AH → Option AH) (x0 : Option Nat) (x1 : Int32) (x2 : Int32) (x3 : Int32) (x4 : Int32) (x5 : Int32) (s0 : Int32) (h : AH) : Option AH :=
  if s0 = 0 then
    b_X12_passes_140 k9 k21 k37 x0 x1 x2 x3 x5 x4 0 h
  else
    (ck 12 h x0 (f_X12_had x0 x5 x2 x1 h)).bind fun v1 =>
    if v1 = 0 then
      b_X12_passes_140 k9 k21 k37 x0 x1 x2 x3 x5 x4 0 h
    else
      b_X12_passes_140 k9 k21 k37 x0 x1 x2 x3 x5 x4 1 h
set_option maxRecDepth 20000 in
theorem w_X12_passes_115 {K : KT} {w : AH} {k9 : Option Nat → Int32 → Int32 → AH → Option AH} {k21 : Option Nat → Int32 → Int32 → Int32 → AH → Option AH} {k37 : Option Nat → Int32 → Int32 → Int32 → Int32 → Int32 → AH → Option AH} (X : CX K cX12_passes RX12 wsX12_passes none "passes" (rmD 2 0 0) 7 0 0) (hk9 : ∀ (x0 : Option Nat) (x1 : Int32) (x2 : Int32) (h : AH), k9 x0 x1 x2 h = some w → GG K (none, w) 0 0 9 [(0, tR x0), (1, tI x1), (2, tI x2)] [] h) (hk21 : ∀ (x0 : Option Nat) (x1 : Int32) (x2 : Int32) (x3 : Int32) (h : AH), k21 x0 x1 x2 x3 h = some w → GG K (none, w) 0 0 21 [(0, tR x0), (1, tI x1), (2, tI x2), (3, tI x3)] [] h) (hk37 : ∀ (x0 : Option Nat) (x1 : Int32) (x2 : Int32) (x3 : Int32) (x4 : Int32) (x5 : Int32) (h : AH), k37 x0 x1 x2 x3 x4 x5 h = some w → GG K (none, w) 0 0 37 [(0, tR x0), (1, tI x1), (2, tI x2), (3, tI x3), (4, tI x4), (5, tI x5)] [] h) (x0 : Option Nat) (x1 : Int32) (x2 : Int32) (x3 : Int32) (x4 : Int32) (x5 : Int32) (s0 : Int32) (h : AH) (hf : b_X12_passes_115 k9 k21 k37 x0 x1 x2 x3 x4 x5 s0 h = some w) : GG K (none, w) 0 0 115 [(0, tR x0), (1, tI x1), (2, tI x2), (3, tI x3), (4, tI x4), (5, tI x5)] [tI s0] h := by
  unfold b_X12_passes_115 at hf
  refine g_istore (lv' := [(0, tR x0), (1, tI x1), (2, tI x2), (3, tI x3), (4, tI x4), (5, tI x5), (6, tI s0)]) X dX12_passes_115 (by decide) (in_pick [1, 2, 3, 4, 5, 6, 0] rfl) ?_
  refine g_iload X dX12_passes_117 4 rfl ?_
  refine g_iload X dX12_passes_119 6 rfl ?_
  refine g_ifeq (tgt := 139) X hf dX12_passes_121 (by decide) (fun hf => ?_) (fun hf => ?_)
  · refine g_iconst (v := 0) X dX12_passes_139 (by decide) ?_
    refine g_locs (lv' := [(0, tR x0), (1, tI x1), (2, tI x2), (3, tI x3), (5, tI x5)]) (in_pick [0, 1, 2, 3, 5] rfl) ?_
    exact w_X12_passes_140 X hk9 hk21 hk37 x0 x1 x2 x3 x5 x4 0 h hf
  · refine g_aload_n X dX12_passes_124 0 rfl ?_
    refine g_iload X dX12_passes_125 5 rfl ?_
    refine g_iload_n X dX12_passes_127 2 rfl ?_
    refine g_iload_n X dX12_passes_128 1 rfl ?_
    refine g_callV (n := 3) (av := [tI x5, tI x2, tI x1]) (rest := [tI x4]) (k := 12) X hf (fun v1 => (some (tI v1), h)) (fun _ q => m_X12_had q) gX12_passes_X12_had rfl (by decide +kernel) rfl (by decide) rfl (by decide) (by decide) rfl (Nat.le_of_ble_eq_true rfl) dX12_passes_129 (fun v1 hf => ?_)
    refine g_ifeq (tgt := 139) X hf dX12_passes_132 (by decide) (fun hf => ?_) (fun hf => ?_)
    · refine g_iconst (v := 0) X dX12_passes_139 (by decide) ?_
      refine g_locs (lv' := [(0, tR x0), (1, tI x1), (2, tI x2), (3, tI x3), (5, tI x5)]) (in_pick [0, 1, 2, 3, 5] rfl) ?_
      exact w_X12_passes_140 X hk9 hk21 hk37 x0 x1 x2 x3 x5 x4 0 h hf
    · refine g_iconst (v := 1) X dX12_passes_135 (by decide) ?_
      refine g_goto (tgt := 140) X dX12_passes_136 (by decide) ?_
      refine g_locs (lv' := [(0, tR x0), (1, tI x1), (2, tI x2), (3, tI x3), (5, tI x5)]) (in_pick [0, 1, 2, 3, 5] rfl) ?_
      exact w_X12_passes_140 X hk9 hk21 hk37 x0 x1 x2 x3 x5 x4 1 h hf
def b_X12_passes_37 (k9 : Option Nat → Int32 → Int32 → AH → Option AH) (k21 : Option Nat → Int32 → Int32 → Int32 → AH → Option AH)  : Nat → Option Nat → Int32 → Int32 → Int32 → Int32 → Int32 → AH → Option AH
  | 0 => fun _ _ _ _ _ _ _ => none
  | n + 1 => fun x0 x1 x2 x3 x4 x5 h =>
    (gR 12 0 h x0).bind fun v1 =>
    (aI h v1 2).bind fun v2 =>
    if x5 < v2 then
      (gR 12 0 h x0).bind fun v3 =>
      (aI h v3 (75 + x5)).bind fun v4 =>
      (gR 12 0 h x0).bind fun v5 =>
      (aI h v5 (75 + x3)).bind fun v6 =>
      if v4 = v6 then
        b_X12_passes_115 k9 k21 (b_X12_passes_37 k9 k21 n) x0 x1 x2 x3 x4 x5 1 h
      else
        if (iRem x1 3) = 0 then
          (gR 12 0 h x0).bind fun v7 =>
          (aI h v7 (91 + x3)).bind fun v8 =>
          if v8 < 0 then
            b_X12_passes_115 k9 k21 (b_X12_passes_37 k9 k21 n) x0 x1 x2 x3 x4 x5 0 h
          else
            (gR 12 0 h x0).bind fun v9 =>
            (aI h v9 (91 + x5)).bind fun v10 =>
            (gR 12 0 h x0).bind fun v11 =>
            (aI h v11 (91 + x3)).bind fun v12 =>
            if v10 = v12 then
              b_X12_passes_115 k9 k21 (b_X12_passes_37 k9 k21 n) x0 x1 x2 x3 x4 x5 1 h
            else
              b_X12_passes_115 k9 k21 (b_X12_passes_37 k9 k21 n) x0 x1 x2 x3 x4 x5 0 h
        else
          b_X12_passes_115 k9 k21 (b_X12_passes_37 k9 k21 n) x0 x1 x2 x3 x4 x5 0 h
    else
      (gR 12 0 h x0).bind fun v13 =>
      if x4 = 0 then
        b_X12_passes_188 k9 k21 x0 x1 x2 x3 ((491 + (8 * x3)) + x2) v13 ((491 + (8 * x3)) + x2) h
      else
        (gR 12 0 h x0).bind fun v14 =>
        (aI h v14 ((491 + (8 * x3)) + x2)).bind fun v15 =>
        if v15 < 0 then
          b_X12_passes_195 k9 k21 x0 x1 x2 x3 v13 ((491 + (8 * x3)) + x2) (x1 + 1) h
        else
          b_X12_passes_188 k9 k21 x0 x1 x2 x3 ((491 + (8 * x3)) + x2) v13 ((491 + (8 * x3)) + x2) h
set_option maxRecDepth 20000 in
theorem w_X12_passes_37 {K : KT} {w : AH} {k9 : Option Nat → Int32 → Int32 → AH → Option AH} {k21 : Option Nat → Int32 → Int32 → Int32 → AH → Option AH} (X : CX K cX12_passes RX12 wsX12_passes none "passes" (rmD 2 0 0) 7 0 0) (hk9 : ∀ (x0 : Option Nat) (x1 : Int32) (x2 : Int32) (h : AH), k9 x0 x1 x2 h = some w → GG K (none, w) 0 0 9 [(0, tR x0), (1, tI x1), (2, tI x2)] [] h) (hk21 : ∀ (x0 : Option Nat) (x1 : Int32) (x2 : Int32) (x3 : Int32) (h : AH), k21 x0 x1 x2 x3 h = some w → GG K (none, w) 0 0 21 [(0, tR x0), (1, tI x1), (2, tI x2), (3, tI x3)] [] h) : ∀ (n : Nat) (x0 : Option Nat) (x1 : Int32) (x2 : Int32) (x3 : Int32) (x4 : Int32) (x5 : Int32) (h : AH), b_X12_passes_37 k9 k21 n x0 x1 x2 x3 x4 x5 h = some w → GG K (none, w) 0 0 37 [(0, tR x0), (1, tI x1), (2, tI x2), (3, tI x3), (4, tI x4), (5, tI x5)] [] h := by
  intro n
  induction n with
  | zero =>
    intro x0 x1 x2 x3 x4 x5 h hf
    cases (show none = some w from hf)
  | succ n ih =>
    intro x0 x1 x2 x3 x4 x5 h hf
    rw [b_X12_passes_37] at hf
    refine g_iload X dX12_passes_37 5 rfl ?_
    refine g_aload_n X dX12_passes_39 0 rfl ?_
    refine g_getR X hf (T := TX12) rfl (by decide) (by decide) in_X12_passes_RX12 (by decide +kernel) rfl dX12_passes_40 (fun v1 hf => ?_)
    refine g_iconst (v := 2) X dX12_passes_43 (by decide) ?_
    refine g_iaload X hf dX12_passes_44 (fun v2 hf => ?_)
    refine g_icmpge (tgt := 149) X hf dX12_passes_45 (by decide) (fun hf => ?_) (fun hf => ?_)
    · refine g_aload_n X dX12_passes_48 0 rfl ?_
      refine g_getR X hf (T := TX12) rfl (by decide) (by decide) in_X12_passes_RX12 (by decide +kernel) rfl dX12_passes_49 (fun v3 hf => ?_)
      refine g_bipush (v := 75) X dX12_passes_52 (by decide) ?_
      refine g_iload X dX12_passes_54 5 rfl ?_
      refine g_iadd X dX12_passes_56 ?_
      refine g_iaload X hf dX12_passes_57 (fun v4 hf => ?_)
      refine g_aload_n X dX12_passes_58 0 rfl ?_
      refine g_getR X hf (T := TX12) rfl (by decide) (by decide) in_X12_passes_RX12 (by decide +kernel) rfl dX12_passes_59 (fun v5 hf => ?_)
      refine g_bipush (v := 75) X dX12_passes_62 (by decide) ?_
      refine g_iload_n X dX12_passes_64 3 rfl ?_
      refine g_iadd X dX12_passes_65 ?_
      refine g_iaload X hf dX12_passes_66 (fun v6 hf => ?_)
      refine g_icmpeq (tgt := 110) X hf dX12_passes_67 (by decide) (fun hf => ?_) (fun hf => ?_)
      · refine g_iconst (v := 1) X dX12_passes_110 (by decide) ?_
        refine g_goto (tgt := 115) X dX12_passes_111 (by decide) ?_
        exact w_X12_passes_115 X hk9 hk21 ih x0 x1 x2 x3 x4 x5 1 h hf
      · refine g_iload_n X dX12_passes_70 1 rfl ?_
        refine g_iconst (v := 3) X dX12_passes_71 (by decide) ?_
        refine g_iremc X dX12_passes_72 (by decide) ?_
        refine g_ifne (tgt := 114) X hf dX12_passes_73 (by decide) (fun hf => ?_) (fun hf => ?_)
        · refine g_aload_n X dX12_passes_76 0 rfl ?_
          refine g_getR X hf (T := TX12) rfl (by decide) (by decide) in_X12_passes_RX12 (by decide +kernel) rfl dX12_passes_77 (fun v7 hf => ?_)
          refine g_bipush (v := 91) X dX12_passes_80 (by decide) ?_
          refine g_iload_n X dX12_passes_82 3 rfl ?_
          refine g_iadd X dX12_passes_83 ?_
          refine g_iaload X hf dX12_passes_84 (fun v8 hf => ?_)
          refine g_iflt (tgt := 114) X hf dX12_passes_85 (by decide) (fun hf => ?_) (fun hf => ?_)
          · refine g_iconst (v := 0) X dX12_passes_114 (by decide) ?_
            exact w_X12_passes_115 X hk9 hk21 ih x0 x1 x2 x3 x4 x5 0 h hf
          · refine g_aload_n X dX12_passes_88 0 rfl ?_
            refine g_getR X hf (T := TX12) rfl (by decide) (by decide) in_X12_passes_RX12 (by decide +kernel) rfl dX12_passes_89 (fun v9 hf => ?_)
            refine g_bipush (v := 91) X dX12_passes_92 (by decide) ?_
            refine g_iload X dX12_passes_94 5 rfl ?_
            refine g_iadd X dX12_passes_96 ?_
            refine g_iaload X hf dX12_passes_97 (fun v10 hf => ?_)
            refine g_aload_n X dX12_passes_98 0 rfl ?_
            refine g_getR X hf (T := TX12) rfl (by decide) (by decide) in_X12_passes_RX12 (by decide +kernel) rfl dX12_passes_99 (fun v11 hf => ?_)
            refine g_bipush (v := 91) X dX12_passes_102 (by decide) ?_
            refine g_iload_n X dX12_passes_104 3 rfl ?_
            refine g_iadd X dX12_passes_105 ?_
            refine g_iaload X hf dX12_passes_106 (fun v12 hf => ?_)
            refine g_icmpne (tgt := 114) X hf dX12_passes_107 (by decide) (fun hf => ?_) (fun hf => ?_)
            · refine g_iconst (v := 1) X dX12_passes_110 (by decide) ?_
              refine g_goto (tgt := 115) X dX12_passes_111 (by decide) ?_
              exact w_X12_passes_115 X hk9 hk21 ih x0 x1 x2 x3 x4 x5 1 h hf
            · refine g_iconst (v := 0) X dX12_passes_114 (by decide) ?_
              exact w_X12_passes_115 X hk9 hk21 ih x0 x1 x2 x3 x4 x5 0 h hf
        · refine g_iconst (v := 0) X dX12_passes_114 (by decide) ?_
          exact w_X12_passes_115 X hk9 hk21 ih x0 x1 x2 x3 x4 x5 0 h hf
    · refine g_sipush (v := 491) X dX12_passes_149 (by decide) ?_
      refine g_bipush (v := 8) X dX12_passes_152 (by decide) ?_
      refine g_iload_n X dX12_passes_154 3 rfl ?_
      refine g_imul X dX12_passes_155 ?_
      refine g_iadd X dX12_passes_156 ?_
      refine g_iload_n X dX12_passes_157 2 rfl ?_
      refine g_iadd X dX12_passes_158 ?_
      refine g_istore (lv' := [(0, tR x0), (1, tI x1), (2, tI x2), (3, tI x3), (4, tI x4), (5, tI ((491 + (8 * x3)) + x2))]) X dX12_passes_159 (by decide) (in_pick [1, 2, 3, 4, 5, 0] rfl) ?_
      refine g_aload_n X dX12_passes_161 0 rfl ?_
      refine g_getR X hf (T := TX12) rfl (by decide) (by decide) in_X12_passes_RX12 (by decide +kernel) rfl dX12_passes_162 (fun v13 hf => ?_)
      refine g_iload X dX12_passes_165 5 rfl ?_
      refine g_iload X dX12_passes_167 4 rfl ?_
      refine g_ifeq (tgt := 188) X hf dX12_passes_169 (by decide) (fun hf => ?_) (fun hf => ?_)
      · refine g_locs (lv' := [(0, tR x0), (1, tI x1), (2, tI x2), (3, tI x3), (5, tI ((491 + (8 * x3)) + x2))]) (in_pick [0, 1, 2, 3, 5] rfl) ?_
        exact w_X12_passes_188 X hk9 hk21 x0 x1 x2 x3 ((491 + (8 * x3)) + x2) v13 ((491 + (8 * x3)) + x2) h hf
      · refine g_aload_n X dX12_passes_172 0 rfl ?_
        refine g_getR X hf (T := TX12) rfl (by decide) (by decide) in_X12_passes_RX12 (by decide +kernel) rfl dX12_passes_173 (fun v14 hf => ?_)
        refine g_iload X dX12_passes_176 5 rfl ?_
        refine g_iaload X hf dX12_passes_178 (fun v15 hf => ?_)
        refine g_ifge (tgt := 188) X hf dX12_passes_179 (by decide) (fun hf => ?_) (fun hf => ?_)
        · refine g_iload_n X dX12_passes_182 1 rfl ?_
          refine g_iconst (v := 1) X dX12_passes_183 (by decide) ?_
          refine g_iadd X dX12_passes_184 ?_
          refine g_goto (tgt := 195) X dX12_passes_185 (by decide) ?_
          refine g_locs (lv' := [(0, tR x0), (1, tI x1), (2, tI x2), (3, tI x3)]) (in_pick [0, 1, 2, 3] rfl) ?_
          exact w_X12_passes_195 X hk9 hk21 x0 x1 x2 x3 v13 ((491 + (8 * x3)) + x2) (x1 + 1) h hf
        · refine g_locs (lv' := [(0, tR x0), (1, tI x1), (2, tI x2), (3, tI x3), (5, tI ((491 + (8 * x3)) + x2))]) (in_pick [0, 1, 2, 3, 5] rfl) ?_
          exact w_X12_passes_188 X hk9 hk21 x0 x1 x2 x3 ((491 + (8 * x3)) + x2) v13 ((491 + (8 * x3)) + x2) h hf
def b_X12_passes_21 (k9 : Option Nat → Int32 → Int32 → AH → Option AH)  : Nat → Option Nat → Int32 → Int32 → Int32 → AH → Option AH
  | 0 => fun _ _ _ _ _ => none
  | n + 1 => fun x0 x1 x2 x3 h =>
    (gR 12 0 h x0).bind fun v1 =>
    (aI h v1 2).bind fun v2 =>
    if x3 < v2 then
      b_X12_passes_37 k9 (b_X12_passes_21 k9 n) FU x0 x1 x2 x3 0 0 h
    else
      k9 x0 x1 (x2 + 1) h
set_option maxRecDepth 20000 in
theorem w_X12_passes_21 {K : KT} {w : AH} {k9 : Option Nat → Int32 → Int32 → AH → Option AH} (X : CX K cX12_passes RX12 wsX12_passes none "passes" (rmD 2 0 0) 7 0 0) (hk9 : ∀ (x0 : Option Nat) (x1 : Int32) (x2 : Int32) (h : AH), k9 x0 x1 x2 h = some w → GG K (none, w) 0 0 9 [(0, tR x0), (1, tI x1), (2, tI x2)] [] h) : ∀ (n : Nat) (x0 : Option Nat) (x1 : Int32) (x2 : Int32) (x3 : Int32) (h : AH), b_X12_passes_21 k9 n x0 x1 x2 x3 h = some w → GG K (none, w) 0 0 21 [(0, tR x0), (1, tI x1), (2, tI x2), (3, tI x3)] [] h := by
  intro n
  induction n with
  | zero =>
    intro x0 x1 x2 x3 h hf
    cases (show none = some w from hf)
  | succ n ih =>
    intro x0 x1 x2 x3 h hf
    rw [b_X12_passes_21] at hf
    refine g_iload_n X dX12_passes_21 3 rfl ?_
    refine g_aload_n X dX12_passes_22 0 rfl ?_
    refine g_getR X hf (T := TX12) rfl (by decide) (by decide) in_X12_passes_RX12 (by decide +kernel) rfl dX12_passes_23 (fun v1 hf => ?_)
    refine g_iconst (v := 2) X dX12_passes_26 (by decide) ?_
    refine g_iaload X hf dX12_passes_27 (fun v2 hf => ?_)
    refine g_icmpge (tgt := 202) X hf dX12_passes_28 (by decide) (fun hf => ?_) (fun hf => ?_)
    · refine g_iconst (v := 0) X dX12_passes_31 (by decide) ?_
      refine g_istore (lv' := [(0, tR x0), (1, tI x1), (2, tI x2), (3, tI x3), (4, tI 0)]) X dX12_passes_32 (by decide) (in_pick [1, 2, 3, 4, 0] rfl) ?_
      refine g_iconst (v := 0) X dX12_passes_34 (by decide) ?_
      refine g_istore (lv' := [(0, tR x0), (1, tI x1), (2, tI x2), (3, tI x3), (4, tI 0), (5, tI 0)]) X dX12_passes_35 (by decide) (in_pick [1, 2, 3, 4, 5, 0] rfl) ?_
      exact w_X12_passes_37 X hk9 ih FU x0 x1 x2 x3 0 0 h hf
    · refine g_iinc (v := (x2 + 1)) (lv' := [(0, tR x0), (1, tI x1), (2, tI (x2 + 1)), (3, tI x3)]) X dX12_passes_202 2 rfl (by rfl) (by decide) (in_pick [1, 2, 0, 3] rfl) ?_
      refine g_goto (tgt := 9) X dX12_passes_205 (by decide) ?_
      refine g_locs (lv' := [(0, tR x0), (1, tI x1), (2, tI (x2 + 1))]) (in_pick [0, 1, 2] rfl) ?_
      exact hk9 x0 x1 (x2 + 1) h hf
def b_X12_passes_9   : Nat → Option Nat → Int32 → Int32 → AH → Option AH
  | 0 => fun _ _ _ _ => none
  | n + 1 => fun x0 x1 x2 h =>
    (gR 12 0 h x0).bind fun v1 =>
    (aI h v1 3).bind fun v2 =>
    if x2 < v2 then
      b_X12_passes_21 (b_X12_passes_9 n) FU x0 x1 x2 0 h
    else
      (gR 12 0 h x0).bind fun v3 =>
      (aI h v3 0).bind fun v4 =>
      (sI h v3 0 (v4 + 1)).bind fun h5 =>
      some h5
set_option maxRecDepth 20000 in
theorem w_X12_passes_9 {K : KT} {w : AH}  (X : CX K cX12_passes RX12 wsX12_passes none "passes" (rmD 2 0 0) 7 0 0)  : ∀ (n : Nat) (x0 : Option Nat) (x1 : Int32) (x2 : Int32) (h : AH), b_X12_passes_9 n x0 x1 x2 h = some w → GG K (none, w) 0 0 9 [(0, tR x0), (1, tI x1), (2, tI x2)] [] h := by
  intro n
  induction n with
  | zero =>
    intro x0 x1 x2 h hf
    cases (show none = some w from hf)
  | succ n ih =>
    intro x0 x1 x2 h hf
    rw [b_X12_passes_9] at hf
    refine g_iload_n X dX12_passes_9 2 rfl ?_
    refine g_aload_n X dX12_passes_10 0 rfl ?_
    refine g_getR X hf (T := TX12) rfl (by decide) (by decide) in_X12_passes_RX12 (by decide +kernel) rfl dX12_passes_11 (fun v1 hf => ?_)
    refine g_iconst (v := 3) X dX12_passes_14 (by decide) ?_
    refine g_iaload X hf dX12_passes_15 (fun v2 hf => ?_)
    refine g_icmpge (tgt := 208) X hf dX12_passes_16 (by decide) (fun hf => ?_) (fun hf => ?_)
    · refine g_iconst (v := 0) X dX12_passes_19 (by decide) ?_
      refine g_istore_n (lv' := [(0, tR x0), (1, tI x1), (2, tI x2), (3, tI 0)]) X dX12_passes_20 (by decide) (in_pick [1, 2, 3, 0] rfl) ?_
      exact w_X12_passes_21 X ih FU x0 x1 x2 0 h hf
    · refine g_aload_n X dX12_passes_208 0 rfl ?_
      refine g_getR X hf (T := TX12) rfl (by decide) (by decide) in_X12_passes_RX12 (by decide +kernel) rfl dX12_passes_209 (fun v3 hf => ?_)
      refine g_iconst (v := 0) X dX12_passes_212 (by decide) ?_
      refine g_dup2 X dX12_passes_213 rfl rfl ?_
      refine g_iaload X hf dX12_passes_214 (fun v4 hf => ?_)
      refine g_iconst (v := 1) X dX12_passes_215 (by decide) ?_
      refine g_iadd X dX12_passes_216 ?_
      refine g_iastore X hf dX12_passes_217 (fun h5 hf => ?_)
      exact g_vreturn X (by cases hf; rfl) (by decide) (by decide) dX12_passes_218
def f_X12_passes (a0 : Option Nat) (h : AH) : Option AH :=
  (gR 12 0 h a0).bind fun v1 =>
  (aI h v1 0).bind fun v2 =>
  b_X12_passes_9 FU a0 v2 0 h
set_option maxRecDepth 20000 in
theorem m_X12_passes {a0 : Option Nat} {h : AH} {w : AH} (hf : f_X12_passes a0 h = some w) : CT yX12_passes wsX12_passes (rmD 2 0 0) 0 0 [tR a0] h (none, w) := by
  refine CT.of (cc := cX12_passes) (nL := 7) (ret := none) (by decide) rfl (by simp [lg_sl, vOf_cat, wOf]) ?_
  intro K X
  refine g_locs (lv' := [(0, tR a0)]) (fun q hq => hq) ?_
  unfold f_X12_passes at hf
  refine g_aload_n X dX12_passes_0 0 rfl ?_
  refine g_getR X hf (T := TX12) rfl (by decide) (by decide) in_X12_passes_RX12 (by decide +kernel) rfl dX12_passes_1 (fun v1 hf => ?_)
  refine g_iconst (v := 0) X dX12_passes_4 (by decide) ?_
  refine g_iaload X hf dX12_passes_5 (fun v2 hf => ?_)
  refine g_istore_n (lv' := [(0, tR a0), (1, tI v2)]) X dX12_passes_6 (by decide) (in_pick [1, 0] rfl) ?_
  refine g_iconst (v := 0) X dX12_passes_7 (by decide) ?_
  refine g_istore_n (lv' := [(0, tR a0), (1, tI v2), (2, tI 0)]) X dX12_passes_8 (by decide) (in_pick [1, 2, 0] rfl) ?_
  exact w_X12_passes_9 X FU a0 v2 0 h hf
theorem in_X12_days_RX12 : ∀ w ∈ u_ws RX12 TX12 43, w ∈ wsX12_days := by decide +kernel
def b_X12_days_32   : Nat → Option Nat → Int32 → Int32 → AH → Option (Int32 × AH)
  | 0 => fun _ _ _ _ => none
  | n + 1 => fun x0 x1 x2 h =>
    if x2 < x1 then
      (ck 12 h x0 (f_X12_passes x0 h)).bind fun h1 =>
      b_X12_days_32 n x0 x1 (x2 + 1) h1
    else
      (gR 12 0 h x0).bind fun v2 =>
      (aI h v2 0).bind fun v3 =>
      some (v3, h)
set_option maxRecDepth 20000 in
theorem w_X12_days_32 {K : KT} {w : (Int32 × AH)}  (X : CX K cX12_days RX12 wsX12_days (some .int) "days" (rmD 3 0 0) 3 0 0)  : ∀ (n : Nat) (x0 : Option Nat) (x1 : Int32) (x2 : Int32) (h : AH), b_X12_days_32 n x0 x1 x2 h = some w → GG K (some (tI w.1), w.2) 0 0 32 [(0, tR x0), (1, tI x1), (2, tI x2)] [] h := by
  intro n
  induction n with
  | zero =>
    intro x0 x1 x2 h hf
    cases (show none = some w from hf)
  | succ n ih =>
    intro x0 x1 x2 h hf
    rw [b_X12_days_32] at hf
    refine g_iload_n X dX12_days_32 2 rfl ?_
    refine g_iload_n X dX12_days_33 1 rfl ?_
    refine g_icmpge (tgt := 47) X hf dX12_days_34 (by decide) (fun hf => ?_) (fun hf => ?_)
    · refine g_aload_n X dX12_days_37 0 rfl ?_
      refine g_callV (n := 0) (av := []) (rest := []) (k := 12) X hf (fun h1 => (none, h1)) (fun _ q => m_X12_passes q) gX12_days_X12_passes rfl (by decide +kernel) rfl (by decide) rfl (by decide) (by decide) rfl (Nat.le_of_ble_eq_true rfl) dX12_days_38 (fun h1 hf => ?_)
      refine g_iinc (v := (x2 + 1)) (lv' := [(0, tR x0), (1, tI x1), (2, tI (x2 + 1))]) X dX12_days_41 2 rfl (by rfl) (by decide) (in_pick [1, 2, 0] rfl) ?_
      refine g_goto (tgt := 32) X dX12_days_44 (by decide) ?_
      exact ih x0 x1 (x2 + 1) h1 hf
    · refine g_aload_n X dX12_days_47 0 rfl ?_
      refine g_getR X hf (T := TX12) rfl (by decide) (by decide) in_X12_days_RX12 (by decide +kernel) rfl dX12_days_48 (fun v2 hf => ?_)
      refine g_iconst (v := 0) X dX12_days_51 (by decide) ?_
      refine g_iaload X hf dX12_days_52 (fun v3 hf => ?_)
      exact g_ireturn X (by cases hf; rfl) (by decide) (by decide) dX12_days_53
def f_X12_days (a0 : Option Nat) (a1 : Int32) (h : AH) : Option (Int32 × AH) :=
  (f_X12_in a1 1 400 h).bind fun v1 =>
  if v1 = 0 then
    some ((-1), h)
  else
    (gR 12 0 h a0).bind fun v2 =>
    (aI h v2 0).bind fun v3 =>
    if 9999 < (v3 + a1) then
      some ((-4), h)
    else
      b_X12_days_32 FU a0 a1 0 h
set_option maxRecDepth 20000 in
theorem m_X12_days {a0 : Option Nat} {a1 : Int32} {h : AH} {w : (Int32 × AH)} (hf : f_X12_days a0 a1 h = some w) : CT yX12_days wsX12_days (rmD 3 0 0) 0 0 [tR a0, tI a1] h (some (tI w.1), w.2) := by
  refine CT.of (cc := cX12_days) (nL := 3) (ret := (some .int)) (by decide) rfl (by simp [lg_sl, vOf_cat, wOf]) ?_
  intro K X
  refine g_locs (lv' := [(0, tR a0), (1, tI a1)]) (fun q hq => hq) ?_
  unfold f_X12_days at hf
  refine g_iload_n X dX12_days_0 1 rfl ?_
  refine g_iconst (v := 1) X dX12_days_1 (by decide) ?_
  refine g_sipush (v := 400) X dX12_days_2 (by decide) ?_
  refine g_callS (n := 3) (av := [tI a1, tI 1, tI 400]) (rest := []) X hf (fun v1 => (some (tI v1), h)) (fun _ q => m_X12_in q) gX12_days_X12_in rfl (by decide +kernel) rfl (by decide) (by decide) rfl (Nat.le_of_ble_eq_true rfl) dX12_days_5 (fun v1 hf => ?_)
  refine g_ifne (tgt := 13) X hf dX12_days_8 (by decide) (fun hf => ?_) (fun hf => ?_)
  · refine g_iconst (v := (-1)) X dX12_days_11 (by decide) ?_
    exact g_ireturn X (by cases hf; rfl) (by decide) (by decide) dX12_days_12
  · refine g_aload_n X dX12_days_13 0 rfl ?_
    refine g_getR X hf (T := TX12) rfl (by decide) (by decide) in_X12_days_RX12 (by decide +kernel) rfl dX12_days_14 (fun v2 hf => ?_)
    refine g_iconst (v := 0) X dX12_days_17 (by decide) ?_
    refine g_iaload X hf dX12_days_18 (fun v3 hf => ?_)
    refine g_iload_n X dX12_days_19 1 rfl ?_
    refine g_iadd X dX12_days_20 ?_
    refine g_sipush (v := 9999) X dX12_days_21 (by decide) ?_
    refine g_icmple (tgt := 30) X hf dX12_days_24 (by decide) (fun hf => ?_) (fun hf => ?_)
    · refine g_bipush (v := (-4)) X dX12_days_27 (by decide) ?_
      exact g_ireturn X (by cases hf; rfl) (by decide) (by decide) dX12_days_29
    · refine g_iconst (v := 0) X dX12_days_30 (by decide) ?_
      refine g_istore_n (lv' := [(0, tR a0), (1, tI a1), (2, tI 0)]) X dX12_days_31 (by decide) (in_pick [1, 2, 0] rfl) ?_
      exact w_X12_days_32 X FU a0 a1 0 h hf
theorem in_X12_isWet_RX12 : ∀ w ∈ u_ws RX12 TX12 43, w ∈ wsX12_isWet := by decide +kernel
def b_X12_isWet_2  (h : AH) : Nat → Option Nat → Int32 → Int32 → Option Int32
  | 0 => fun _ _ _ => none
  | n + 1 => fun x0 x1 x2 =>
    (gR 12 0 h x0).bind fun v1 =>
    (aI h v1 6).bind fun v2 =>
    if x2 < v2 then
      (gR 12 0 h x0).bind fun v3 =>
      (aI h v3 (55 + x2)).bind fun v4 =>
      if v4 = x1 then
        some 1
      else
        b_X12_isWet_2 h n x0 x1 (x2 + 1)
    else
      some 0
set_option maxRecDepth 20000 in
theorem w_X12_isWet_2 {K : KT} {w : Int32} {h : AH}  (X : CX K cX12_isWet RX12 wsX12_isWet (some .boolean) "isWet" (rmD 1 0 0) 3 0 0)  : ∀ (n : Nat) (x0 : Option Nat) (x1 : Int32) (x2 : Int32), b_X12_isWet_2 h n x0 x1 x2 = some w → GG K (some (tI w), h) 0 0 2 [(0, tR x0), (1, tI x1), (2, tI x2)] [] h := by
  intro n
  induction n with
  | zero =>
    intro x0 x1 x2 hf
    cases (show none = some w from hf)
  | succ n ih =>
    intro x0 x1 x2 hf
    rw [b_X12_isWet_2] at hf
    refine g_iload_n X dX12_isWet_2 2 rfl ?_
    refine g_aload_n X dX12_isWet_3 0 rfl ?_
    refine g_getR X hf (T := TX12) rfl (by decide) (by decide) in_X12_isWet_RX12 (by decide +kernel) rfl dX12_isWet_4 (fun v1 hf => ?_)
    refine g_bipush (v := 6) X dX12_isWet_7 (by decide) ?_
    refine g_iaload X hf dX12_isWet_9 (fun v2 hf => ?_)
    refine g_icmpge (tgt := 34) X hf dX12_isWet_10 (by decide) (fun hf => ?_) (fun hf => ?_)
    · refine g_aload_n X dX12_isWet_13 0 rfl ?_
      refine g_getR X hf (T := TX12) rfl (by decide) (by decide) in_X12_isWet_RX12 (by decide +kernel) rfl dX12_isWet_14 (fun v3 hf => ?_)
      refine g_bipush (v := 55) X dX12_isWet_17 (by decide) ?_
      refine g_iload_n X dX12_isWet_19 2 rfl ?_
      refine g_iadd X dX12_isWet_20 ?_
      refine g_iaload X hf dX12_isWet_21 (fun v4 hf => ?_)
      refine g_iload_n X dX12_isWet_22 1 rfl ?_
      refine g_icmpne (tgt := 28) X hf dX12_isWet_23 (by decide) (fun hf => ?_) (fun hf => ?_)
      · refine g_iconst (v := 1) X dX12_isWet_26 (by decide) ?_
        exact g_zreturn X (by cases hf; rfl) (by decide) (by decide) (by decide) dX12_isWet_27
      · refine g_iinc (v := (x2 + 1)) (lv' := [(0, tR x0), (1, tI x1), (2, tI (x2 + 1))]) X dX12_isWet_28 2 rfl (by rfl) (by decide) (in_pick [1, 2, 0] rfl) ?_
        refine g_goto (tgt := 2) X dX12_isWet_31 (by decide) ?_
        exact ih x0 x1 (x2 + 1) hf
    · refine g_iconst (v := 0) X dX12_isWet_34 (by decide) ?_
      exact g_zreturn X (by cases hf; rfl) (by decide) (by decide) (by decide) dX12_isWet_35
def f_X12_isWet (a0 : Option Nat) (a1 : Int32) (h : AH) : Option Int32 :=
  b_X12_isWet_2 h FU a0 a1 0
set_option maxRecDepth 20000 in
theorem m_X12_isWet {a0 : Option Nat} {a1 : Int32} {h : AH} {w : Int32} (hf : f_X12_isWet a0 a1 h = some w) : CT yX12_isWet wsX12_isWet (rmD 1 0 0) 0 0 [tR a0, tI a1] h (some (tI w), h) := by
  refine CT.of (cc := cX12_isWet) (nL := 3) (ret := (some .boolean)) (by decide) rfl (by simp [lg_sl, vOf_cat, wOf]) ?_
  intro K X
  refine g_locs (lv' := [(0, tR a0), (1, tI a1)]) (fun q hq => hq) ?_
  unfold f_X12_isWet at hf
  refine g_iconst (v := 0) X dX12_isWet_0 (by decide) ?_
  refine g_istore_n (lv' := [(0, tR a0), (1, tI a1), (2, tI 0)]) X dX12_isWet_1 (by decide) (in_pick [1, 2, 0] rfl) ?_
  exact w_X12_isWet_2 X FU a0 a1 0 hf
theorem in_X12_dreadOf_RX12 : ∀ w ∈ u_ws RX12 TX12 43, w ∈ wsX12_dreadOf := by decide +kernel
def b_X12_dreadOf_74 (k20 : Option Nat → Int32 → Int32 → Int32 → Int32 → Int32 → Option Int32) (h : AH) (x0 : Option Nat) (x1 : Int32) (x2 : Int32) (x3 : Int32) (x5 : Int32) (s0 : Int32) (s1 : Int32) : Option Int32 :=
  k20 x0 x1 x2 x3 (s0 + s1) (x5 + 1)
set_option maxRecDepth 20000 in
theorem w_X12_dreadOf_74 {K : KT} {w : Int32} {h : AH} {k20 : Option Nat → Int32 → Int32 → Int32 → Int32 → Int32 → Option Int32} (X : CX K cX12_dreadOf RX12 wsX12_dreadOf (some .int) "dreadOf" (rmD 2 0 0) 6 0 0) (hk20 : ∀ (x0 : Option Nat) (x1 : Int32) (x2 : Int32) (x3 : Int32) (x4 : Int32) (x5 : Int32), k20 x0 x1 x2 x3 x4 x5 = some w → GG K (some (tI w), h) 0 0 20 [(0, tR x0), (1, tI x1), (2, tI x2), (3, tI x3), (4, tI x4), (5, tI x5)] [] h) (x0 : Option Nat) (x1 : Int32) (x2 : Int32) (x3 : Int32) (x5 : Int32) (s0 : Int32) (s1 : Int32) (hf : b_X12_dreadOf_74 k20 h x0 x1 x2 x3 x5 s0 s1 = some w) : GG K (some (tI w), h) 0 0 74 [(0, tR x0), (1, tI x1), (2, tI x2), (3, tI x3), (5, tI x5)] [tI s1, tI s0] h := by
  unfold b_X12_dreadOf_74 at hf
  refine g_iadd X dX12_dreadOf_74 ?_
  refine g_istore (lv' := [(0, tR x0), (1, tI x1), (2, tI x2), (3, tI x3), (4, tI (s0 + s1)), (5, tI x5)]) X dX12_dreadOf_75 (by decide) (in_pick [1, 2, 3, 4, 0, 5] rfl) ?_
  refine g_iinc (v := (x5 + 1)) (lv' := [(0, tR x0), (1, tI x1), (2, tI x2), (3, tI x3), (4, tI (s0 + s1)), (5, tI (x5 + 1))]) X dX12_dreadOf_77 5 rfl (by rfl) (by decide) (in_pick [1, 2, 3, 4, 5, 0] rfl) ?_
  refine g_goto (tgt := 20) X dX12_dreadOf_80 (by decide) ?_
  exact hk20 x0 x1 x2 x3 (s0 + s1) (x5 + 1) hf
def b_X12_dreadOf_20  (h : AH) : Nat → Option Nat → Int32 → Int32 → Int32 → Int32 → Int32 → Option Int32
  | 0 => fun _ _ _ _ _ _ => none
  | n + 1 => fun x0 x1 x2 x3 x4 x5 =>
    (gR 12 0 h x0).bind fun v1 =>
    (aI h v1 3).bind fun v2 =>
    if x5 < v2 then
      (gR 12 0 h x0).bind fun v3 =>
      (aI h v3 (475 + x5)).bind fun v4 =>
      if v4 = x2 then
        (ck 12 h x0 (f_X12_had x0 x1 x5 x3 h)).bind fun v5 =>
        if v5 = 0 then
          b_X12_dreadOf_74 (b_X12_dreadOf_20 h n) h x0 x1 x2 x3 x5 x4 0
        else
          (gR 12 0 h x0).bind fun v6 =>
          (aI h v6 (483 + x5)).bind fun v7 =>
          b_X12_dreadOf_74 (b_X12_dreadOf_20 h n) h x0 x1 x2 x3 x5 x4 v7
      else
        b_X12_dreadOf_74 (b_X12_dreadOf_20 h n) h x0 x1 x2 x3 x5 x4 0
    else
      if x4 < 0 then
        some 0
      else
        if 20 < x4 then
          some 20
        else
          some x4
set_option maxRecDepth 20000 in
theorem w_X12_dreadOf_20 {K : KT} {w : Int32} {h : AH}  (X : CX K cX12_dreadOf RX12 wsX12_dreadOf (some .int) "dreadOf" (rmD 2 0 0) 6 0 0)  : ∀ (n : Nat) (x0 : Option Nat) (x1 : Int32) (x2 : Int32) (x3 : Int32) (x4 : Int32) (x5 : Int32), b_X12_dreadOf_20 h n x0 x1 x2 x3 x4 x5 = some w → GG K (some (tI w), h) 0 0 20 [(0, tR x0), (1, tI x1), (2, tI x2), (3, tI x3), (4, tI x4), (5, tI x5)] [] h := by
  intro n
  induction n with
  | zero =>
    intro x0 x1 x2 x3 x4 x5 hf
    cases (show none = some w from hf)
  | succ n ih =>
    intro x0 x1 x2 x3 x4 x5 hf
    rw [b_X12_dreadOf_20] at hf
    refine g_iload X dX12_dreadOf_20 5 rfl ?_
    refine g_aload_n X dX12_dreadOf_22 0 rfl ?_
    refine g_getR X hf (T := TX12) rfl (by decide) (by decide) in_X12_dreadOf_RX12 (by decide +kernel) rfl dX12_dreadOf_23 (fun v1 hf => ?_)
    refine g_iconst (v := 3) X dX12_dreadOf_26 (by decide) ?_
    refine g_iaload X hf dX12_dreadOf_27 (fun v2 hf => ?_)
    refine g_icmpge (tgt := 83) X hf dX12_dreadOf_28 (by decide) (fun hf => ?_) (fun hf => ?_)
    · refine g_iload X dX12_dreadOf_31 4 rfl ?_
      refine g_aload_n X dX12_dreadOf_33 0 rfl ?_
      refine g_getR X hf (T := TX12) rfl (by decide) (by decide) in_X12_dreadOf_RX12 (by decide +kernel) rfl dX12_dreadOf_34 (fun v3 hf => ?_)
      refine g_sipush (v := 475) X dX12_dreadOf_37 (by decide) ?_
      refine g_iload X dX12_dreadOf_40 5 rfl ?_
      refine g_iadd X dX12_dreadOf_42 ?_
      refine g_iaload X hf dX12_dreadOf_43 (fun v4 hf => ?_)
      refine g_iload_n X dX12_dreadOf_44 2 rfl ?_
      refine g_icmpne (tgt := 73) X hf dX12_dreadOf_45 (by decide) (fun hf => ?_) (fun hf => ?_)
      · refine g_aload_n X dX12_dreadOf_48 0 rfl ?_
        refine g_iload_n X dX12_dreadOf_49 1 rfl ?_
        refine g_iload X dX12_dreadOf_50 5 rfl ?_
        refine g_iload_n X dX12_dreadOf_52 3 rfl ?_
        refine g_callV (n := 3) (av := [tI x1, tI x5, tI x3]) (rest := [tI x4]) (k := 12) X hf (fun v5 => (some (tI v5), h)) (fun _ q => m_X12_had q) gX12_dreadOf_X12_had rfl (by decide +kernel) rfl (by decide) rfl (by decide) (by decide) rfl (Nat.le_of_ble_eq_true rfl) dX12_dreadOf_53 (fun v5 hf => ?_)
        refine g_ifeq (tgt := 73) X hf dX12_dreadOf_56 (by decide) (fun hf => ?_) (fun hf => ?_)
        · refine g_iconst (v := 0) X dX12_dreadOf_73 (by decide) ?_
          refine g_locs (lv' := [(0, tR x0), (1, tI x1), (2, tI x2), (3, tI x3), (5, tI x5)]) (in_pick [0, 1, 2, 3, 5] rfl) ?_
          exact w_X12_dreadOf_74 X ih x0 x1 x2 x3 x5 x4 0 hf
        · refine g_aload_n X dX12_dreadOf_59 0 rfl ?_
          refine g_getR X hf (T := TX12) rfl (by decide) (by decide) in_X12_dreadOf_RX12 (by decide +kernel) rfl dX12_dreadOf_60 (fun v6 hf => ?_)
          refine g_sipush (v := 483) X dX12_dreadOf_63 (by decide) ?_
          refine g_iload X dX12_dreadOf_66 5 rfl ?_
          refine g_iadd X dX12_dreadOf_68 ?_
          refine g_iaload X hf dX12_dreadOf_69 (fun v7 hf => ?_)
          refine g_goto (tgt := 74) X dX12_dreadOf_70 (by decide) ?_
          refine g_locs (lv' := [(0, tR x0), (1, tI x1), (2, tI x2), (3, tI x3), (5, tI x5)]) (in_pick [0, 1, 2, 3, 5] rfl) ?_
          exact w_X12_dreadOf_74 X ih x0 x1 x2 x3 x5 x4 v7 hf
      · refine g_iconst (v := 0) X dX12_dreadOf_73 (by decide) ?_
        refine g_locs (lv' := [(0, tR x0), (1, tI x1), (2, tI x2), (3, tI x3), (5, tI x5)]) (in_pick [0, 1, 2, 3, 5] rfl) ?_
        exact w_X12_dreadOf_74 X ih x0 x1 x2 x3 x5 x4 0 hf
    · refine g_iload X dX12_dreadOf_83 4 rfl ?_
      refine g_ifge (tgt := 92) X hf dX12_dreadOf_85 (by decide) (fun hf => ?_) (fun hf => ?_)
      · refine g_iconst (v := 0) X dX12_dreadOf_88 (by decide) ?_
        refine g_goto (tgt := 106) X dX12_dreadOf_89 (by decide) ?_
        exact g_ireturn X (by cases hf; rfl) (by decide) (by decide) dX12_dreadOf_106
      · refine g_iload X dX12_dreadOf_92 4 rfl ?_
        refine g_bipush (v := 20) X dX12_dreadOf_94 (by decide) ?_
        refine g_icmple (tgt := 104) X hf dX12_dreadOf_96 (by decide) (fun hf => ?_) (fun hf => ?_)
        · refine g_bipush (v := 20) X dX12_dreadOf_99 (by decide) ?_
          refine g_goto (tgt := 106) X dX12_dreadOf_101 (by decide) ?_
          exact g_ireturn X (by cases hf; rfl) (by decide) (by decide) dX12_dreadOf_106
        · refine g_iload X dX12_dreadOf_104 4 rfl ?_
          exact g_ireturn X (by cases hf; rfl) (by decide) (by decide) dX12_dreadOf_106
def f_X12_dreadOf (a0 : Option Nat) (a1 : Int32) (a2 : Int32) (a3 : Int32) (h : AH) : Option Int32 :=
  (gR 12 0 h a0).bind fun v1 =>
  (aI h v1 ((219 + (16 * a1)) + a2)).bind fun v2 =>
  b_X12_dreadOf_20 h FU a0 a1 a2 a3 v2 0
set_option maxRecDepth 20000 in
theorem m_X12_dreadOf {a0 : Option Nat} {a1 : Int32} {a2 : Int32} {a3 : Int32} {h : AH} {w : Int32} (hf : f_X12_dreadOf a0 a1 a2 a3 h = some w) : CT yX12_dreadOf wsX12_dreadOf (rmD 2 0 0) 0 0 [tR a0, tI a1, tI a2, tI a3] h (some (tI w), h) := by
  refine CT.of (cc := cX12_dreadOf) (nL := 6) (ret := (some .int)) (by decide) rfl (by simp [lg_sl, vOf_cat, wOf]) ?_
  intro K X
  refine g_locs (lv' := [(0, tR a0), (1, tI a1), (2, tI a2), (3, tI a3)]) (fun q hq => hq) ?_
  unfold f_X12_dreadOf at hf
  refine g_aload_n X dX12_dreadOf_0 0 rfl ?_
  refine g_getR X hf (T := TX12) rfl (by decide) (by decide) in_X12_dreadOf_RX12 (by decide +kernel) rfl dX12_dreadOf_1 (fun v1 hf => ?_)
  refine g_sipush (v := 219) X dX12_dreadOf_4 (by decide) ?_
  refine g_bipush (v := 16) X dX12_dreadOf_7 (by decide) ?_
  refine g_iload_n X dX12_dreadOf_9 1 rfl ?_
  refine g_imul X dX12_dreadOf_10 ?_
  refine g_iadd X dX12_dreadOf_11 ?_
  refine g_iload_n X dX12_dreadOf_12 2 rfl ?_
  refine g_iadd X dX12_dreadOf_13 ?_
  refine g_iaload X hf dX12_dreadOf_14 (fun v2 hf => ?_)
  refine g_istore (lv' := [(0, tR a0), (1, tI a1), (2, tI a2), (3, tI a3), (4, tI v2)]) X dX12_dreadOf_15 (by decide) (in_pick [1, 2, 3, 4, 0] rfl) ?_
  refine g_iconst (v := 0) X dX12_dreadOf_17 (by decide) ?_
  refine g_istore (lv' := [(0, tR a0), (1, tI a1), (2, tI a2), (3, tI a3), (4, tI v2), (5, tI 0)]) X dX12_dreadOf_18 (by decide) (in_pick [1, 2, 3, 4, 5, 0] rfl) ?_
  exact w_X12_dreadOf_20 X FU a0 a1 a2 a3 v2 0 hf
theorem in_X12_wet_RX12 : ∀ w ∈ u_ws RX12 TX12 43, w ∈ wsX12_wet := by decide +kernel
def f_X12_wet (a0 : Option Nat) (a1 : Int32) (h : AH) : Option (Int32 × AH) :=
  (f_X12_isDay a1 h).bind fun v1 =>
  if v1 = 0 then
    some ((-1), h)
  else
    (ck 12 h a0 (f_X12_isWet a0 a1 h)).bind fun v2 =>
    if v2 = 0 then
      (gR 12 0 h a0).bind fun v3 =>
      (aI h v3 6).bind fun v4 =>
      if v4 = 20 then
        some ((-2), h)
      else
        (gR 12 0 h a0).bind fun v5 =>
        (gR 12 0 h a0).bind fun v6 =>
        (aI h v6 6).bind fun v7 =>
        (sI h v5 (55 + v7) a1).bind fun h8 =>
        (gR 12 0 h8 a0).bind fun v9 =>
        (aI h8 v9 6).bind fun v10 =>
        (sI h8 v9 6 (v10 + 1)).bind fun h11 =>
        (gR 12 0 h11 a0).bind fun v12 =>
        (aI h11 v12 6).bind fun v13 =>
        some (v13, h11)
    else
      some ((-4), h)
set_option maxRecDepth 20000 in
theorem m_X12_wet {a0 : Option Nat} {a1 : Int32} {h : AH} {w : (Int32 × AH)} (hf : f_X12_wet a0 a1 h = some w) : CT yX12_wet wsX12_wet (rmD 3 0 0) 0 0 [tR a0, tI a1] h (some (tI w.1), w.2) := by
  refine CT.of (cc := cX12_wet) (nL := 2) (ret := (some .int)) (by decide) rfl (by simp [lg_sl, vOf_cat, wOf]) ?_
  intro K X
  refine g_locs (lv' := [(0, tR a0), (1, tI a1)]) (fun q hq => hq) ?_
  unfold f_X12_wet at hf
  refine g_iload_n X dX12_wet_0 1 rfl ?_
  refine g_callS (n := 1) (av := [tI a1]) (rest := []) X hf (fun v1 => (some (tI v1), h)) (fun _ q => m_X12_isDay q) gX12_wet_X12_isDay rfl (by decide +kernel) rfl (by decide) (by decide) rfl (Nat.le_of_ble_eq_true rfl) dX12_wet_1 (fun v1 hf => ?_)
  refine g_ifne (tgt := 9) X hf dX12_wet_4 (by decide) (fun hf => ?_) (fun hf => ?_)
  · refine g_iconst (v := (-1)) X dX12_wet_7 (by decide) ?_
    exact g_ireturn X (by cases hf; rfl) (by decide) (by decide) dX12_wet_8
  · refine g_aload_n X dX12_wet_9 0 rfl ?_
    refine g_iload_n X dX12_wet_10 1 rfl ?_
    refine g_callV (n := 1) (av := [tI a1]) (rest := []) (k := 12) X hf (fun v2 => (some (tI v2), h)) (fun _ q => m_X12_isWet q) gX12_wet_X12_isWet rfl (by decide +kernel) rfl (by decide) rfl (by decide) (by decide) rfl (Nat.le_of_ble_eq_true rfl) dX12_wet_11 (fun v2 hf => ?_)
    refine g_ifeq (tgt := 20) X hf dX12_wet_14 (by decide) (fun hf => ?_) (fun hf => ?_)
    · refine g_aload_n X dX12_wet_20 0 rfl ?_
      refine g_getR X hf (T := TX12) rfl (by decide) (by decide) in_X12_wet_RX12 (by decide +kernel) rfl dX12_wet_21 (fun v3 hf => ?_)
      refine g_bipush (v := 6) X dX12_wet_24 (by decide) ?_
      refine g_iaload X hf dX12_wet_26 (fun v4 hf => ?_)
      refine g_bipush (v := 20) X dX12_wet_27 (by decide) ?_
      refine g_icmpne (tgt := 35) X hf dX12_wet_29 (by decide) (fun hf => ?_) (fun hf => ?_)
      · refine g_bipush (v := (-2)) X dX12_wet_32 (by decide) ?_
        exact g_ireturn X (by cases hf; rfl) (by decide) (by decide) dX12_wet_34
      · refine g_aload_n X dX12_wet_35 0 rfl ?_
        refine g_getR X hf (T := TX12) rfl (by decide) (by decide) in_X12_wet_RX12 (by decide +kernel) rfl dX12_wet_36 (fun v5 hf => ?_)
        refine g_bipush (v := 55) X dX12_wet_39 (by decide) ?_
        refine g_aload_n X dX12_wet_41 0 rfl ?_
        refine g_getR X hf (T := TX12) rfl (by decide) (by decide) in_X12_wet_RX12 (by decide +kernel) rfl dX12_wet_42 (fun v6 hf => ?_)
        refine g_bipush (v := 6) X dX12_wet_45 (by decide) ?_
        refine g_iaload X hf dX12_wet_47 (fun v7 hf => ?_)
        refine g_iadd X dX12_wet_48 ?_
        refine g_iload_n X dX12_wet_49 1 rfl ?_
        refine g_iastore X hf dX12_wet_50 (fun h8 hf => ?_)
        refine g_aload_n X dX12_wet_51 0 rfl ?_
        refine g_getR X hf (T := TX12) rfl (by decide) (by decide) in_X12_wet_RX12 (by decide +kernel) rfl dX12_wet_52 (fun v9 hf => ?_)
        refine g_bipush (v := 6) X dX12_wet_55 (by decide) ?_
        refine g_dup2 X dX12_wet_57 rfl rfl ?_
        refine g_iaload X hf dX12_wet_58 (fun v10 hf => ?_)
        refine g_iconst (v := 1) X dX12_wet_59 (by decide) ?_
        refine g_iadd X dX12_wet_60 ?_
        refine g_iastore X hf dX12_wet_61 (fun h11 hf => ?_)
        refine g_aload_n X dX12_wet_62 0 rfl ?_
        refine g_getR X hf (T := TX12) rfl (by decide) (by decide) in_X12_wet_RX12 (by decide +kernel) rfl dX12_wet_63 (fun v12 hf => ?_)
        refine g_bipush (v := 6) X dX12_wet_66 (by decide) ?_
        refine g_iaload X hf dX12_wet_68 (fun v13 hf => ?_)
        exact g_ireturn X (by cases hf; rfl) (by decide) (by decide) dX12_wet_69
    · refine g_bipush (v := (-4)) X dX12_wet_17 (by decide) ?_
      exact g_ireturn X (by cases hf; rfl) (by decide) (by decide) dX12_wet_19
theorem in_X12_fear_RX12 : ∀ w ∈ u_ws RX12 TX12 43, w ∈ wsX12_fear := by decide +kernel
def f_X12_fear (a0 : Option Nat) (a1 : Int32) (a2 : Int32) (a3 : Int32) (h : AH) : Option (Int32 × AH) :=
  (ck 12 h a0 (f_X12_isMan a0 a1 h)).bind fun v1 =>
  if v1 = 0 then
    some ((-1), h)
  else
    (ck 12 h a0 (f_X12_isMan a0 a2 h)).bind fun v2 =>
    if v2 = 0 then
      some ((-1), h)
    else
      if a1 = a2 then
        some ((-1), h)
      else
        (f_X12_in a3 0 9 h).bind fun v3 =>
        if v3 = 0 then
          some ((-1), h)
        else
          (gR 12 0 h a0).bind fun v4 =>
          (aI h v4 ((219 + (16 * a1)) + a2)).bind fun v5 =>
          (gR 12 0 h a0).bind fun v6 =>
          (sI h v6 ((219 + (16 * a1)) + a2) a3).bind fun h7 =>
          some (v5, h7)
set_option maxRecDepth 20000 in
theorem m_X12_fear {a0 : Option Nat} {a1 : Int32} {a2 : Int32} {a3 : Int32} {h : AH} {w : (Int32 × AH)} (hf : f_X12_fear a0 a1 a2 a3 h = some w) : CT yX12_fear wsX12_fear (rmD 3 0 0) 0 0 [tR a0, tI a1, tI a2, tI a3] h (some (tI w.1), w.2) := by
  refine CT.of (cc := cX12_fear) (nL := 5) (ret := (some .int)) (by decide) rfl (by simp [lg_sl, vOf_cat, wOf]) ?_
  intro K X
  refine g_locs (lv' := [(0, tR a0), (1, tI a1), (2, tI a2), (3, tI a3)]) (fun q hq => hq) ?_
  unfold f_X12_fear at hf
  refine g_aload_n X dX12_fear_0 0 rfl ?_
  refine g_iload_n X dX12_fear_1 1 rfl ?_
  refine g_callV (n := 1) (av := [tI a1]) (rest := []) (k := 12) X hf (fun v1 => (some (tI v1), h)) (fun _ q => m_X12_isMan q) gX12_fear_X12_isMan rfl (by decide +kernel) rfl (by decide) rfl (by decide) (by decide) rfl (Nat.le_of_ble_eq_true rfl) dX12_fear_2 (fun v1 hf => ?_)
  refine g_ifeq (tgt := 31) X hf dX12_fear_5 (by decide) (fun hf => ?_) (fun hf => ?_)
  · refine g_iconst (v := (-1)) X dX12_fear_31 (by decide) ?_
    exact g_ireturn X (by cases hf; rfl) (by decide) (by decide) dX12_fear_32
  · refine g_aload_n X dX12_fear_8 0 rfl ?_
    refine g_iload_n X dX12_fear_9 2 rfl ?_
    refine g_callV (n := 1) (av := [tI a2]) (rest := []) (k := 12) X hf (fun v2 => (some (tI v2), h)) (fun _ q => m_X12_isMan q) gX12_fear_X12_isMan rfl (by decide +kernel) rfl (by decide) rfl (by decide) (by decide) rfl (Nat.le_of_ble_eq_true rfl) dX12_fear_10 (fun v2 hf => ?_)
    refine g_ifeq (tgt := 31) X hf dX12_fear_13 (by decide) (fun hf => ?_) (fun hf => ?_)
    · refine g_iconst (v := (-1)) X dX12_fear_31 (by decide) ?_
      exact g_ireturn X (by cases hf; rfl) (by decide) (by decide) dX12_fear_32
    · refine g_iload_n X dX12_fear_16 1 rfl ?_
      refine g_iload_n X dX12_fear_17 2 rfl ?_
      refine g_icmpeq (tgt := 31) X hf dX12_fear_18 (by decide) (fun hf => ?_) (fun hf => ?_)
      · refine g_iconst (v := (-1)) X dX12_fear_31 (by decide) ?_
        exact g_ireturn X (by cases hf; rfl) (by decide) (by decide) dX12_fear_32
      · refine g_iload_n X dX12_fear_21 3 rfl ?_
        refine g_iconst (v := 0) X dX12_fear_22 (by decide) ?_
        refine g_bipush (v := 9) X dX12_fear_23 (by decide) ?_
        refine g_callS (n := 3) (av := [tI a3, tI 0, tI 9]) (rest := []) X hf (fun v3 => (some (tI v3), h)) (fun _ q => m_X12_in q) gX12_fear_X12_in rfl (by decide +kernel) rfl (by decide) (by decide) rfl (Nat.le_of_ble_eq_true rfl) dX12_fear_25 (fun v3 hf => ?_)
        refine g_ifne (tgt := 33) X hf dX12_fear_28 (by decide) (fun hf => ?_) (fun hf => ?_)
        · refine g_iconst (v := (-1)) X dX12_fear_31 (by decide) ?_
          exact g_ireturn X (by cases hf; rfl) (by decide) (by decide) dX12_fear_32
        · refine g_aload_n X dX12_fear_33 0 rfl ?_
          refine g_getR X hf (T := TX12) rfl (by decide) (by decide) in_X12_fear_RX12 (by decide +kernel) rfl dX12_fear_34 (fun v4 hf => ?_)
          refine g_sipush (v := 219) X dX12_fear_37 (by decide) ?_
          refine g_bipush (v := 16) X dX12_fear_40 (by decide) ?_
          refine g_iload_n X dX12_fear_42 1 rfl ?_
          refine g_imul X dX12_fear_43 ?_
          refine g_iadd X dX12_fear_44 ?_
          refine g_iload_n X dX12_fear_45 2 rfl ?_
          refine g_iadd X dX12_fear_46 ?_
          refine g_iaload X hf dX12_fear_47 (fun v5 hf => ?_)
          refine g_istore (lv' := [(0, tR a0), (1, tI a1), (2, tI a2), (3, tI a3), (4, tI v5)]) X dX12_fear_48 (by decide) (in_pick [1, 2, 3, 4, 0] rfl) ?_
          refine g_aload_n X dX12_fear_50 0 rfl ?_
          refine g_getR X hf (T := TX12) rfl (by decide) (by decide) in_X12_fear_RX12 (by decide +kernel) rfl dX12_fear_51 (fun v6 hf => ?_)
          refine g_sipush (v := 219) X dX12_fear_54 (by decide) ?_
          refine g_bipush (v := 16) X dX12_fear_57 (by decide) ?_
          refine g_iload_n X dX12_fear_59 1 rfl ?_
          refine g_imul X dX12_fear_60 ?_
          refine g_iadd X dX12_fear_61 ?_
          refine g_iload_n X dX12_fear_62 2 rfl ?_
          refine g_iadd X dX12_fear_63 ?_
          refine g_iload_n X dX12_fear_64 3 rfl ?_
          refine g_iastore X hf dX12_fear_65 (fun h7 hf => ?_)
          refine g_iload X dX12_fear_66 4 rfl ?_
          exact g_ireturn X (by cases hf; rfl) (by decide) (by decide) dX12_fear_68
