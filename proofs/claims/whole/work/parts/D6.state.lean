-- ===== the class's reader: what waits, what is written =====
def RdW (μ : MU) (x : Nat) (wt : List Nat) : Prop := μ (x + 149) 12 = nI wt.length ∧ ∀ k w, wt.reverse[k]? = some w → μ (x + 157) k = nI w
def RdC (μ : MU) (x : Nat) (c : List Int32) : Prop := μ (x + 151) 3 = nI c.length ∧ ∀ k v, c[k]? = some v → μ (x + 152) k = v
def FrSt (x : Nat) (μ μ' : MU) : Prop := ∀ a j, ¬ ((a = x + 149 ∧ j = 12) ∨ a = x + 157 ∨ (a = x + 151 ∧ j = 3) ∨ a = x + 152) → μ' a j = μ a j
/-- brackets and signs that wait -/
def WI (o : Nat) (wt : List Nat) : Prop := wt.countP (fun w => w == 0) = o ∧ ∀ w ∈ wt, w = 0 ∨ (4 ≤ w ∧ w < 32)
section STATE
variable {n : Nat} {st : Nat → Nat} {S : SH} {μ μ' : MU} {x b m c l : Nat} {T : Nat → Int32} {N : Nat}
theorem FrSt.trans {μ'' : MU} (h : FrSt x μ μ') (h' : FrSt x μ' μ'') : FrSt x μ μ'' := fun a j q => (h' a j q).trans (h a j q)
theorem tok_word {p : Nat} : (tK T N p = 2 → ∃ k, k < 21 ∧ wdx T N p = some k ∧ tV T N p = nI k) ∧ (¬ tK T N p = 2 → wdx T N p = none) := by
  have cs := nxS_cases T N p
  have hnl : ¬ letB (byS T N (skS T N 400 p)) = true → tB T N p = skS T N 400 p → wdx T N p = none := by
    intro hl hb
    cases hz : wdx T N p with
    | none => rfl
    | some q =>
      obtain ⟨-, w, h2, h3⟩ := wiS_sound WL 0 q hz
      rw [hb] at h3
      have hfirst : ∀ w ∈ WL, ∃ c r, w = c :: r ∧ letB (nI c) = true := by
        intro w hw
        have : ∀ w ∈ WL, (match w with | [] => false | c :: _ => letB (nI c)) = true := by decide +kernel
        have h := this w hw
        cases w with
        | nil => cases h
        | cons c r => exact ⟨c, r, rfl, h⟩
      obtain ⟨c, r, rfl, hc⟩ := hfirst w (List.mem_of_getElem? h2)
      rw [spS, Bool.and_eq_true, Bool.and_eq_true, decide_eq_true_iff, decide_eq_true_iff] at h3
      rw [h3.1.2] at hl
      exact absurd hc hl
  rcases cs with ⟨c1, c2, c3, c4⟩ | ⟨c1, c2, c3, c4, c5, c6⟩ | ⟨c1, c2, c3, c4, c5, c6⟩ | ⟨c1, c2, c3, c4, c5, c6⟩
  · refine ⟨fun h => by rw [c4] at h; exact absurd h (by decide), fun _ => hnl (fun h => ?_) c2⟩
    rw [letB, inS, decide_eq_true_iff] at h
    exact h.1 (Int32.lt_trans c1 (by decide))
  · refine ⟨fun h => ?_, fun _ => hnl (fun h => by rw [let_dig h] at c2; cases c2) c3⟩
    rw [c5] at h
    split at h <;> exact absurd h (by decide)
  · have e : wdx T N p = wiS T N (skS T N 400 p) (leS T N 400 (skS T N 400 p)) 0 WL := by rw [wdx, c4, c5]
    rcases c6 with ⟨k, k1, k2, k3⟩ | ⟨k1, k2⟩
    · refine ⟨fun _ => ⟨k, ?_, by rw [e, k1], k3⟩, fun h => absurd k2 h⟩
      obtain ⟨-, w, h2, -⟩ := wiS_sound WL 0 k k1
      rw [Nat.sub_zero] at h2
      rcases Nat.lt_or_ge k 21 with h | h
      · exact h
      · rw [List.getElem?_eq_none (show WL.length ≤ k from h)] at h2; cases h2
    · exact ⟨fun h => by rw [k2] at h; exact absurd h (by decide), fun _ => by rw [e, k1]⟩
  · refine ⟨fun h => ?_, fun _ => hnl (fun h => by rw [h] at c3; cases c3) c4⟩
    rw [c6] at h
    split at h
    · rename_i ho
      rw [h] at ho
      exact absurd ho (by decide)
    · exact absurd h (by decide)
theorem isW_wdx {p k : Nat} (hk : k < 21) : isW T N p (nI k) = decide (wdx T N p = some k) := by
  obtain ⟨h1, h2⟩ := tok_word (T := T) (N := N) (p := p)
  unfold isW
  by_cases h : tK T N p = 2
  · obtain ⟨q, q1, q2, q3⟩ := h1 h
    rw [q2, q3]
    by_cases hq : q = k
    · subst hq; rw [decide_eq_true ⟨h, rfl⟩, decide_eq_true rfl]
    · rw [decide_eq_false (fun z => hq ((nI_eq (by omega) (by omega)).mp z.2)), decide_eq_false (fun z => hq (Option.some.inj z))]
  · rw [h2 h, decide_eq_false (fun z => h z.1), decide_eq_false (fun z => by cases z)]
theorem so_end {p : Nat} (hb : ∀ k, k < N → isN (T k) 256) : (soS T N p = -1) = (tK T N p = 0) := by
  have cs := nxS_cases T N p
  unfold soS
  rcases cs with ⟨c1, c2, c3, c4⟩ | ⟨c1, c2, c3, c4, c5, c6⟩ | ⟨c1, c2, c3, c4, c5, c6⟩ | ⟨c1, c2, c3, c4, c5, c6⟩
  · rw [if_pos c1, c4]; simp
  · rw [if_neg c1, if_neg (fun h => by rw [let_dig h] at c2; cases c2), if_pos c2, c5]
    split <;> decide
  · rw [if_neg c1, if_pos c3]
    rcases c6 with ⟨k, k1, k2, k3⟩ | ⟨k1, k2⟩ <;> rw [k2] <;> decide
  · rw [if_neg c1, if_neg (fun h => by rw [h] at c3; cases c3), if_neg (fun h => by rw [h] at c2; cases c2), c6]
    refine propext ⟨fun h => absurd (by rw [h]; decide) c1, fun h => ?_⟩
    split at h
    · rename_i ho
      exact absurd h (opB_ne0 ho)
    · exact absurd h (by decide)
theorem so_op {p v : Nat} (hv : v = 40 ∨ v = 41 ∨ v = 43 ∨ v = 45 ∨ v = 59 ∨ v = 60 ∨ v = 61 ∨ v = 62) : (soS T N p = nI v) = (tK T N p = nI v) := by
  have hop : opB (nI v) = true := by rcases hv with rfl | rfl | rfl | rfl | rfl | rfl | rfl | rfl <;> decide
  have h97 : ¬ (97 : Int32) = nI v := by rcases hv with rfl | rfl | rfl | rfl | rfl | rfl | rfl | rfl <;> decide
  have h48 : ¬ (48 : Int32) = nI v := by rcases hv with rfl | rfl | rfl | rfl | rfl | rfl | rfl | rfl <;> decide
  have hm1 : ¬ (-1 : Int32) = nI v := by rcases hv with rfl | rfl | rfl | rfl | rfl | rfl | rfl | rfl <;> decide
  have h0 : ¬ (0 : Int32) = nI v := by rcases hv with rfl | rfl | rfl | rfl | rfl | rfl | rfl | rfl <;> decide
  have h1 : ¬ (1 : Int32) = nI v := by rcases hv with rfl | rfl | rfl | rfl | rfl | rfl | rfl | rfl <;> decide
  have h2 : ¬ (2 : Int32) = nI v := by rcases hv with rfl | rfl | rfl | rfl | rfl | rfl | rfl | rfl <;> decide
  have h3 : ¬ (3 : Int32) = nI v := by rcases hv with rfl | rfl | rfl | rfl | rfl | rfl | rfl | rfl <;> decide
  have cs := nxS_cases T N p
  unfold soS
  rcases cs with ⟨c1, c2, c3, c4⟩ | ⟨c1, c2, c3, c4, c5, c6⟩ | ⟨c1, c2, c3, c4, c5, c6⟩ | ⟨c1, c2, c3, c4, c5, c6⟩
  · rw [if_pos c1, c4, eq_false hm1, eq_false h0]
  · rw [if_neg c1, if_neg (fun h => by rw [let_dig h] at c2; cases c2), if_pos c2, c5, eq_false h48]
    split
    · rw [eq_false h1]
    · rw [eq_false h3]
  · rw [if_neg c1, if_pos c3, eq_false h97]
    rcases c6 with ⟨k, k1, k2, k3⟩ | ⟨k1, k2⟩
    · rw [k2, eq_false h2]
    · rw [k2, eq_false h1]
  · rw [if_neg c1, if_neg (fun h => by rw [h] at c3; cases c3), if_neg (fun h => by rw [h] at c2; cases c2), c6]
    refine propext ⟨fun h => by rw [h, hop, if_pos rfl], fun h => ?_⟩
    split at h
    · exact h
    · exact absurd h h1
theorem k_delay (hX : ShX S x) {wt : List Nat} (h : RdW μ x wt) (hl : wt.length < 300) (w : Nat) : ∃ μ' : MU, f_X4_delay (some (x + 149)) (nI w) (mkH n st S μ) = some (mkH n st S μ') ∧ RdW μ' x (w :: wt) ∧ (∀ a j, ¬ ((a = x + 149 ∧ j = 12) ∨ a = x + 157) → μ' a j = μ a j) := by
  obtain ⟨h1, h2⟩ := h
  have aLn : aL (mkH n st S μ) (some (x + 157)) = some (nI 300) := ob_aL hX.waiting (by omega)
  have g : nI wt.length < nI 300 := nI_lt hl (by omega)
  have e1 : nI wt.length + 1 = nI (wt.length + 1) := nI_add _ 1
  have e12 : ∀ v, up2 μ (x + 157) wt.length v (x + 149) 12 = nI wt.length := fun v => by rw [up2_ne (by omega), h1]
  refine ⟨up2 (up2 μ (x + 157) wt.length (nI w)) (x + 149) 12 (nI (wt.length + 1)), ?_, ⟨up2_same, fun k v hk => ?_⟩, fun a j q => by rw [up2_ne (by omega), up2_ne (by omega)]⟩
  · simp (disch := omega) only [f_X4_delay, rdI12 hX, rdR11 hX, some_bind, h1, aLn, g, if_true, xSWai hX, e12, e1, rdP12 hX]
  · rw [up2_ne (by omega)]
    rw [List.reverse_cons] at hk
    by_cases hkl : k = wt.length
    · subst hkl
      rw [List.getElem?_append_right (by simp)] at hk
      simp at hk
      rw [up2_same, hk]
    · rw [up2_ne (by omega)]
      have hk2 : k < wt.length := by
        rcases Nat.lt_or_ge k (wt.reverse ++ [w]).length with h | h
        · simp at h; omega
        · rw [List.getElem?_eq_none h] at hk; cases hk
      rw [List.getElem?_append_left (by simpa using hk2)] at hk
      exact h2 k v hk
theorem wrd_mk {op v : Nat} (ho : op < 32) (hv : v < 65536) : (nI op <<< (16 &&& 31)) ||| nI v = wrd op v := by
  have e : nI op <<< (16 &&& 31) = nI (op * 65536) := by
    have : ∀ op, op < 32 → nI op <<< (16 &&& 31) = nI (op * 65536) := by decide +kernel
    exact this op ho
  rw [e, orN, wrd]
  congr 1
  have : op * 65536 = op <<< 16 := by rw [Nat.shiftLeft_eq]
  rw [this, Nat.shiftLeft_add_eq_or_of_lt (by omega)]
theorem k_emit (hX : ShX S x) {cd : List Int32} (h : RdC μ x cd) (hl : cd.length < 320) {op v : Nat} (ho : op < 32) (hv : v < 65536) : ∃ μ' : MU, f_X3_emit (some (x + 151)) (nI op) (nI v) (mkH n st S μ) = some (mkH n st S μ') ∧ RdC μ' x (cd ++ [wrd op v]) ∧ (∀ a j, ¬ ((a = x + 151 ∧ j = 3) ∨ a = x + 152) → μ' a j = μ a j) := by
  obtain ⟨h1, h2⟩ := h
  have hL := hX.draft
  have g : nI cd.length < (320 : Int32) := nI_lt (b := 320) hl (by omega)
  have e1 : nI cd.length + 1 = nI (cd.length + 1) := nI_add _ 1
  have e3 : ∀ v, up2 μ (x + 151 + 1) cd.length v (x + 151) 3 = nI cd.length := fun v => by rw [up2_ne (by omega), h1]
  refine ⟨up2 (up2 μ (x + 151 + 1) cd.length (wrd op v)) (x + 151) 3 (nI (cd.length + 1)), ?_, ⟨by rw [up2_same, List.length_append, List.length_singleton], fun k z hk => ?_⟩, fun a j q => by rw [up2_ne (by omega), up2_ne (by omega)]⟩
  · simp (disch := omega) only [f_X3_emit, lI3 hL, some_bind, h1, g, if_true, lR2 hL, wrd_mk ho hv, lS2 hL, e3, e1, lP3 hL]
  · rw [up2_ne (by omega)]
    by_cases hkl : k = cd.length
    · subst hkl
      rw [List.getElem?_append_right (Nat.le_refl _)] at hk
      simp at hk
      exact up2_same.trans hk
    · rw [up2_ne (by omega)]
      have hk2 : k < cd.length := by
        rcases Nat.lt_or_ge k (cd ++ [wrd op v]).length with h | h
        · simp at h; omega
        · rw [List.getElem?_eq_none h] at hk; cases hk
      rw [List.getElem?_append_left hk2] at hk
      exact h2 k z hk
theorem RdW.fr {wt : List Nat} (h : RdW μ x wt) (hf : ∀ a j, (a = x + 149 ∧ j = 12) ∨ a = x + 157 → μ' a j = μ a j) : RdW μ' x wt := ⟨by rw [hf _ _ (by omega)]; exact h.1, fun k w hk => by rw [hf _ _ (by omega)]; exact h.2 k w hk⟩
theorem RdC.fr {cd : List Int32} (h : RdC μ x cd) (hf : ∀ a j, (a = x + 151 ∧ j = 3) ∨ a = x + 152 → μ' a j = μ a j) : RdC μ' x cd := ⟨by rw [hf _ _ (by omega)]; exact h.1, fun k w hk => by rw [hf _ _ (by omega)]; exact h.2 k w hk⟩
theorem RdW.tail {w : Nat} {wt : List Nat} (h : RdW μ x (w :: wt)) : μ (x + 157) wt.length = nI w ∧ ∀ μ' : MU, μ' (x + 149) 12 = nI wt.length → (∀ j, μ' (x + 157) j = μ (x + 157) j) → RdW μ' x wt := by
  obtain ⟨h1, h2⟩ := h
  refine ⟨h2 wt.length w (by rw [List.reverse_cons, List.getElem?_append_right (by simp)]; simp), fun μ' e1 e2 => ⟨e1, fun k v hk => ?_⟩⟩
  rw [e2]
  refine h2 k v ?_
  have hk2 : k < wt.reverse.length := by
    rcases Nat.lt_or_ge k wt.reverse.length with h | h
    · exact h
    · rw [List.getElem?_eq_none h] at hk; cases hk
  rw [List.reverse_cons, List.getElem?_append_left hk2]
  exact hk
theorem sh2 : ∀ w, w < 32 → nI w >>> (2 &&& 31) = nI (w / 4) := by decide +kernel
theorem k_settle (hX : ShX S x) {op : Nat} (ho : op < 32) : ∀ (wt : List Nat) (cd : List Int32) (fu : Nat) (μ : MU), RdW μ x wt → RdC μ x cd → wt.length + cd.length < 320 → wt.length ≤ 300 → wt.length < fu → (∀ w ∈ wt, w < 32) → ∃ μ' : MU, b_X4_settle_0 fu (some (x + 149)) (nI op) (mkH n st S μ) = some (mkH n st S μ') ∧ RdW μ' x (setS (op / 4) wt cd).1 ∧ RdC μ' x (setS (op / 4) wt cd).2 ∧ FrSt x μ μ' := by
  intro wt
  induction wt with
  | nil =>
    intro cd fu μ hw hc hl h3 hf hb
    obtain ⟨fu, rfl⟩ : ∃ q, fu = q + 1 := ⟨fu - 1, by omega⟩
    have h1 : μ (x + 149) 12 = 0 := hw.1
    have g : ¬ (0 : Int32) < 0 := by decide
    refine ⟨μ, ?_, hw, hc, fun _ _ _ => rfl⟩
    simp only [b_X4_settle_0, rdI12 hX, some_bind, h1, g, if_false]
  | cons w wt ih =>
    intro cd fu μ hw hc hl h3 hf hb
    obtain ⟨fu, rfl⟩ : ∃ q, fu = q + 1 := ⟨fu - 1, by omega⟩
    have hw' := hw
    obtain ⟨h1, h2⟩ := hw
    rw [List.length_cons] at h1 hl h3 hf
    have hw32 : w < 32 := hb w (List.mem_cons_self)
    obtain ⟨t1, t2⟩ := hw'.tail
    have g : (0 : Int32) < nI (wt.length + 1) := nI_lt (a := 0) (by omega) (by omega)
    have e1 : nI (wt.length + 1) - 1 = nI wt.length := by rw [nn_sub (b := 1) (by show 1 ≤ _; omega)]; rfl
    have aw : aI (mkH n st S μ) (some (x + 157)) (nI wt.length) = some (nI w) := by rw [xAWai hX (by omega), t1]
    rw [setS]
    by_cases hp : op / 4 ≤ w / 4
    · have g2 : ¬ nI (w / 4) < nI (op / 4) := fun q => by simp (disch := omega) only [nn_lt] at q; omega
      rw [if_pos hp]
      obtain ⟨μ1, hm1⟩ : ∃ z, z = up2 μ (x + 149) 12 (nI wt.length) := ⟨_, rfl⟩
      have i12 : μ1 (x + 149) 12 = nI wt.length := by rw [hm1, up2_same]
      have aw1 : aI (mkH n st S μ1) (some (x + 157)) (nI wt.length) = some (nI w) := by rw [xAWai hX (by omega), hm1, up2_ne (by omega), t1]
      obtain ⟨μ2, v1, v2, v3⟩ := k_emit (n := n) (st := st) (μ := μ1) hX (hc.fr (fun a j q => by rw [hm1, up2_ne (by omega)])) (by omega) hw32 (show 0 < 65536 by omega)
      have v1' : f_X3_emit (some (x + 151)) (nI w) 0 (mkH n st S μ1) = some (mkH n st S μ2) := v1
      obtain ⟨μ3, u1, u2, u3, u4⟩ := ih (cd ++ [wrd w 0]) fu μ2 (t2 μ2 (by rw [v3 _ _ (by omega), hm1, up2_same]) (fun j => by rw [v3 _ _ (by omega), hm1, up2_ne (by omega)])) v2 (by rw [List.length_append, List.length_singleton]; omega) (by omega) (by omega) (fun z hz => hb z (List.mem_cons_of_mem _ hz))
      refine ⟨μ3, ?_, u2, u3, fun a j q => by rw [u4 a j q, v3 a j (by omega), hm1, up2_ne (by omega)]⟩
      rw [← u1]
      simp only [b_X4_settle_0, rdI12 hX, some_bind, h1, g, if_true, rdR11 hX, e1, aw, sh2 w hw32, sh2 op ho, g2, if_false, rdP12 hX, ← hm1, rdR2 hX, i12, aw1, lck hX.draft, v1']
    · have g2 : nI (w / 4) < nI (op / 4) := nI_lt (by omega) (by omega)
      rw [if_neg hp]
      refine ⟨μ, ?_, hw', hc, fun _ _ _ => rfl⟩
      simp only [b_X4_settle_0, rdI12 hX, some_bind, h1, g, if_true, rdR11 hX, e1, aw, sh2 w hw32, sh2 op ho, g2]
theorem setS_len (π : Nat) : ∀ (wt : List Nat) (cd : List Int32), (setS π wt cd).1.length + (setS π wt cd).2.length = wt.length + cd.length ∧ (setS π wt cd).1.length ≤ wt.length := by
  intro wt
  induction wt with
  | nil => intro cd; exact ⟨rfl, Nat.le_refl _⟩
  | cons w wt ih =>
    intro cd
    rw [setS]
    split
    · have := ih (cd ++ [opw w])
      rw [List.length_append, List.length_singleton] at this
      rw [List.length_cons]
      omega
    · exact ⟨rfl, Nat.le_refl _⟩
theorem setS_WI {o π : Nat} (hp : 1 ≤ π) : ∀ (wt : List Nat) (cd : List Int32), WI o wt → WI o (setS π wt cd).1 := by
  intro wt
  induction wt with
  | nil => intro cd h; exact h
  | cons w wt ih =>
    intro cd h
    rw [setS]
    split
    · rename_i hw
      refine ih _ ⟨?_, fun z hz => h.2 z (List.mem_cons_of_mem _ hz)⟩
      have := h.1
      rw [List.countP_cons_of_neg (by simp; omega)] at this
      exact this
    · exact h
theorem setS_1 : ∀ (wt : List Nat) (cd : List Int32), (∀ w ∈ wt, w = 0 ∨ (4 ≤ w ∧ w < 32)) → (setS 1 wt cd).1 = [] ∨ ∃ r, (setS 1 wt cd).1 = 0 :: r := by
  intro wt
  induction wt with
  | nil => intro cd _; exact Or.inl rfl
  | cons w wt ih =>
    intro cd h
    rw [setS]
    split
    · exact ih _ (fun z hz => h z (List.mem_cons_of_mem _ hz))
    · rename_i hw
      rcases h w (List.mem_cons_self) with rfl | h
      · exact Or.inr ⟨wt, rfl⟩
      · omega
theorem WI.lt {o : Nat} {wt : List Nat} (h : WI o wt) : ∀ w ∈ wt, w < 32 := fun w hw => by rcases h.2 w hw with h | h <;> omega
theorem WI.cons {o w : Nat} {wt : List Nat} (h : WI o wt) (hw : 4 ≤ w) (h2 : w < 32) : WI o (w :: wt) := ⟨by rw [List.countP_cons_of_neg (by simp; omega)]; exact h.1, fun z hz => by rcases List.mem_cons.mp hz with rfl | q; exact Or.inr ⟨hw, h2⟩; exact h.2 z q⟩
theorem WI.opn {o : Nat} {wt : List Nat} (h : WI o wt) : WI (o + 1) (0 :: wt) := ⟨by rw [List.countP_cons_of_pos (by simp), h.1], fun z hz => by rcases List.mem_cons.mp hz with rfl | q; exact Or.inl rfl; exact h.2 z q⟩
theorem WI.set0 {wt : List Nat} {cd : List Int32} (h : WI 0 wt) : (setS 1 wt cd).1 = [] := by
  have h' := setS_WI (π := 1) (Nat.le_refl _) wt cd h
  rcases setS_1 wt cd h.2 with q | ⟨r, q⟩
  · exact q
  · rw [q] at h'
    have := h'.1
    rw [List.countP_cons_of_pos (by simp)] at this
    omega
theorem WI.set1 {o : Nat} {wt : List Nat} {cd : List Int32} (h : WI (o + 1) wt) : ∃ r, (setS 1 wt cd).1 = 0 :: r ∧ WI o r := by
  have h' := setS_WI (π := 1) (Nat.le_refl _) wt cd h
  rcases setS_1 wt cd h.2 with q | ⟨r, q⟩
  · rw [q] at h'
    have := h'.1
    simp at this
  · rw [q] at h'
    refine ⟨r, q, ?_, fun z hz => h'.2 z (List.mem_cons_of_mem _ hz)⟩
    have := h'.1
    rw [List.countP_cons_of_pos (by simp)] at this
    omega
end STATE
