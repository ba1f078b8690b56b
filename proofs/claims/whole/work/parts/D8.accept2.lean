-- ===== the class's reader: a token in a condition =====
section ACCEPT2
variable {n : Nat} {st : Nat → Nat} {S : SH} {μ μ' : MU} {x b m l : Nat} {T : Nat → Int32} {N p : Nat}
theorem RdM.fr {σ : MSt} (h : RdM μ x σ) (hf : ∀ a j, (a = x + 149 ∧ (j = 3 ∨ j = 6 ∨ j = 7 ∨ j = 12)) ∨ a = x + 157 ∨ (a = x + 151 ∧ j = 3) ∨ a = x + 152 → μ' a j = μ a j) : RdM μ' x σ := by
  obtain ⟨h1, h2, h3, h4, h5, h6⟩ := h
  exact ⟨by rw [hf _ _ (by omega)]; exact h1, fun q => by rw [hf _ _ (by omega)]; exact h2 q, by rw [hf _ _ (by omega)]; exact h3, h4.fr (fun a j q => hf a j (by omega)), h5.fr (fun a j q => hf a j (by omega)), h6⟩
/-- the end of a token's work -/
def AccR (n : Nat) (st : Nat → Nat) (S : SH) (x l : Nat) (T : Nat → Int32) (N p : Nat) (μ : MU) (r : Option (Int32 × AH)) (z : Option MSt) : Prop :=
  ∃ μ' : MU, r = some (bI z.isSome, mkH n st S μ') ∧ FrAcc x l μ μ' ∧ ∀ τ, z = some τ → RdM μ' x τ ∧ szM τ ≤ tA T N p ∧ τ.2.2.1 ≤ 5 ∧ (τ.1 = 0 → τ.2.1 = false ∧ τ.2.2.1 = 0 ∧ τ.2.2.2.1 = [] ∧ μ' (x + 154) l = nI τ.2.2.2.2.length)
theorem rZ_acc {r : Option (Int32 × AH)} {z : Option MSt} (h : AccR n st S x l T N p μ r z) : AccR n st S x l T N p μ (r.bind fun q => (rZ q.1).bind fun vz => some (vz, q.2)) z := by
  obtain ⟨μ', h1, h2⟩ := h
  refine ⟨μ', ?_, h2⟩
  rw [h1]
  simp only [some_bind, rZ_bI]
theorem acc_one (hX : ShX S x) (hB : BaseOK st S μ x b) (hT : TpR μ x T N) (hp : p ≤ N) (hk : TkA μ x T N p) (h0 : ¬ tK T N p = 0) (hl : l < 4) (h4 : μ (x + 149) 4 = nI l) {sg : Bool} {o : Nat} {wt : List Nat} {cd : List Int32} (hM : RdM μ x (2, sg, o, wt, cd)) (ho : o ≤ 5) (hz : wt.length + cd.length ≤ p) : AccR n st S x l T N p μ (f_X4_acceptOne (some (x + 149)) (mkH n st S μ)) (stepW T N (nI l) (2, sg, o, wt, cd) p) := by
  obtain ⟨h3, -, h6, hw, hc, hI⟩ := hM
  have h6 : μ (x + 149) 6 = nI o := h6
  have hw : RdW μ x wt := hw
  have hc : RdC μ x cd := hc
  have hI : WI o wt := hI
  have hN := hT.2.1
  have tp := tok_pos (T := T) hp
  have tpl := tp.2.2.2 h0
  have ka : f_X4_among (some (x + 149)) (some ((mkH n st S μ).2.2 (60 + 1))) (mkH n st S μ) = some (if wdx T N p = some 7 then 0 else -1) := k_among (n := n) (st := st) hX hB hT (i := 1) (by omega) hp hk
  have i7 : isW T N p 7 = decide (wdx T N p = some 7) := isW_wdx (k := 7) (by omega)
  have s40 : (soS T N p = 40) = (tK T N p = 40) := so_op (v := 40) (by omega)
  by_cases c7 : wdx T N p = some 7
  · rw [if_pos c7] at ka
    have e : stepW T N (nI l) (2, sg, o, wt, cd) p = some (2, false, o, 12 :: wt, cd) := by simp only [stepW, i7, c7, decide_true, if_true]
    rw [e]
    obtain ⟨μ1, d1, d2, d3⟩ := k_delay (n := n) (st := st) hX hw (by omega) 12
    have d1' : f_X4_delay (some (x + 149)) 12 (mkH n st S μ) = some (mkH n st S μ1) := d1
    refine ⟨μ1, ?_, fun a j q => d3 a j (by omega), fun τ hτ => ?_⟩
    · simp only [f_X4_acceptOne, rdck hX, ka, some_bind, if_true, d1']
      rfl
    · obtain rfl := Option.some.inj hτ
      refine ⟨⟨by rw [d3 _ _ (by omega)]; exact h3, (fun q => by rcases q with q | q <;> cases q), by rw [d3 _ _ (by omega)]; exact h6, d2, hc.fr (fun a j q => d3 a j (by omega)), hI.cons (by omega) (by omega)⟩, ?_, ho, fun q => by cases q⟩
      show (12 :: wt).length + cd.length ≤ _
      rw [List.length_cons]
      omega
  rw [if_neg c7] at ka
  have m10 : ¬ (-1 : Int32) = 0 := by decide
  by_cases c40 : tK T N p = 40
  · obtain ⟨μ1, d1, d2, d3⟩ := k_delay (n := n) (st := st) (μ := up2 μ (x + 149) 6 (nI (o + 1))) hX (hw.fr (fun a j q => up2_ne (by omega))) (by omega) 0
    have d1' : f_X4_delay (some (x + 149)) 0 (mkH n st S (up2 μ (x + 149) 6 (nI (o + 1)))) = some (mkH n st S μ1) := d1
    have e1 : nI o + 1 = nI (o + 1) := nI_add o 1
    have n6 : μ1 (x + 149) 6 = nI (o + 1) := by rw [d3 _ _ (by omega), up2_same]
    by_cases co : o + 1 ≤ 5
    · have g : ¬ (5 : Int32) < nI (o + 1) := fun q => by
        have : nI 5 < nI (o + 1) := q
        simp (disch := omega) only [nn_lt] at this
        omega
      have e : stepW T N (nI l) (2, sg, o, wt, cd) p = some (2, false, o + 1, 0 :: wt, cd) := by simp only [stepW, i7, c7, decide_false, Bool.false_eq_true, if_false, c40, if_true, co]
      rw [e]
      refine ⟨μ1, ?_, fun a j q => by rw [d3 a j (by omega), up2_ne (by omega)], fun τ hτ => ?_⟩
      · simp only [f_X4_acceptOne, rdck hX, ka, some_bind, m10, if_false, rdI8 hX, hk.2.2, s40, c40, if_true, rdI6 hX, h6, e1, rdP6 hX, d1', n6, g]
        rfl
      · obtain rfl := Option.some.inj hτ
        refine ⟨⟨by rw [d3 _ _ (by omega), up2_ne (by omega)]; exact h3, (fun q => by rcases q with q | q <;> cases q), n6, d2, hc.fr (fun a j q => by rw [d3 a j (by omega), up2_ne (by omega)]), hI.opn⟩, ?_, co, fun q => by cases q⟩
        show (0 :: wt).length + cd.length ≤ _
        rw [List.length_cons]
        omega
    · have g : (5 : Int32) < nI (o + 1) := nI_lt (a := 5) (by omega) (by omega)
      have e : stepW T N (nI l) (2, sg, o, wt, cd) p = none := by simp only [stepW, i7, c7, decide_false, Bool.false_eq_true, if_false, c40, if_true, co]
      rw [e]
      refine ⟨μ1, ?_, fun a j q => by rw [d3 a j (by omega), up2_ne (by omega)], fun τ hτ => by cases hτ⟩
      simp only [f_X4_acceptOne, rdck hX, ka, some_bind, m10, if_false, rdI8 hX, hk.2.2, s40, c40, if_true, rdI6 hX, h6, e1, rdP6 hX, d1', n6, g]
      rfl
  · obtain ⟨μ0, hm0⟩ : ∃ z, z = up2 μ (x + 149) 7 0 := ⟨_, rfl⟩
    have F0 : FrAcc x l μ μ0 := fun a j q => by rw [hm0, up2_ne (by omega)]
    obtain ⟨μ1, t1, t2, t3⟩ := k_term (n := n) (st := st) (μ := μ0) (l := l) hX (F0.base hB) (F0.tp hT) hp (F0.tk hk) h0 hl (by rw [F0 _ _ (by omega)]; exact h4) (hc.fr (fun a j q => by rw [hm0, up2_ne (by omega)])) (by omega)
    have e : stepW T N (nI l) (2, sg, o, wt, cd) p = (terM T N (nI l) p).map fun w => (4, false, o, wt, cd ++ [w]) := by simp only [stepW, i7, c7, decide_false, Bool.false_eq_true, if_false, c40, if_true]
    rw [e]
    refine ⟨μ1, ?_, fun a j q => by rw [t3 a j (by omega), F0 a j q], fun τ hτ => ?_⟩
    · rw [Option.isSome_map]
      simp only [f_X4_acceptOne, rdck hX, ka, some_bind, m10, if_false, rdI8 hX, hk.2.2, s40, c40, rdZ7_0 hX, ← hm0, t1, rZ_bI]
    · cases hw1 : terM T N (nI l) p with
      | none => rw [hw1] at hτ; cases hτ
      | some w =>
        rw [hw1, Option.map_some] at hτ
        obtain rfl := Option.some.inj hτ
        obtain ⟨u1, u2⟩ := t2 w hw1
        refine ⟨⟨u2, fun _ => by rw [t3 _ _ (by omega), hm0, up2_same]; rfl, by rw [t3 _ _ (by omega), hm0, up2_ne (by omega)]; exact h6, hw.fr (fun a j q => by rw [t3 a j (by omega), hm0, up2_ne (by omega)]), u1, hI⟩, ?_, ho, fun q => by cases q⟩
        show wt.length + (cd ++ [w]).length ≤ _
        rw [List.length_append, List.length_singleton]
        omega
theorem acc_term (hX : ShX S x) (hB : BaseOK st S μ x b) (hT : TpR μ x T N) (hp : p ≤ N) (hk : TkA μ x T N p) (h0 : ¬ tK T N p = 0) (hl : l < 4) (h4 : μ (x + 149) 4 = nI l) {sg : Bool} {o : Nat} {wt : List Nat} {cd : List Int32} (hM : RdM μ x (3, sg, o, wt, cd)) (ho : o ≤ 5) (hz : wt.length + cd.length ≤ p) : AccR n st S x l T N p μ (f_X4_acceptTerm (some (x + 149)) (mkH n st S μ)) (stepW T N (nI l) (3, sg, o, wt, cd) p) := by
  obtain ⟨h3, h7, h6, hw, hc, hI⟩ := hM
  have hw : RdW μ x wt := hw
  have hc : RdC μ x cd := hc
  have hN := hT.2.1
  have tp := tok_pos (T := T) hp
  have tpl := tp.2.2.2 h0
  obtain ⟨μ1, t1, t2, t3⟩ := k_term (n := n) (st := st) (l := l) hX hB hT hp hk h0 hl h4 hc (by omega)
  have e : stepW T N (nI l) (3, sg, o, wt, cd) p = (terM T N (nI l) p).map fun w => (4, sg, o, wt, cd ++ [w]) := by simp only [stepW, Nat.reduceEqDiff, if_false, if_true]
  rw [e]
  refine ⟨μ1, by rw [Option.isSome_map]; exact t1, fun a j q => t3 a j (by omega), fun τ hτ => ?_⟩
  cases hw1 : terM T N (nI l) p with
  | none => rw [hw1] at hτ; cases hτ
  | some w =>
    rw [hw1, Option.map_some] at hτ
    obtain rfl := Option.some.inj hτ
    obtain ⟨u1, u2⟩ := t2 w hw1
    refine ⟨⟨u2, fun _ => by rw [t3 _ _ (by omega)]; exact h7 (Or.inl rfl), by rw [t3 _ _ (by omega)]; exact h6, hw.fr (fun a j q => t3 a j (by omega)), u1, hI⟩, ?_, ho, fun q => by cases q⟩
    show wt.length + (cd ++ [w]).length ≤ _
    rw [List.length_append, List.length_singleton]
    omega
theorem acc_behind (hX : ShX S x) (hB : BaseOK st S μ x b) (hT : TpR μ x T N) (hp : p ≤ N) (hk : TkA μ x T N p) (h0 : ¬ tK T N p = 0) (hl : l < 4) (h4 : μ (x + 149) 4 = nI l) {sg : Bool} {o : Nat} {wt : List Nat} {cd : List Int32} (hM : RdM μ x (5, sg, o, wt, cd)) (ho : o ≤ 5) (hz : wt.length + cd.length ≤ p) : AccR n st S x l T N p μ (f_X4_acceptBehindOne (some (x + 149)) (mkH n st S μ)) (stepW T N (nI l) (5, sg, o, wt, cd) p) := by
  obtain ⟨h3, h7, h6, hw, hc, hI⟩ := hM
  have e : stepW T N (nI l) (5, sg, o, wt, cd) p = oneW T N o wt cd p := by simp only [stepW, Nat.reduceEqDiff, if_false]
  rw [e]
  exact k_one (n := n) (st := st) hX hB hT hp hk h0 hl h4 h6 hw hc hI ho (by omega)
theorem acc_behindT (hX : ShX S x) (hB : BaseOK st S μ x b) (hT : TpR μ x T N) (hp : p ≤ N) (hk : TkA μ x T N p) (h0 : ¬ tK T N p = 0) (hl : l < 4) (h4 : μ (x + 149) 4 = nI l) {sg : Bool} {o : Nat} {wt : List Nat} {cd : List Int32} (hM : RdM μ x (4, sg, o, wt, cd)) (ho : o ≤ 5) (hz : wt.length + cd.length ≤ p) : AccR n st S x l T N p μ (f_X4_acceptBehindTerm (some (x + 149)) (mkH n st S μ)) (stepW T N (nI l) (4, sg, o, wt, cd) p) := by
  obtain ⟨h3, h7, h6, hw, hc, hI⟩ := hM
  have h7 : μ (x + 149) 7 = bI sg := h7 (Or.inr rfl)
  have h6 : μ (x + 149) 6 = nI o := h6
  have hw : RdW μ x wt := hw
  have hc : RdC μ x cd := hc
  have hI : WI o wt := hI
  have hN := hT.2.1
  have tp := tok_pos (T := T) hp
  have tpl := tp.2.2.2 h0
  have fuL : FU = 4000 := rfl
  have hwl : wt.length ≤ 300 := by omega
  have s43 : (soS T N p = 43) = (tK T N p = 43) := so_op (v := 43) (by omega)
  have s45 : (soS T N p = 45) = (tK T N p = 45) := so_op (v := 45) (by omega)
  have s60 : (soS T N p = 60) = (tK T N p = 60) := so_op (v := 60) (by omega)
  have s61 : (soS T N p = 61) = (tK T N p = 61) := so_op (v := 61) (by omega)
  have s62 : (soS T N p = 62) = (tK T N p = 62) := so_op (v := 62) (by omega)
  have n8 := hk.2.2
  -- settle 20, then a sign waits
  obtain ⟨μ1, s1, s2, s3, s4⟩ := k_settle (n := n) (st := st) hX (op := 20) (by omega) wt cd FU μ hw hc (by omega) hwl (by omega) hI.lt
  have s1' : f_X4_settle (some (x + 149)) 20 (mkH n st S μ) = some (mkH n st S μ1) := s1
  have s2' : RdW μ1 x (setS 5 wt cd).1 := s2
  have s3' : RdC μ1 x (setS 5 wt cd).2 := s3
  have sln := setS_len 5 wt cd
  have n8' : μ1 (x + 149) 8 = soS T N p := by rw [s4 _ _ (by omega)]; exact n8
  have sign : ∀ (op : Nat) (sg' : Bool) (μ2 : MU), 4 ≤ op → op < 32 → RdW μ2 x (op :: (setS 5 wt cd).1) → (∀ a j, ¬ ((a = x + 149 ∧ j = 12) ∨ a = x + 157) → μ2 a j = μ1 a j) → ∀ μ3 : MU, μ3 (x + 149) 3 = 3 → μ3 (x + 149) 7 = bI sg' → (∀ a j, ¬ (a = x + 149 ∧ (j = 3 ∨ j = 7)) → μ3 a j = μ2 a j) → FrAcc x l μ μ3 ∧ ∀ τ, some (3, sg', o, op :: (setS 5 wt cd).1, (setS 5 wt cd).2) = some τ → RdM μ3 x τ ∧ szM τ ≤ tA T N p ∧ τ.2.2.1 ≤ 5 ∧ (τ.1 = 0 → τ.2.1 = false ∧ τ.2.2.1 = 0 ∧ τ.2.2.2.1 = [] ∧ μ3 (x + 154) l = nI τ.2.2.2.2.length) := by
    intro op sg' μ2 o1 o2 d2 d3 μ3 e3 e7 e0
    refine ⟨fun a j q => by rw [e0 a j (by omega), d3 a j (by omega), s4 a j (by omega)], fun τ hτ => ?_⟩
    obtain rfl := Option.some.inj hτ
    refine ⟨⟨e3, fun _ => e7, by rw [e0 _ _ (by omega), d3 _ _ (by omega), s4 _ _ (by omega)]; exact h6, d2.fr (fun a j q => e0 a j (by omega)), s3'.fr (fun a j q => by rw [e0 a j (by omega), d3 a j (by omega)]), (setS_WI (by omega) wt cd hI).cons o1 o2⟩, ?_, ho, fun q => by cases q⟩
    show (op :: (setS 5 wt cd).1).length + (setS 5 wt cd).2.length ≤ tA T N p
    rw [List.length_cons]
    omega
  by_cases c43 : tK T N p = 43 ∨ tK T N p = 45
  · have e : stepW T N (nI l) (4, sg, o, wt, cd) p = some (3, sg, o, (if tK T N p = 43 then 20 else 21) :: (setS 5 wt cd).1, (setS 5 wt cd).2) := by simp only [stepW, Nat.reduceEqDiff, if_false, if_true, c43]
    rw [e]
    have n7 : ∀ μ2 : MU, (∀ a j, ¬ ((a = x + 149 ∧ j = 12) ∨ a = x + 157) → μ2 a j = μ1 a j) → μ2 (x + 149) 7 = bI sg := fun μ2 h => by rw [h _ _ (by omega), s4 _ _ (by omega), h7]
    by_cases k43 : tK T N p = 43
    · rw [if_pos k43]
      obtain ⟨μ2, d1, d2, d3⟩ := k_delay (n := n) (st := st) hX s2' (by omega) 20
      have d1' : f_X4_delay (some (x + 149)) 20 (mkH n st S μ1) = some (mkH n st S μ2) := d1
      obtain ⟨w1, w2⟩ := sign 20 sg μ2 (by omega) (by omega) d2 d3 (up2 μ2 (x + 149) 3 3) up2_same (by rw [up2_ne (by omega)]; exact n7 μ2 d3) (fun a j q => up2_ne (by omega))
      refine ⟨_, ?_, w1, w2⟩
      simp only [f_X4_acceptBehindTerm, rdI8 hX, some_bind, n8, s43, k43, if_true, b_X4_acceptBehindTerm_18, rdck hX, s1', n8', b_X4_acceptBehindTerm_41, d1', rdP3 hX]
      rfl
    · have k45 : tK T N p = 45 := by rcases c43 with h | h; exact absurd h k43; exact h
      rw [if_neg k43]
      obtain ⟨μ2, d1, d2, d3⟩ := k_delay (n := n) (st := st) hX s2' (by omega) 21
      have d1' : f_X4_delay (some (x + 149)) 21 (mkH n st S μ1) = some (mkH n st S μ2) := d1
      obtain ⟨w1, w2⟩ := sign 21 sg μ2 (by omega) (by omega) d2 d3 (up2 μ2 (x + 149) 3 3) up2_same (by rw [up2_ne (by omega)]; exact n7 μ2 d3) (fun a j q => up2_ne (by omega))
      refine ⟨_, ?_, w1, w2⟩
      simp only [f_X4_acceptBehindTerm, rdI8 hX, some_bind, n8, s43, k43, if_false, s45, k45, if_true, b_X4_acceptBehindTerm_18, rdck hX, s1', n8', b_X4_acceptBehindTerm_41, d1', rdP3 hX]
      rfl
  have k43 : ¬ tK T N p = 43 := fun h => c43 (Or.inl h)
  have k45 : ¬ tK T N p = 45 := fun h => c43 (Or.inr h)
  by_cases ccmp : sg = false ∧ (tK T N p = 60 ∨ tK T N p = 61 ∨ tK T N p = 62)
  · obtain ⟨rfl, kc⟩ := ccmp
    have e : stepW T N (nI l) (4, false, o, wt, cd) p = some (3, true, o, (if tK T N p = 60 then 16 else if tK T N p = 61 then 17 else 18) :: (setS 5 wt cd).1, (setS 5 wt cd).2) := by simp only [stepW, Nat.reduceEqDiff, if_false, if_true, c43, kc, and_self]
    rw [e]
    obtain ⟨q, hq, eq⟩ : ∃ q, q < 3 ∧ tK T N p = nI (60 + q) := by
      rcases kc with h | h | h
      · exact ⟨0, by omega, h⟩
      · exact ⟨1, by omega, h⟩
      · exact ⟨2, by omega, h⟩
    have eop : (if tK T N p = 60 then 16 else if tK T N p = 61 then 17 else 18) = 16 + q := by
      rw [eq]
      rcases (by omega : q = 0 ∨ q = 1 ∨ q = 2) with rfl | rfl | rfl <;> decide
    have eso : soS T N p = nI (60 + q) := by
      rw [so_op (v := 60 + q) (by omega)]
      exact eq
    rw [eop]
    obtain ⟨μ2, d1, d2, d3⟩ := k_delay (n := n) (st := st) hX s2' (by omega) (16 + q)
    have ev : ((16 : Int32) + nI (60 + q)) - 60 = nI (16 + q) := by
      rcases (by omega : q = 0 ∨ q = 1 ∨ q = 2) with rfl | rfl | rfl <;> decide
    rw [eso] at n8'
    obtain ⟨w1, w2⟩ := sign (16 + q) true μ2 (by omega) (by omega) d2 d3 (up2 (up2 μ2 (x + 149) 7 1) (x + 149) 3 3) up2_same (by rw [up2_ne (by omega), up2_same]; rfl) (fun a j q => by rw [up2_ne (by omega), up2_ne (by omega)])
    refine ⟨_, ?_, w1, w2⟩
    have b85 : b_X4_acceptBehindTerm_85 (some (x + 149)) (mkH n st S μ) = some (1, mkH n st S (up2 (up2 μ2 (x + 149) 7 1) (x + 149) 3 3)) := by
      simp only [b_X4_acceptBehindTerm_85, rdck hX, s1', some_bind, rdI8 hX, n8', ev, d1, rdZ7_1 hX, rdP3 hX]
    have h70 : μ (x + 149) 7 = 0 := h7
    have st0 : f_X4_acceptBehindTerm (some (x + 149)) (mkH n st S μ) = b_X4_acceptBehindTerm_85 (some (x + 149)) (mkH n st S μ) := by
      by_cases h60 : tK T N p = 60
      · simp only [f_X4_acceptBehindTerm, rdI8 hX, some_bind, n8, s43, k43, if_false, s45, k45, rdI7 hX, h70, if_true, s60, h60]
        rw [if_neg (by decide), if_neg (by decide)]
      · by_cases h61 : tK T N p = 61
        · simp only [f_X4_acceptBehindTerm, rdI8 hX, some_bind, n8, s43, k43, if_false, s45, k45, rdI7 hX, h70, if_true, s60, h60, s61, h61]
          rw [if_neg (by decide), if_neg (by decide), if_neg (by decide)]
        · have h62 : tK T N p = 62 := by rcases kc with h | h | h; exact absurd h h60; exact absurd h h61; exact h
          simp only [f_X4_acceptBehindTerm, rdI8 hX, some_bind, n8, s43, k43, if_false, s45, k45, rdI7 hX, h70, if_true, s60, h60, s61, h61, s62, h62]
          rw [if_neg (by decide), if_neg (by decide), if_neg (by decide), if_neg (by decide)]
    rw [st0, b85]
    rfl
  · -- settle 16, truth, then behind one
    have e : stepW T N (nI l) (4, sg, o, wt, cd) p = oneW T N o (setS 4 wt cd).1 (if sg then (setS 4 wt cd).2 else (setS 4 wt cd).2 ++ [opw 26]) p := by simp only [stepW, Nat.reduceEqDiff, if_false, if_true, c43, ccmp]
    rw [e]
    have st0 : f_X4_acceptBehindTerm (some (x + 149)) (mkH n st S μ) = b_X4_acceptBehindTerm_117 (some (x + 149)) (mkH n st S μ) := by
      cases sg with
      | true =>
        have h71 : ¬ μ (x + 149) 7 = 0 := by rw [h7]; decide
        simp only [f_X4_acceptBehindTerm, rdI8 hX, some_bind, n8, s43, k43, if_false, s45, k45, rdI7 hX, h71]
      | false =>
        have h70 : μ (x + 149) 7 = 0 := h7
        have h60 : ¬ tK T N p = 60 := fun h => ccmp ⟨rfl, Or.inl h⟩
        have h61 : ¬ tK T N p = 61 := fun h => ccmp ⟨rfl, Or.inr (Or.inl h)⟩
        have h62 : ¬ tK T N p = 62 := fun h => ccmp ⟨rfl, Or.inr (Or.inr h)⟩
        simp only [f_X4_acceptBehindTerm, rdI8 hX, some_bind, n8, s43, k43, if_false, s45, k45, rdI7 hX, h70, if_true, s60, h60, s61, h61, s62, h62]
    obtain ⟨μ5, r1, r2, r3, r4⟩ := k_settle (n := n) (st := st) hX (op := 16) (by omega) wt cd FU μ hw hc (by omega) hwl (by omega) hI.lt
    have r1' : f_X4_settle (some (x + 149)) 16 (mkH n st S μ) = some (mkH n st S μ5) := r1
    have r2' : RdW μ5 x (setS 4 wt cd).1 := r2
    have r3' : RdC μ5 x (setS 4 wt cd).2 := r3
    have rln := setS_len 4 wt cd
    have F5 : FrAcc x l μ μ5 := r4.q
    have n7 : μ5 (x + 149) 7 = bI sg := by rw [r4 _ _ (by omega), h7]
    have n6 : μ5 (x + 149) 6 = nI o := by rw [r4 _ _ (by omega), h6]
    cases sg with
    | true =>
      have h71 : ¬ μ5 (x + 149) 7 = 0 := by rw [n7]; decide
      obtain ⟨μ6, o1, o2, o3⟩ := k_one (n := n) (st := st) (μ := μ5) (l := l) hX (F5.base hB) (F5.tp hT) hp (F5.tk hk) h0 hl (by rw [F5 _ _ (by omega)]; exact h4) n6 r2' r3' (setS_WI (by omega) wt cd hI) ho (by omega)
      refine ⟨μ6, ?_, F5.trans o2, o3⟩
      rw [st0]
      simp only [b_X4_acceptBehindTerm_117, b_X4_acceptBehindTerm_140, rdck hX, r1', some_bind, rdI7 hX, h71, if_false, o1, rZ_bI, if_true]
    | false =>
      have h70 : μ5 (x + 149) 7 = 0 := n7
      obtain ⟨μ7, v1, v2, v3⟩ := k_emit (n := n) (st := st) (μ := μ5) hX r3' (by omega) (show 26 < 32 by omega) (show 0 < 65536 by omega)
      have v1' : f_X3_emit (some (x + 151)) 26 0 (mkH n st S μ5) = some (mkH n st S μ7) := v1
      have F7 : FrAcc x l μ5 μ7 := fun a j q => v3 a j (by omega)
      obtain ⟨μ6, o1, o2, o3⟩ := k_one (n := n) (st := st) (μ := μ7) (l := l) hX (F7.base (F5.base hB)) (F7.tp (F5.tp hT)) hp (F7.tk (F5.tk hk)) h0 hl (by rw [F7 _ _ (by omega), F5 _ _ (by omega)]; exact h4) (by rw [v3 _ _ (by omega)]; exact n6) (r2'.fr (fun a j q => v3 a j (by omega))) (show RdC μ7 x ((setS 4 wt cd).2 ++ [opw 26]) from v2) (setS_WI (by omega) wt cd hI) ho (by rw [List.length_append, List.length_singleton]; omega)
      refine ⟨μ6, ?_, (F5.trans F7).trans o2, o3⟩
      rw [st0]
      simp only [b_X4_acceptBehindTerm_117, b_X4_acceptBehindTerm_140, rdck hX, r1', some_bind, rdI7 hX, h70, if_true, rdR2 hX, lck hX.draft, v1', o1, rZ_bI, if_false, Bool.false_eq_true]
theorem k_acceptC (hX : ShX S x) (hB : BaseOK st S μ x b) (hT : TpR μ x T N) (hp : p ≤ N) (hk : TkA μ x T N p) (h0 : ¬ tK T N p = 0) (hl : l < 4) (h4 : μ (x + 149) 4 = nI l) {σ : MSt} (hM : RdM μ x σ) (hmd : 2 ≤ σ.1 ∧ σ.1 ≤ 5) (ho : σ.2.2.1 ≤ 5) (hz : szM σ ≤ p) : AccR n st S x l T N p μ (f_X4_accept (some (x + 149)) (mkH n st S μ)) (stepW T N (nI l) σ p) := by
  obtain ⟨md, sg, o, wt, cd⟩ := σ
  have h3 : μ (x + 149) 3 = nI md := hM.1
  have hmd : 2 ≤ md ∧ md ≤ 5 := hmd
  have hz : wt.length + cd.length ≤ p := hz
  rcases (by omega : md = 2 ∨ md = 3 ∨ md = 4 ∨ md = 5) with rfl | rfl | rfl | rfl
  · have g0 : ¬ (nI 2 < 0 ∨ 5 < nI 2) := by decide
    have g1 : ¬ nI 2 = (0 : Int32) := by decide
    have g2 : ¬ nI 2 = (1 : Int32) := by decide
    have g3 : nI 2 = (2 : Int32) := rfl
    have a := rZ_acc (acc_one (n := n) (st := st) hX hB hT hp hk h0 hl h4 hM ho hz)
    have e : f_X4_accept (some (x + 149)) (mkH n st S μ) = (f_X4_acceptOne (some (x + 149)) (mkH n st S μ)).bind fun q => (rZ q.1).bind fun vz => some (vz, q.2) := by
      simp only [f_X4_accept, rdI3 hX, some_bind, h3, g0, g1, g2, if_false]
      rw [if_pos g3, rdck hX]
    rw [e]; exact a
  · have g0 : ¬ (nI 3 < 0 ∨ 5 < nI 3) := by decide
    have g1 : ¬ nI 3 = (0 : Int32) := by decide
    have g2 : ¬ nI 3 = (1 : Int32) := by decide
    have g3 : ¬ nI 3 = (2 : Int32) := by decide
    have g4 : nI 3 = (3 : Int32) := rfl
    have a := rZ_acc (acc_term (n := n) (st := st) hX hB hT hp hk h0 hl h4 hM ho hz)
    have e : f_X4_accept (some (x + 149)) (mkH n st S μ) = (f_X4_acceptTerm (some (x + 149)) (mkH n st S μ)).bind fun q => (rZ q.1).bind fun vz => some (vz, q.2) := by
      simp only [f_X4_accept, rdI3 hX, some_bind, h3, g0, g1, g2, g3, if_false]
      rw [if_pos g4, rdck hX]
    rw [e]; exact a
  · have g0 : ¬ (nI 4 < 0 ∨ 5 < nI 4) := by decide
    have g1 : ¬ nI 4 = (0 : Int32) := by decide
    have g2 : ¬ nI 4 = (1 : Int32) := by decide
    have g3 : ¬ nI 4 = (2 : Int32) := by decide
    have g4 : ¬ nI 4 = (3 : Int32) := by decide
    have g5 : nI 4 = (4 : Int32) := rfl
    have a := rZ_acc (acc_behindT (n := n) (st := st) hX hB hT hp hk h0 hl h4 hM ho hz)
    have e : f_X4_accept (some (x + 149)) (mkH n st S μ) = (f_X4_acceptBehindTerm (some (x + 149)) (mkH n st S μ)).bind fun q => (rZ q.1).bind fun vz => some (vz, q.2) := by
      simp only [f_X4_accept, rdI3 hX, some_bind, h3, g0, g1, g2, g3, g4, if_false]
      rw [if_pos g5, rdck hX]
    rw [e]; exact a
  · have g0 : ¬ (nI 5 < 0 ∨ 5 < nI 5) := by decide
    have g1 : ¬ nI 5 = (0 : Int32) := by decide
    have g2 : ¬ nI 5 = (1 : Int32) := by decide
    have g3 : ¬ nI 5 = (2 : Int32) := by decide
    have g4 : ¬ nI 5 = (3 : Int32) := by decide
    have g5 : ¬ nI 5 = (4 : Int32) := by decide
    have g6 : nI 5 = (5 : Int32) := rfl
    have a := rZ_acc (acc_behind (n := n) (st := st) hX hB hT hp hk h0 hl h4 hM ho hz)
    have e : f_X4_accept (some (x + 149)) (mkH n st S μ) = (f_X4_acceptBehindOne (some (x + 149)) (mkH n st S μ)).bind fun q => (rZ q.1).bind fun vz => some (vz, q.2) := by
      simp only [f_X4_accept, rdI3 hX, some_bind, h3, g0, g1, g2, g3, g4, g5, if_false]
      rw [if_pos g6, rdck hX]
    rw [e]; exact a
end ACCEPT2
