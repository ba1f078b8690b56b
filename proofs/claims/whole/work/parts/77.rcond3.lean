section RCOND3
variable {n : Nat} {st : Nat → Nat} {S : SH} {μ : MU} {x b m : Nat} {T : Nat → Int32} {N : Nat} {F : Nat → Int32}
theorem bI_and (a c : Bool) : bI a &&& bI c = bI (a && c) := by cases a <;> cases c <;> decide
theorem bI_or (a c : Bool) : bI a ||| bI c = bI (a || c) := by cases a <;> cases c <;> decide
theorem bI_inj {a c : Bool} (h : bI a = bI c) : a = c := by
  revert h
  cases a <;> cases c <;> decide
/-- the grammar goes on: what it leaves is behind where it began -/
def Fwd (N : Nat) (g : Nat → Nat ⊕ (Bool × Nat)) : Prop := ∀ p q, p ≤ N → g p = .inr q → p ≤ q.2
theorem r_everyL {kr : Option Nat → Int32 → AH → Option (Int32 × AH)} {l : Nat} (hl : l < 4) {o : Nat} {inner : Option (Nat → Nat ⊕ (Bool × Nat))} (hin : InK n st S x b m T N F kr (nI l) o inner) (hfw : Fwd N (sngS T N F (nI l) inner)) : ∀ k f fu (c : Bool) (p : Nat) (μ : MU), RdS st S x b m T N F o p μ → N - p ≤ k → k < f → k < fu → ∃ v μ', b_X12_every_6 kr fu (some m) (nI l) (bI c) (mkH n st S μ) = some (v, mkH n st S μ') ∧ (∃ q, v = bI q) ∧ Ou m T N bI μ μ' v (evL T N F (nI l) inner f c p) := by
  intro k
  have hend : ∀ fu (c : Bool) (p : Nat) (μ : MU), RdS st S x b m T N F o p μ → isW T N p 6 = false → b_X12_every_6 kr (fu + 1) (some m) (nI l) (bI c) (mkH n st S μ) = some (bI c, mkH n st S μ) := by
    intro fu c p μ h h6
    have hw := h.isWord (n := n) 6
    rw [h6] at hw
    have hS := h.1.1
    simp only [b_X12_every_6, rck hS, hw, some_bind, ite_bI0, Bool.false_eq_true, if_false, rZ_bI]
  induction k with
  | zero =>
    intro f fu c p μ h hk hf hfu
    obtain ⟨fu, rfl⟩ : ∃ q, fu = q + 1 := ⟨fu - 1, by omega⟩
    obtain ⟨f, rfl⟩ : ∃ q, f = q + 1 := ⟨f - 1, by omega⟩
    have h6 : isW T N p 6 = false := by
      cases hh : isW T N p 6 with
      | false => rfl
      | true =>
        have hlt := (tok_pos (T := T) h.2.2.2.2.2.2.2).2.2.2 (isW_n0 hh)
        have hle := (tok_pos (T := T) h.2.2.2.2.2.2.2).2.2.1
        omega
    rw [evL]
    simp only [h6, Bool.false_eq_true, if_false]
    exact ⟨_, μ, hend fu c p μ h h6, ⟨c, rfl⟩, fun _ _ _ => rfl, rfl, rfl, h.2.2.2.1, h.2.2.2.2.2.2.1, h.2.2.2.2.2.2.2⟩
  | succ k ih =>
    intro f fu c p μ h hk hf hfu
    obtain ⟨fu, rfl⟩ : ∃ q, fu = q + 1 := ⟨fu - 1, by omega⟩
    obtain ⟨f, rfl⟩ : ∃ q, f = q + 1 := ⟨f - 1, by omega⟩
    rw [evL]
    cases h6 : isW T N p 6 with
    | false =>
      simp only [Bool.false_eq_true, if_false]
      exact ⟨_, μ, hend fu c p μ h h6, ⟨c, rfl⟩, fun _ _ _ => rfl, rfl, rfl, h.2.2.2.1, h.2.2.2.2.2.2.1, h.2.2.2.2.2.2.2⟩
    | true =>
      simp only [if_true]
      have hw := h.isWord (n := n) 6
      rw [h6] at hw
      have hS := h.1.1
      have hN := h.2.2.1.2.1
      have hpp := tok_pos (T := T) h.2.2.2.2.2.2.2
      have hn0 := isW_n0 h6
      have hlt := hpp.2.2.2 hn0
      obtain ⟨μ1, g1, g2, g3⟩ := h.next (n := n)
      obtain ⟨v, μ2, r1, ⟨a, ra⟩, r3, r4, r5⟩ := r_single (n := n) hl hin g3
      subst ra
      have hfr := g2.frP.trans r3
      have h18 : μ2 m 18 = μ m 18 := by rw [r4, g2 _ _ (by omega)]
      have hx : b_X12_every_6 kr (fu + 1) (some m) (nI l) (bI c) (mkH n st S μ) = b_X12_every_6 kr fu (some m) (nI l) (bI (c && a)) (mkH n st S μ2) := by
        simp only [b_X12_every_6, rck hS, hw, some_bind, ite_bI0, if_true, g1, r1, bI_and]
      rw [hx]
      cases hse : sngS T N F (nI l) inner (tA T N p) with
      | inl e =>
        rw [hse] at r5
        obtain ⟨fu, rfl⟩ : ∃ q, fu = q + 1 := ⟨fu - 1, by omega⟩
        refine ⟨bI (c && a), μ2, ?_, ⟨_, rfl⟩, hfr, h18, r5⟩
        simp only [b_X12_every_6, rck hS, r_noWord hS (show e < 2 ^ 31 by have := r5.2; omega) r5.1, some_bind, if_true, rZ_bI]
      | inr z =>
        rw [hse] at r5
        obtain ⟨r5, r6, r7, r8⟩ := r5
        have ea := bI_inj r5
        subst ea
        have hz := hfw _ _ hpp.2.2.1 hse
        have g4 := g3.go r3 r6 (r4.trans g3.2.2.2.2.1) r7 r8
        obtain ⟨v', μ', s1, s2, s3, s4, s5⟩ := ih f fu (c && z.1) z.2 μ2 g4 (by omega) (by omega) (by omega)
        exact ⟨v', μ', s1, s2, hfr.trans s3, by rw [s4, h18], s5⟩
theorem every_eq (kr : Option Nat → Int32 → AH → Option (Int32 × AH)) (a0 : Option Nat) (a1 : Int32) (h : AH) (p : Int32 × AH) (fu : Nat) (hfu : FU = fu) (hs : ck 12 h a0 (f_X12_single kr a0 a1 h) = some p) : f_X12_every kr a0 a1 h = b_X12_every_6 kr fu a0 a1 p.1 p.2 := by
  subst hfu
  unfold f_X12_every
  rw [hs, some_bind]
theorem cond_eq (kr : Option Nat → Int32 → AH → Option (Int32 × AH)) (a0 : Option Nat) (a1 : Int32) (h : AH) (p : Int32 × AH) (fu : Nat) (hfu : FU = fu) (hs : ck 12 h a0 (f_X12_every kr a0 a1 h) = some p) : g_X12_cond kr a0 a1 h = b_X12_cond_6 kr fu a0 a1 p.1 p.2 := by
  subst hfu
  unfold g_X12_cond
  rw [hs, some_bind]
theorem r_every {kr : Option Nat → Int32 → AH → Option (Int32 × AH)} {l : Nat} (hl : l < 4) {o : Nat} {inner : Option (Nat → Nat ⊕ (Bool × Nat))} (hin : InK n st S x b m T N F kr (nI l) o inner) (hfw : Fwd N (sngS T N F (nI l) inner)) {p : Nat} (h : RdS st S x b m T N F o p μ) : ∃ v μ', f_X12_every kr (some m) (nI l) (mkH n st S μ) = some (v, mkH n st S μ') ∧ (∃ q, v = bI q) ∧ Ou m T N bI μ μ' v (evS T N F (nI l) inner p) := by
  have hS := h.1.1
  have hN := h.2.2.1.2.1
  obtain ⟨v, μ2, r1, ⟨a, ra⟩, r3, r4, r5⟩ := r_single (n := n) hl hin h
  subst ra
  obtain ⟨fu, hfu, hfl⟩ : ∃ q, FU = q ∧ 301 < q := ⟨FU, rfl, by decide⟩
  have hx : f_X12_every kr (some m) (nI l) (mkH n st S μ) = b_X12_every_6 kr fu (some m) (nI l) (bI a) (mkH n st S μ2) := by
    exact every_eq kr _ _ _ _ fu hfu (by rw [rck hS, r1])
  rw [hx]
  unfold evS
  cases hse : sngS T N F (nI l) inner p with
  | inl e =>
    rw [hse] at r5
    refine ⟨bI a, μ2, ?_, ⟨_, rfl⟩, r3, r4, r5⟩
    clear hx hfu
    obtain ⟨fu, rfl⟩ : ∃ q, fu = q + 1 := ⟨fu - 1, by omega⟩
    simp only [b_X12_every_6, rck hS, r_noWord hS (show e < 2 ^ 31 by have := r5.2; omega) r5.1, some_bind, if_true, rZ_bI]
  | inr z =>
    rw [hse] at r5
    obtain ⟨r5, r6, r7, r8⟩ := r5
    have ea := bI_inj r5
    subst ea
    have g4 := h.go r3 r6 (r4.trans h.2.2.2.2.1) r7 r8
    obtain ⟨v', μ', s1, s2, s3, s4, s5⟩ := r_everyL (n := n) hl hin hfw 300 400 fu z.1 z.2 μ2 g4 (by omega) (by omega) (by omega)
    exact ⟨v', μ', s1, s2, r3.trans s3, by rw [s4, r4], s5⟩
theorem r_condL {kr : Option Nat → Int32 → AH → Option (Int32 × AH)} {l : Nat} (hl : l < 4) {o : Nat} {inner : Option (Nat → Nat ⊕ (Bool × Nat))} (hin : InK n st S x b m T N F kr (nI l) o inner) (hfw : Fwd N (sngS T N F (nI l) inner)) (hfe : Fwd N (evS T N F (nI l) inner)) : ∀ k f fu (c : Bool) (p : Nat) (μ : MU), RdS st S x b m T N F o p μ → N - p ≤ k → k < f → k < fu → ∃ v μ', b_X12_cond_6 kr fu (some m) (nI l) (bI c) (mkH n st S μ) = some (v, mkH n st S μ') ∧ (∃ q, v = bI q) ∧ Ou m T N bI μ μ' v (orL T N F (nI l) inner f c p) := by
  intro k
  have hend : ∀ fu (c : Bool) (p : Nat) (μ : MU), RdS st S x b m T N F o p μ → isW T N p 5 = false → b_X12_cond_6 kr (fu + 1) (some m) (nI l) (bI c) (mkH n st S μ) = some (bI c, mkH n st S μ) := by
    intro fu c p μ h h6
    have hw := h.isWord (n := n) 5
    rw [h6] at hw
    have hS := h.1.1
    simp only [b_X12_cond_6, rck hS, hw, some_bind, ite_bI0, Bool.false_eq_true, if_false, rZ_bI]
  induction k with
  | zero =>
    intro f fu c p μ h hk hf hfu
    obtain ⟨fu, rfl⟩ : ∃ q, fu = q + 1 := ⟨fu - 1, by omega⟩
    obtain ⟨f, rfl⟩ : ∃ q, f = q + 1 := ⟨f - 1, by omega⟩
    have h6 : isW T N p 5 = false := by
      cases hh : isW T N p 5 with
      | false => rfl
      | true =>
        have hlt := (tok_pos (T := T) h.2.2.2.2.2.2.2).2.2.2 (isW_n0 hh)
        have hle := (tok_pos (T := T) h.2.2.2.2.2.2.2).2.2.1
        omega
    rw [orL]
    simp only [h6, Bool.false_eq_true, if_false]
    exact ⟨_, μ, hend fu c p μ h h6, ⟨c, rfl⟩, fun _ _ _ => rfl, rfl, rfl, h.2.2.2.1, h.2.2.2.2.2.2.1, h.2.2.2.2.2.2.2⟩
  | succ k ih =>
    intro f fu c p μ h hk hf hfu
    obtain ⟨fu, rfl⟩ : ∃ q, fu = q + 1 := ⟨fu - 1, by omega⟩
    obtain ⟨f, rfl⟩ : ∃ q, f = q + 1 := ⟨f - 1, by omega⟩
    rw [orL]
    cases h6 : isW T N p 5 with
    | false =>
      simp only [Bool.false_eq_true, if_false]
      exact ⟨_, μ, hend fu c p μ h h6, ⟨c, rfl⟩, fun _ _ _ => rfl, rfl, rfl, h.2.2.2.1, h.2.2.2.2.2.2.1, h.2.2.2.2.2.2.2⟩
    | true =>
      simp only [if_true]
      have hw := h.isWord (n := n) 5
      rw [h6] at hw
      have hS := h.1.1
      have hN := h.2.2.1.2.1
      have hpp := tok_pos (T := T) h.2.2.2.2.2.2.2
      have hn0 := isW_n0 h6
      have hlt := hpp.2.2.2 hn0
      obtain ⟨μ1, g1, g2, g3⟩ := h.next (n := n)
      obtain ⟨v, μ2, r1, ⟨a, ra⟩, r3, r4, r5⟩ := r_every (n := n) hl hin hfw g3
      subst ra
      have hfr := g2.frP.trans r3
      have h18 : μ2 m 18 = μ m 18 := by rw [r4, g2 _ _ (by omega)]
      have hx : b_X12_cond_6 kr (fu + 1) (some m) (nI l) (bI c) (mkH n st S μ) = b_X12_cond_6 kr fu (some m) (nI l) (bI (c || a)) (mkH n st S μ2) := by
        simp only [b_X12_cond_6, rck hS, hw, some_bind, ite_bI0, if_true, g1, r1, bI_or]
      rw [hx]
      cases hse : evS T N F (nI l) inner (tA T N p) with
      | inl e =>
        rw [hse] at r5
        obtain ⟨fu, rfl⟩ : ∃ q, fu = q + 1 := ⟨fu - 1, by omega⟩
        refine ⟨bI (c || a), μ2, ?_, ⟨_, rfl⟩, hfr, h18, r5⟩
        simp only [b_X12_cond_6, rck hS, r_noWord hS (show e < 2 ^ 31 by have := r5.2; omega) r5.1, some_bind, if_true, rZ_bI]
      | inr z =>
        rw [hse] at r5
        obtain ⟨r5, r6, r7, r8⟩ := r5
        have ea := bI_inj r5
        subst ea
        have hz := hfe _ _ hpp.2.2.1 hse
        have g4 := g3.go r3 r6 (r4.trans g3.2.2.2.2.1) r7 r8
        obtain ⟨v', μ', s1, s2, s3, s4, s5⟩ := ih f fu (c || z.1) z.2 μ2 g4 (by omega) (by omega) (by omega)
        exact ⟨v', μ', s1, s2, hfr.trans s3, by rw [s4, h18], s5⟩
theorem r_cond1 {kr : Option Nat → Int32 → AH → Option (Int32 × AH)} {l : Nat} (hl : l < 4) {o : Nat} {inner : Option (Nat → Nat ⊕ (Bool × Nat))} (hin : InK n st S x b m T N F kr (nI l) o inner) (hfw : Fwd N (sngS T N F (nI l) inner)) (hfe : Fwd N (evS T N F (nI l) inner)) {p : Nat} (h : RdS st S x b m T N F o p μ) : ∃ v μ', g_X12_cond kr (some m) (nI l) (mkH n st S μ) = some (v, mkH n st S μ') ∧ (∃ q, v = bI q) ∧ Ou m T N bI μ μ' v (orS T N F (nI l) inner p) := by
  have hS := h.1.1
  have hN := h.2.2.1.2.1
  obtain ⟨v, μ2, r1, ⟨a, ra⟩, r3, r4, r5⟩ := r_every (n := n) hl hin hfw h
  subst ra
  obtain ⟨fu, hfu, hfl⟩ : ∃ q, FU = q ∧ 301 < q := ⟨FU, rfl, by decide⟩
  have hx : g_X12_cond kr (some m) (nI l) (mkH n st S μ) = b_X12_cond_6 kr fu (some m) (nI l) (bI a) (mkH n st S μ2) := by
    exact cond_eq kr _ _ _ _ fu hfu (by rw [rck hS, r1])
  rw [hx]
  unfold orS
  cases hse : evS T N F (nI l) inner p with
  | inl e =>
    rw [hse] at r5
    refine ⟨bI a, μ2, ?_, ⟨_, rfl⟩, r3, r4, r5⟩
    clear hx hfu
    obtain ⟨fu, rfl⟩ : ∃ q, fu = q + 1 := ⟨fu - 1, by omega⟩
    simp only [b_X12_cond_6, rck hS, r_noWord hS (show e < 2 ^ 31 by have := r5.2; omega) r5.1, some_bind, if_true, rZ_bI]
  | inr z =>
    rw [hse] at r5
    obtain ⟨r5, r6, r7, r8⟩ := r5
    have ea := bI_inj r5
    subst ea
    have g4 := h.go r3 r6 (r4.trans h.2.2.2.2.1) r7 r8
    obtain ⟨v', μ', s1, s2, s3, s4, s5⟩ := r_condL (n := n) hl hin hfw hfe 300 400 fu z.1 z.2 μ2 g4 (by omega) (by omega) (by omega)
    exact ⟨v', μ', s1, s2, r3.trans s3, by rw [s4, r4], s5⟩
def innS (T : Nat → Int32) (N : Nat) (F : Nat → Int32) (line : Int32) : Nat → Option (Nat → Nat ⊕ (Bool × Nat))
  | 0 => none
  | r + 1 => some (conS T N F line r)
/-- the positions that the machine finds too -/
theorem fwd_con {l : Nat} (hN : N ≤ 300) : ∀ r, r ≤ 5 → Fwd N (conS T N F (nI l) r) ∧ Fwd N (sngS T N F (nI l) (innS T N F (nI l) r)) ∧ Fwd N (evS T N F (nI l) (innS T N F (nI l) r)) := by
  intro r hr
  have hin : InR (5 - r) (5 + 2 * r) (innS T N F (nI l) r) F T N (nI l) := by
    cases r with
    | zero => rfl
    | succ r =>
      refine ⟨by omega, fun W C p hW hp => ?_⟩
      have := conM (T := T) (N := N) (F := F) (line := nI l) hN r (5 - (r + 1) + 1) (by omega) W C p hW hp
      unfold OneR at this ⊢
      cases hc : conS T N F (nI l) r p with
      | inl e => rw [hc] at this; exact this
      | inr q =>
        rw [hc] at this
        obtain ⟨c, A, t1, t2, t3, t4⟩ := this
        exact ⟨c, A, t1, t2, t3.mono (by omega), t4⟩
  refine ⟨?_, ?_, ?_⟩
  · intro p q hp hq
    have := conM (T := T) (N := N) (F := F) (line := nI l) hN r (5 - r) (by omega) [] [] p trivial hp
    unfold OneR at this
    rw [hq] at this
    obtain ⟨c, A, t1, t2, t3, t4, t5, -⟩ := this
    omega
  · intro p q hp hq
    have := sngM (T := T) (N := N) (F := F) (line := nI l) (C := []) (W := []) (d := 5 + 2 * r) hin (by omega) (by omega) trivial hp hN
    unfold OneR at this
    rw [hq] at this
    obtain ⟨c, A, t1, t2, t3, t4, t5, -⟩ := this
    omega
  · intro p q hp hq
    have := evM (T := T) (N := N) (F := F) (line := nI l) (C := []) (W := []) (d := 5 + 2 * r) hin (by omega) (by omega) trivial hp hN
    unfold OneR at this
    rw [hq] at this
    obtain ⟨c, A, t1, t2, t3, t4, t5, -⟩ := this
    omega
theorem r_cond {l : Nat} (hl : l < 4) (hN : N ≤ 300) : ∀ r o k, o + r = 5 → r < k → ∀ (μ : MU) (p : Nat), RdS st S x b m T N F o p μ → ∃ v μ', f_X12_cond k (some m) (nI l) (mkH n st S μ) = some (v, mkH n st S μ') ∧ Ou m T N bI μ μ' v (conS T N F (nI l) r p) ∧ ∃ q, v = bI q := by
  intro r
  induction r with
  | zero =>
    intro o k ho hk μ p h
    obtain ⟨k, rfl⟩ : ∃ q, k = q + 1 := ⟨k - 1, by omega⟩
    have hf := fwd_con (T := T) (N := N) (F := F) (l := l) hN 0 (by omega)
    obtain ⟨v, μ', r1, r2, r3⟩ := r_cond1 (n := n) (kr := f_X12_cond k) hl (inner := none) (o := o) (show o = 5 by omega) hf.2.1 hf.2.2 h
    exact ⟨v, μ', r1, r3, r2⟩
  | succ r ih =>
    intro o k ho hk μ p h
    obtain ⟨k, rfl⟩ : ∃ q, k = q + 1 := ⟨k - 1, by omega⟩
    have hf := fwd_con (T := T) (N := N) (F := F) (l := l) hN (r + 1) (by omega)
    obtain ⟨v, μ', r1, r2, r3⟩ := r_cond1 (n := n) (kr := f_X12_cond k) hl (inner := some (conS T N F (nI l) r)) (o := o) ⟨by omega, fun μ p h => ih (o + 1) k (by omega) (by omega) μ p h⟩ hf.2.1 hf.2.2 h
    exact ⟨v, μ', r1, r3, r2⟩
end RCOND3
