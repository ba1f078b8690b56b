-- ===== conditions: the machine follows the grammar =====
section SHUNT3
variable {T : Nat → Int32} {N : Nat} {F : Nat → Int32} {line : Int32}
/-- a row of nots that turns a truth, or doesn't -/
def Neg (F : Nat → Int32) (A : List Nat) (t : Bool) : Prop := (∀ w ∈ A, w = 12) ∧ ∀ (c : List Int32) (b : Bool) (d : Nat), PushD F c (bI b) d → PushD F (c ++ A.map opw) (bI (b != t)) d
theorem Neg.nil : Neg F [] false := ⟨by simp, fun c b d h => by simpa using h⟩
theorem Neg.cons {A : List Nat} {t : Bool} (h : Neg F A t) : Neg F (12 :: A) (!t) := by
  refine ⟨?_, ?_⟩
  · intro w hw
    rcases List.mem_cons.mp hw with h1 | h1
    · exact h1
    · exact h.1 w h1
  · intro c b d hc
    have := h.2 (c ++ [opw 12]) (!b) d (push_not hc)
    have e : ((!b) != t) = (b != !t) := by cases b <;> cases t <;> rfl
    rw [e] at this
    simpa using this
theorem notM {o : Nat} {W : List Nat} {C : List Int32} : ∀ k f (t : Bool) (A : List Nat) (p p0 : Nat) (σ : MSt), N - p ≤ k → k < f → p ≤ N → p0 ≤ p → Neg F A t → rW T N line σ p0 = rW T N line (2, false, o, A ++ W, C) p → ∃ A', rW T N line σ p0 = rW T N line (2, false, o, A' ++ W, C) (notL T N f t p).2 ∧ Neg F A' (notL T N f t p).1 ∧ (notL T N f t p).2 ≤ N ∧ p0 ≤ (notL T N f t p).2 ∧ isW T N (notL T N f t p).2 7 = false := by
  intro k
  induction k with
  | zero =>
    intro f t A p p0 σ hk hf hp h0 hA hr
    obtain ⟨f, rfl⟩ : ∃ j, f = j + 1 := ⟨f - 1, by omega⟩
    rw [notL]
    by_cases h1 : isW T N p 7 = true
    · exfalso
      have hn0 : ¬ tK T N p = 0 := by
        simp only [isW, decide_eq_true_eq] at h1
        rw [h1.1]; decide
      have hlt := (tok_pos (T := T) hp).2.2.2 hn0
      have hle := (tok_pos (T := T) hp).2.2.1
      omega
    · rw [if_neg h1]
      exact ⟨A, hr, hA, hp, h0, by simpa using h1⟩
  | succ k ih =>
    intro f t A p p0 σ hk hf hp h0 hA hr
    obtain ⟨f, rfl⟩ : ∃ j, f = j + 1 := ⟨f - 1, by omega⟩
    rw [notL]
    by_cases h1 : isW T N p 7 = true
    · rw [if_pos h1]
      have hn0 : ¬ tK T N p = 0 := by
        have := h1
        simp only [isW, decide_eq_true_eq] at this
        rw [this.1]; decide
      have hpp := tok_pos (T := T) hp
      have hlt := hpp.2.2.2 hn0
      have hst : stepW T N line (2, false, o, A ++ W, C) p = some (2, false, o, (12 :: A) ++ W, C) := by
        simp only [stepW, if_true, h1]
        rfl
      exact ih f (!t) (12 :: A) (tA T N p) p0 σ (by omega) (by omega) hpp.2.2.1 (by omega) hA.cons (hr.trans (rW_go hp hn0 hst (by simp)))
    · rw [if_neg h1]
      exact ⟨A, hr, hA, hp, h0, by simpa using h1⟩
def OneR (π o : Nat) (W : List Nat) (C : List Int32) (σ : MSt) (p d : Nat) (res : Nat ⊕ (Bool × Nat)) (F : Nat → Int32) (T : Nat → Int32) (N : Nat) (line : Int32) : Prop := match res with
  | .inl e => rW T N line σ p = .inl e
  | .inr q => ∃ (c : List Int32) (A : List Nat), rW T N line σ p = rW T N line (5, false, o, A ++ W, C ++ c) q.2 ∧ (∀ w ∈ A, π ≤ w / 4) ∧ PushD F (c ++ A.map opw) (bI q.1) d ∧ q.2 ≤ N ∧ p < q.2 ∧ (π ≤ 2 → isW T N q.2 6 = false) ∧ (π ≤ 1 → isW T N q.2 5 = false)
/-- what stands inside brackets -/
def InR (o dI : Nat) (inner : Option (Nat → Nat ⊕ (Bool × Nat))) (F : Nat → Int32) (T : Nat → Int32) (N : Nat) (line : Int32) : Prop := match inner with
  | none => o = 5
  | some g => o < 5 ∧ ∀ (W : List Nat) (C : List Int32) (p : Nat), lowW 1 W → p ≤ N → OneR 1 (o + 1) W C (2, false, o + 1, W, C) p dI (g p) F T N line
theorem sngM {o d dI : Nat} {W : List Nat} {C : List Int32} {inner : Option (Nat → Nat ⊕ (Bool × Nat))} (hin : InR o dI inner F T N line) (hd : 3 ≤ d) (hdI : dI ≤ d) (hW : lowW 3 W) {p : Nat} (hp : p ≤ N) (hN : N ≤ 300) : OneR 3 o W C (2, false, o, W, C) p d (sngS T N F line inner p) F T N line := by
  obtain ⟨A, r1, hA, hz, hpz, h7⟩ := notM (T := T) (N := N) (F := F) (line := line) (o := o) (W := W) (C := C) 300 400 false [] p p (2, false, o, W, C) (by omega) (by omega) hp (Nat.le_refl _) Neg.nil rfl
  unfold sngS
  obtain ⟨z, hzz⟩ : ∃ z, z = notL T N 400 false p := ⟨_, rfl⟩
  rw [← hzz] at r1 hA hz hpz h7 ⊢
  have hA3 : ∀ w ∈ A, 3 ≤ w / 4 := fun w hw => by rw [hA.1 w hw]; decide
  simp only []
  by_cases h40 : tK T N z.2 = 40
  · rw [if_pos h40]
    have hn0 : ¬ tK T N z.2 = 0 := by rw [h40]; decide
    have hpp := tok_pos (T := T) hz
    have hlt := hpp.2.2.2 hn0
    cases inner with
    | none =>
      simp only []
      have ho : o = 5 := hin
      show rW T N line _ p = .inl _
      rw [r1]
      refine rW_rej hz ?_
      simp only [stepW, if_true, h7, Bool.false_eq_true, if_false, h40]
      rw [if_neg (by omega)]
    | some g =>
      simp only []
      obtain ⟨ho, hg⟩ := hin
      have hst : stepW T N line (2, false, o, A ++ W, C) z.2 = some (2, false, o + 1, 0 :: (A ++ W), C) := by
        simp only [stepW, if_true, h7, Bool.false_eq_true, if_false, h40]
        rw [if_pos (by omega)]
      have r2 := r1.trans (rW_go hz hn0 hst (by simp))
      have hgg := hg (0 :: (A ++ W)) C (tA T N z.2) (by show 0 / 4 < 1; omega) hpp.2.2.1
      cases hge : g (tA T N z.2) with
      | inl e =>
        rw [hge] at hgg
        exact r2.trans hgg
      | inr q =>
        rw [hge] at hgg
        obtain ⟨c, B, t1, t2, t3, t4, t5, t6, t7⟩ := hgg
        have r3 := r2.trans t1
        simp only []
        have q6 := t6 (by omega)
        have q5 := t7 (by omega)
        have hsB := setS_app (π := 1) (P := B) (W := 0 :: (A ++ W)) t2 (by show 0 / 4 < 1; omega) (C ++ c)
        by_cases h41 : tK T N q.2 = 41
        · rw [if_pos h41]
          have hm0 : ¬ tK T N q.2 = 0 := by rw [h41]; decide
          have hqq := tok_pos (T := T) t4
          have hlt2 := hqq.2.2.2 hm0
          have hst2 : stepW T N line (5, false, o + 1, B ++ 0 :: (A ++ W), C ++ c) q.2 = some (5, false, o, A ++ W, C ++ (c ++ B.map opw)) := by
            simp only [stepW, oneW, q6, q5, Bool.false_eq_true, if_false, h41, hsB, Nat.reduceEqDiff, List.append_assoc, List.tail_cons, Nat.add_sub_cancel]
            rw [if_pos ⟨trivial, by omega⟩]
          refine ⟨c ++ B.map opw, A, r3.trans (rW_go t4 hm0 hst2 (by simp)), hA3, ?_, hqq.2.2.1, by omega, by omega, by omega⟩
          exact hA.2 _ _ _ (t3.mono hdI)
        · rw [if_neg h41]
          show rW T N line _ p = .inl _
          rw [r3]
          refine rW_rej t4 ?_
          have ho1 : ¬ (o + 1 = 0 ∧ tK T N q.2 = 59) := fun h => by omega
          simp only [stepW, oneW, q6, q5, Bool.false_eq_true, if_false, h41, false_and, Nat.reduceEqDiff, ho1]
  · rw [if_neg h40]
    have rs : rW T N line (2, false, o, A ++ W, C) z.2 = rW T N line (3, false, o, A ++ W, C) z.2 := by
      refine rW_same hz ?_
      simp only [stepW, if_true, h7, Bool.false_eq_true, if_false, h40, Nat.reduceEqDiff]
    have hl4 : lowW 4 (A ++ W) := by
      cases A with
      | nil => exact lowW_mono hW (by omega)
      | cons w A =>
        have := hA.1 w (List.mem_cons_self ..)
        show w / 4 < 4
        omega
    have hc := cmpM (T := T) (N := N) (F := F) (line := line) (o := o) (W := A ++ W) (C := C) hl4 hz hN
    cases hce : cmpS T N F line z.2 with
    | inl e =>
      rw [hce] at hc
      exact r1.trans (rs.trans hc)
    | inr q =>
      rw [hce] at hc
      obtain ⟨c, t1, t2, t3, t4⟩ := hc
      exact ⟨c, A, r1.trans (rs.trans t1), hA3, hA.2 _ _ _ (t2.mono hd), t3, by omega, by omega, by omega⟩
theorem isW_n0 {p : Nat} {w : Int32} (h : isW T N p w = true) : ¬ tK T N p = 0 := by
  simp only [isW, decide_eq_true_eq] at h
  rw [h.1]; decide
theorem evLM {o d dI : Nat} {W : List Nat} {C : List Int32} {inner : Option (Nat → Nat ⊕ (Bool × Nat))} (hin : InR o dI inner F T N line) (hd : 3 ≤ d) (hdI : dI ≤ d) (hW : lowW 2 W) (hN : N ≤ 300) : ∀ k f (v : Bool) (q p0 : Nat) (σ : MSt) (c : List Int32) (A : List Nat), N - q ≤ k → k < f → q ≤ N → p0 < q → (∀ w ∈ A, 2 ≤ w / 4) → PushD F (c ++ A.map opw) (bI v) (d + 1) → rW T N line σ p0 = rW T N line (5, false, o, A ++ W, C ++ c) q → OneR 2 o W C σ p0 (d + 1) (evL T N F line inner f v q) F T N line := by
  intro k
  induction k with
  | zero =>
    intro f v q p0 σ c A hk hf hq h0 hA hv hr
    obtain ⟨f, rfl⟩ : ∃ j, f = j + 1 := ⟨f - 1, by omega⟩
    rw [evL]
    by_cases h1 : isW T N q 6 = true
    · have hlt := (tok_pos (T := T) hq).2.2.2 (isW_n0 h1)
      have hle := (tok_pos (T := T) hq).2.2.1
      omega
    · rw [if_neg h1]
      exact ⟨c, A, hr, hA, hv, hq, h0, fun _ => by simpa using h1, by omega⟩
  | succ k ih =>
    intro f v q p0 σ c A hk hf hq h0 hA hv hr
    obtain ⟨f, rfl⟩ : ∃ j, f = j + 1 := ⟨f - 1, by omega⟩
    rw [evL]
    by_cases h1 : isW T N q 6 = true
    · rw [if_pos h1]
      have hn0 := isW_n0 h1
      have hpp := tok_pos (T := T) hq
      have hlt := hpp.2.2.2 hn0
      have hsA := setS_app (π := 2) hA hW (C ++ c)
      have hst : stepW T N line (5, false, o, A ++ W, C ++ c) q = some (2, false, o, 8 :: W, C ++ (c ++ A.map opw)) := by
        simp only [stepW, oneW, h1, if_true, hsA, Nat.reduceEqDiff, if_false, List.append_assoc]
      have r2 := hr.trans (rW_go hq hn0 hst (by simp))
      have hs := sngM (C := C ++ (c ++ A.map opw)) hin hd hdI (W := 8 :: W) (by show 8 / 4 < 3; omega) hpp.2.2.1 hN
      cases hse : sngS T N F line inner (tA T N q) with
      | inl e =>
        rw [hse] at hs
        exact r2.trans hs
      | inr z =>
        rw [hse] at hs
        obtain ⟨c2, A2, t1, t2, t3, t4, t5, -, -⟩ := hs
        simp only []
        refine ih f (v && z.1) z.2 p0 σ (c ++ A.map opw ++ c2) (A2 ++ [8]) (by omega) (by omega) t4 (by omega) ?_ ?_ ?_
        · intro w hw
          rcases List.mem_append.mp hw with h | h
          · have := t2 w h; omega
          · rw [List.mem_singleton] at h; omega
        · have pb := push_bin (op := 8) hv t3 (d := d + 1) (by omega) (by omega) (by omega) (by omega)
          rw [bin_and] at pb
          simpa [List.append_assoc] using pb
        · rw [r2, t1]
          simp [List.append_assoc]
    · rw [if_neg h1]
      exact ⟨c, A, hr, hA, hv, hq, h0, fun _ => by simpa using h1, by omega⟩
theorem evM {o d dI : Nat} {W : List Nat} {C : List Int32} {inner : Option (Nat → Nat ⊕ (Bool × Nat))} (hin : InR o dI inner F T N line) (hd : 3 ≤ d) (hdI : dI ≤ d) (hW : lowW 2 W) {p : Nat} (hp : p ≤ N) (hN : N ≤ 300) : OneR 2 o W C (2, false, o, W, C) p (d + 1) (evS T N F line inner p) F T N line := by
  have hs := sngM (C := C) hin hd hdI (W := W) (lowW_mono hW (by omega)) hp hN
  unfold evS
  cases hse : sngS T N F line inner p with
  | inl e => rw [hse] at hs; exact hs
  | inr z =>
    rw [hse] at hs
    obtain ⟨c2, A2, t1, t2, t3, t4, t5, -, -⟩ := hs
    exact evLM hin hd hdI hW hN 300 400 z.1 z.2 p _ c2 A2 (by omega) (by omega) t4 t5 (fun w hw => by have := t2 w hw; omega) (t3.mono (by omega)) t1
theorem orLM {o d dI : Nat} {W : List Nat} {C : List Int32} {inner : Option (Nat → Nat ⊕ (Bool × Nat))} (hin : InR o dI inner F T N line) (hd : 3 ≤ d) (hdI : dI ≤ d) (hW : lowW 1 W) (hN : N ≤ 300) : ∀ k f (v : Bool) (q p0 : Nat) (σ : MSt) (c : List Int32) (A : List Nat), N - q ≤ k → k < f → q ≤ N → p0 < q → (∀ w ∈ A, 1 ≤ w / 4) → PushD F (c ++ A.map opw) (bI v) (d + 2) → isW T N q 6 = false → rW T N line σ p0 = rW T N line (5, false, o, A ++ W, C ++ c) q → OneR 1 o W C σ p0 (d + 2) (orL T N F line inner f v q) F T N line := by
  intro k
  induction k with
  | zero =>
    intro f v q p0 σ c A hk hf hq h0 hA hv h6 hr
    obtain ⟨f, rfl⟩ : ∃ j, f = j + 1 := ⟨f - 1, by omega⟩
    rw [orL]
    by_cases h1 : isW T N q 5 = true
    · have hlt := (tok_pos (T := T) hq).2.2.2 (isW_n0 h1)
      have hle := (tok_pos (T := T) hq).2.2.1
      omega
    · rw [if_neg h1]
      exact ⟨c, A, hr, hA, hv, hq, h0, fun _ => h6, fun _ => by simpa using h1⟩
  | succ k ih =>
    intro f v q p0 σ c A hk hf hq h0 hA hv h6 hr
    obtain ⟨f, rfl⟩ : ∃ j, f = j + 1 := ⟨f - 1, by omega⟩
    rw [orL]
    by_cases h1 : isW T N q 5 = true
    · rw [if_pos h1]
      have hn0 := isW_n0 h1
      have hpp := tok_pos (T := T) hq
      have hlt := hpp.2.2.2 hn0
      have hsA := setS_app (π := 1) hA hW (C ++ c)
      have hst : stepW T N line (5, false, o, A ++ W, C ++ c) q = some (2, false, o, 4 :: W, C ++ (c ++ A.map opw)) := by
        simp only [stepW, oneW, h6, h1, if_true, hsA, Nat.reduceEqDiff, if_false, List.append_assoc, Bool.false_eq_true]
      have r2 := hr.trans (rW_go hq hn0 hst (by simp))
      have hs := evM (C := C ++ (c ++ A.map opw)) hin hd hdI (W := 4 :: W) (by show 4 / 4 < 2; omega) hpp.2.2.1 hN
      cases hse : evS T N F line inner (tA T N q) with
      | inl e =>
        rw [hse] at hs
        exact r2.trans hs
      | inr z =>
        rw [hse] at hs
        obtain ⟨c2, A2, t1, t2, t3, t4, t5, t6, -⟩ := hs
        simp only []
        refine ih f (v || z.1) z.2 p0 σ (c ++ A.map opw ++ c2) (A2 ++ [4]) (by omega) (by omega) t4 (by omega) ?_ ?_ (t6 (by omega)) ?_
        · intro w hw
          rcases List.mem_append.mp hw with h | h
          · have := t2 w h; omega
          · rw [List.mem_singleton] at h; omega
        · have pb := push_bin (op := 4) hv t3 (d := d + 2) (by omega) (by omega) (by omega) (by omega)
          rw [bin_or] at pb
          simpa [List.append_assoc] using pb
        · rw [r2, t1]
          simp [List.append_assoc]
    · rw [if_neg h1]
      exact ⟨c, A, hr, hA, hv, hq, h0, fun _ => h6, fun _ => by simpa using h1⟩
theorem orM {o d dI : Nat} {W : List Nat} {C : List Int32} {inner : Option (Nat → Nat ⊕ (Bool × Nat))} (hin : InR o dI inner F T N line) (hd : 3 ≤ d) (hdI : dI ≤ d) (hW : lowW 1 W) {p : Nat} (hp : p ≤ N) (hN : N ≤ 300) : OneR 1 o W C (2, false, o, W, C) p (d + 2) (orS T N F line inner p) F T N line := by
  have hs := evM (C := C) hin hd hdI (W := W) (lowW_mono hW (by omega)) hp hN
  unfold orS
  cases hse : evS T N F line inner p with
  | inl e => rw [hse] at hs; exact hs
  | inr z =>
    rw [hse] at hs
    obtain ⟨c2, A2, t1, t2, t3, t4, t5, t6, -⟩ := hs
    exact orLM hin hd hdI hW hN 300 400 z.1 z.2 p _ c2 A2 (by omega) (by omega) t4 t5 (fun w hw => by have := t2 w hw; omega) (t3.mono (by omega)) (t6 (by omega)) t1
theorem conM (hN : N ≤ 300) : ∀ r o, o + r = 5 → ∀ (W : List Nat) (C : List Int32) (p : Nat), lowW 1 W → p ≤ N → OneR 1 o W C (2, false, o, W, C) p (5 + 2 * r) (conS T N F line r p) F T N line := by
  intro r
  induction r with
  | zero =>
    intro o ho W C p hW hp
    exact orM (d := 3) (dI := 3) (inner := none) (show o = 5 by omega) (by omega) (by omega) hW hp hN
  | succ r ih =>
    intro o ho W C p hW hp
    have := orM (T := T) (N := N) (F := F) (line := line) (C := C) (d := 5 + 2 * r) (dI := 5 + 2 * r) (inner := some (conS T N F line r)) (o := o) ⟨by omega, fun W C p hW hp => ih (o + 1) (by omega) W C p hW hp⟩ (by omega) (by omega) hW hp hN
    rw [show 5 + 2 * (r + 1) = 5 + 2 * r + 2 from by omega]
    exact this
/-- a line that isn't of years -/
theorem linM {l : Nat} (hl : l < 4) (hN : N ≤ 300) (C : List Int32) {p : Nat} (hp : p ≤ N) : match linS T N F l p with
    | .inl e => rW T N (nI l) (2, false, 0, [], C) p = .inl e
    | .inr q => ∃ c b, rW T N (nI l) (2, false, 0, [], C) p = .inr (C ++ c, q.2) ∧ q.1 = bI b ∧ PushD F c (bI b) 15 ∧ q.2 ≤ N ∧ p < q.2 := by
  have hc := conM (T := T) (N := N) (F := F) (line := nI l) hN 5 0 (by omega) [] C p trivial hp
  unfold linS
  rw [if_pos hl]
  cases hce : conS T N F (nI l) 5 p with
  | inl e =>
    rw [hce] at hc
    exact hc
  | inr q =>
    rw [hce] at hc
    obtain ⟨c, B, t1, t2, t3, t4, t5, t6, t7⟩ := hc
    simp only []
    have q6 := t6 (by omega)
    have q5 := t7 (by omega)
    have hsB := setS_app (π := 1) (P := B) (W := []) t2 trivial (C ++ c)
    by_cases h59 : tK T N q.2 = 59
    · rw [if_pos h59]
      have hm0 : ¬ tK T N q.2 = 0 := by rw [h59]; decide
      have hqq := tok_pos (T := T) t4
      have hlt2 := hqq.2.2.2 hm0
      have h41 : ¬ tK T N q.2 = 41 := by rw [h59]; decide
      have hst : stepW T N (nI l) (5, false, 0, B ++ [], C ++ c) q.2 = some (0, false, 0, [], C ++ (c ++ B.map opw)) := by
        simp only [stepW, oneW, q6, q5, Bool.false_eq_true, if_false, Nat.lt_irrefl, and_false, h59, and_self, if_true, hsB, Nat.reduceEqDiff, List.append_assoc]
      exact ⟨c ++ B.map opw, q.1, t1.trans (rW_fin t4 hm0 hst rfl), rfl, t3, hqq.2.2.1, by omega⟩
    · rw [if_neg h59]
      show rW T N (nI l) _ p = .inl _
      rw [t1]
      refine rW_rej t4 ?_
      simp only [stepW, oneW, q6, q5, Bool.false_eq_true, if_false, Nat.lt_irrefl, and_false, h59, Nat.reduceEqDiff]
theorem runC_push {c : List Int32} {b : Bool} (h : PushD F c (bI b) 15) : runC F c = b := by
  have := h [] (by simp)
  unfold runC
  rw [this]
  cases b <;> rfl
end SHUNT3
