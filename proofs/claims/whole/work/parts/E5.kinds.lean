-- ===== the law's loop =====
def Ok (o : Option (Int32 × AH)) : Prop := ∃ H, o = some (1, H)
section LOOP
variable {n m j : Nat} {st : Nat → Nat} {S : SH} {μ : MU} {x b L : Nat} {xs : Nat → Int32} {h : AH}
theorem kk_gF {v : Value} (e : gF 12 j h (some m) = some v) : (h.2.1 m).1 = 12 := by
  by_cases q : (h.2.1 m).1 = 12
  · exact q
  · have e' : (if (h.2.1 m).1 = 12 then some ((h.2.1 m).2.2 j) else none) = some v := e
    rw [if_neg q] at e'
    cases e'
theorem kk_gR {β : Type} {f : Option Nat → Option β} {w : β} (e : (gR 12 j h (some m)).bind f = some w) : (h.2.1 m).1 = 12 := by
  obtain ⟨v, e1, -⟩ := Option.bind_eq_some_iff.mp e
  unfold gR at e1
  obtain ⟨u, e2, -⟩ := Option.bind_eq_some_iff.mp e1
  exact kk_gF e2
theorem kk_gI {β : Type} {f : Int32 → Option β} {w : β} (e : (gI 12 j h (some m)).bind f = some w) : (h.2.1 m).1 = 12 := by
  obtain ⟨v, e1, -⟩ := Option.bind_eq_some_iff.mp e
  unfold gI at e1
  obtain ⟨u, e2, -⟩ := Option.bind_eq_some_iff.mp e1
  exact kk_gF e2
theorem kk_pF {v : Value} {h' : AH} (e : pF 12 j h (some m) v = some h') : (h.2.1 m).1 = 12 := by
  by_cases q : (h.2.1 m).1 = 12
  · exact q
  · have e' : (if (h.2.1 m).1 = 12 then some (hput h m j v) else none) = some h' := e
    rw [if_neg q] at e'
    cases e'
theorem kk_pI {β : Type} {f : AH → Option β} {w : β} {v : Int32} (e : (pI 12 j h (some m) v).bind f = some w) : (h.2.1 m).1 = 12 := by
  obtain ⟨u, e1, -⟩ := Option.bind_eq_some_iff.mp e
  exact kk_pF e1
theorem kk_pZ {β : Type} {f : AH → Option β} {w : β} {v : Int32} (e : (pZ 12 j h (some m) v).bind f = some w) : (h.2.1 m).1 = 12 := by
  obtain ⟨u, e1, -⟩ := Option.bind_eq_some_iff.mp e
  unfold pZ at e1
  split at e1
  · exact kk_pF e1
  · cases e1
theorem kk_ck {α β : Type} {f : Option α} {g : α → Option β} {w : β} (e : (ck 12 h (some m) f).bind g = some w) : (h.2.1 m).1 = 12 := by
  by_cases q : (h.2.1 m).1 = 12
  · exact q
  · have e' : (if (h.2.1 m).1 = 12 then f else none).bind g = some w := e
    rw [if_neg q] at e'
    cases e'
theorem kk_ret {v : Int32} {w : Int32 × AH} (e : some (v, h) = some w) : w.2 = h := by
  cases e
  rfl
theorem ck_of {α : Type} {k : Nat} {f : Option α} (e : (h.2.1 m).1 = k) : ck k h (some m) f = f := by
  have e' : ck k h (some m) f = (if (h.2.1 m).1 = k then f else none) := rfl
  rw [e', if_pos e]
theorem ite_or {β : Type} {c : Prop} {inst : Decidable c} {A B : Option β} {w : β} (hf : (@ite _ c inst A B) = some w) : A = some w ∨ B = some w := by
  by_cases q : c
  · rw [if_pos q] at hf
    exact Or.inl hf
  · rw [if_neg q] at hf
    exact Or.inr hf
theorem u_f_X12_days {a1 : Int32} {w : Int32 × AH} (hf : f_X12_days (some m) a1 h = some w) : (h.2.1 m).1 = 12 ∨ w.2 = h := by
  unfold f_X12_days at hf
  obtain ⟨_, -, hf⟩ := Option.bind_eq_some_iff.mp hf
  rcases ite_or hf with hf | hf
  · exact Or.inr (kk_ret hf)
  · exact Or.inl (kk_gR hf)
theorem u_f_X12_wet {a1 : Int32} {w : Int32 × AH} (hf : f_X12_wet (some m) a1 h = some w) : (h.2.1 m).1 = 12 ∨ w.2 = h := by
  unfold f_X12_wet at hf
  obtain ⟨_, -, hf⟩ := Option.bind_eq_some_iff.mp hf
  rcases ite_or hf with hf | hf
  · exact Or.inr (kk_ret hf)
  · exact Or.inl (kk_ck hf)
theorem u_f_X12_ward {a1 : Int32} {a2 : Int32} {w : Int32 × AH} (hf : f_X12_ward (some m) a1 a2 h = some w) : (h.2.1 m).1 = 12 ∨ w.2 = h := by
  unfold f_X12_ward at hf
  obtain ⟨_, -, hf⟩ := Option.bind_eq_some_iff.mp hf
  rcases ite_or hf with hf | hf
  · exact Or.inr (kk_ret hf)
  · obtain ⟨_, -, hf⟩ := Option.bind_eq_some_iff.mp hf
    rcases ite_or hf with hf | hf
    · exact Or.inr (kk_ret hf)
    · exact Or.inl (kk_gR hf)
theorem u_f_X12_harvest {a1 : Int32} {a2 : Int32} {a3 : Int32} {w : Int32 × AH} (hf : f_X12_harvest (some m) a1 a2 a3 h = some w) : (h.2.1 m).1 = 12 ∨ w.2 = h := by
  unfold f_X12_harvest at hf
  exact Or.inl (kk_ck hf)
theorem u_f_X12_man {a1 : Int32} {a2 : Int32} {a3 : Int32} {a4 : Int32} {w : Int32 × AH} (hf : f_X12_man (some m) a1 a2 a3 a4 h = some w) : (h.2.1 m).1 = 12 ∨ w.2 = h := by
  unfold f_X12_man at hf
  exact Or.inl (kk_ck hf)
theorem u_f_X12_style {a1 : Int32} {a2 : Int32} {a3 : Int32} {w : Int32 × AH} (hf : f_X12_style (some m) a1 a2 a3 h = some w) : (h.2.1 m).1 = 12 ∨ w.2 = h := by
  unfold f_X12_style at hf
  exact Or.inl (kk_ck hf)
theorem u_f_X12_fear {a1 : Int32} {a2 : Int32} {a3 : Int32} {w : Int32 × AH} (hf : f_X12_fear (some m) a1 a2 a3 h = some w) : (h.2.1 m).1 = 12 ∨ w.2 = h := by
  unfold f_X12_fear at hf
  exact Or.inl (kk_ck hf)
theorem u_f_X12_word {a1 : Int32} {a2 : Int32} {a3 : Int32} {w : Int32 × AH} (hf : f_X12_word (some m) a1 a2 a3 h = some w) : (h.2.1 m).1 = 12 ∨ w.2 = h := by
  unfold f_X12_word at hf
  exact Or.inl (kk_ck hf)
theorem u_b_X12_rule_33 {x1 : Int32} {x2 : Int32} {s0 : Int32} {s1 : Int32} {s2 : Int32} {w : Int32 × AH} (hf : b_X12_rule_33 (some m) x1 x2 s0 s1 s2 h = some w) : (h.2.1 m).1 = 12 ∨ w.2 = h := by
  unfold b_X12_rule_33 at hf
  obtain ⟨_, -, hf⟩ := Option.bind_eq_some_iff.mp hf
  rcases ite_or hf with hf | hf
  · exact Or.inr (kk_ret hf)
  · exact Or.inl (kk_gR hf)
theorem u_f_X12_rule {a1 : Int32} {a2 : Int32} {w : Int32 × AH} (hf : f_X12_rule (some m) a1 a2 h = some w) : (h.2.1 m).1 = 12 ∨ w.2 = h := by
  unfold f_X12_rule at hf
  obtain ⟨_, -, hf⟩ := Option.bind_eq_some_iff.mp hf
  rcases ite_or hf with hf | hf
  · exact Or.inr (kk_ret hf)
  · rcases ite_or hf with hf | hf
    · exact u_b_X12_rule_33 hf
    · rcases ite_or hf with hf | hf
      · exact u_b_X12_rule_33 hf
      · exact u_b_X12_rule_33 hf
theorem u_f_X12_bargain {a1 : Int32} {a2 : Int32} {a3 : Int32} {a4 : Int32} {w : Int32 × AH} (hf : f_X12_bargain (some m) a1 a2 a3 a4 h = some w) : (h.2.1 m).1 = 12 ∨ w.2 = h := by
  unfold f_X12_bargain at hf
  obtain ⟨_, -, hf⟩ := Option.bind_eq_some_iff.mp hf
  rcases ite_or hf with hf | hf
  · exact Or.inr (kk_ret hf)
  · exact Or.inl (kk_ck hf)
theorem u_b_X12_sherd_54 {x1 : Int32} {x2 : Int32} {x3 : Int32} {x4 : Int32} {x5 : Int32} {x6 : Int32} {w : Int32 × AH} (hf : b_X12_sherd_54 (some m) x1 x2 x3 x4 x5 x6 h = some w) : (h.2.1 m).1 = 12 ∨ w.2 = h := by
  unfold b_X12_sherd_54 at hf
  obtain ⟨_, -, hf⟩ := Option.bind_eq_some_iff.mp hf
  rcases ite_or hf with hf | hf
  · exact Or.inr (kk_ret hf)
  · exact Or.inl (kk_gR hf)
theorem u_b_X12_sherd_31 {x1 : Int32} {x2 : Int32} {x3 : Int32} {x4 : Int32} {x5 : Int32} {x6 : Int32} {w : Int32 × AH} (hf : b_X12_sherd_31 (some m) x1 x2 x3 x4 x5 x6 h = some w) : (h.2.1 m).1 = 12 ∨ w.2 = h := by
  unfold b_X12_sherd_31 at hf
  obtain ⟨_, -, hf⟩ := Option.bind_eq_some_iff.mp hf
  rcases ite_or hf with hf | hf
  · exact Or.inr (kk_ret hf)
  · rcases ite_or hf with hf | hf
    · exact u_b_X12_sherd_54 hf
    · obtain ⟨_, -, hf⟩ := Option.bind_eq_some_iff.mp hf
      rcases ite_or hf with hf | hf
      · exact Or.inr (kk_ret hf)
      · exact u_b_X12_sherd_54 hf
theorem u_b_X12_sherd_18 {x1 : Int32} {x2 : Int32} {x3 : Int32} {x4 : Int32} {x5 : Int32} {x6 : Int32} {w : Int32 × AH} (hf : b_X12_sherd_18 (some m) x1 x2 x3 x4 x5 x6 h = some w) : (h.2.1 m).1 = 12 ∨ w.2 = h := by
  unfold b_X12_sherd_18 at hf
  rcases ite_or hf with hf | hf
  · exact u_b_X12_sherd_31 hf
  · exact Or.inl (kk_ck hf)
theorem u_f_X12_sherd {a1 : Int32} {a2 : Int32} {a3 : Int32} {a4 : Int32} {a5 : Int32} {a6 : Int32} {w : Int32 × AH} (hf : f_X12_sherd (some m) a1 a2 a3 a4 a5 a6 h = some w) : (h.2.1 m).1 = 12 ∨ w.2 = h := by
  unfold f_X12_sherd at hf
  obtain ⟨_, -, hf⟩ := Option.bind_eq_some_iff.mp hf
  rcases ite_or hf with hf | hf
  · exact Or.inr (kk_ret hf)
  · rcases ite_or hf with hf | hf
    · exact u_b_X12_sherd_18 hf
    · obtain ⟨_, -, hf⟩ := Option.bind_eq_some_iff.mp hf
      rcases ite_or hf with hf | hf
      · exact Or.inr (kk_ret hf)
      · exact u_b_X12_sherd_18 hf
theorem u_b_X12_vote_4 {fu : Nat} {x1 : Int32} {x2 : Int32} {w : Int32 × AH} (hf : b_X12_vote_4 (fu + 1) (some m) x1 x2 h = some w) : (h.2.1 m).1 = 12 ∨ w.2 = h := by
  rw [b_X12_vote_4] at hf
  exact Or.inl (kk_gR hf)
theorem u_f_X12_vote  {w : Int32 × AH} (hf : f_X12_vote (some m) h = some w) : (h.2.1 m).1 = 12 ∨ w.2 = h := by
  unfold f_X12_vote at hf
  obtain ⟨fu, hfu⟩ : ∃ q, FU = q + 1 := ⟨FU - 1, rfl⟩
  rw [hfu] at hf
  exact u_b_X12_vote_4 hf
theorem u_f_X12_thrown {a1 : Int32} {w : Int32 × AH} (hf : f_X12_thrown (some m) a1 h = some w) : (h.2.1 m).1 = 12 ∨ w.2 = h := by
  unfold f_X12_thrown at hf
  exact Or.inl (kk_ck hf)
theorem u_f_X12_sherdOf {a1 : Int32} {a2 : Int32} {w : Int32 × AH} (hf : f_X12_sherdOf (some m) a1 a2 h = some w) : (h.2.1 m).1 = 12 ∨ w.2 = h := by
  unfold f_X12_sherdOf at hf
  exact Or.inl (kk_ck hf)
theorem u_f_X12_apart {a1 : Int32} {a2 : Int32} {w : Int32 × AH} (hf : f_X12_apart (some m) a1 a2 h = some w) : (h.2.1 m).1 = 12 ∨ w.2 = h := by
  unfold f_X12_apart at hf
  obtain ⟨_, -, hf⟩ := Option.bind_eq_some_iff.mp hf
  rcases ite_or hf with hf | hf
  · exact Or.inr (kk_ret hf)
  · obtain ⟨_, -, hf⟩ := Option.bind_eq_some_iff.mp hf
    rcases ite_or hf with hf | hf
    · exact Or.inr (kk_ret hf)
    · exact Or.inl (kk_ck hf)
theorem u_f_X12_feed {a1 : Int64} {a2 : Int32} {w : Int32 × AH} (hf : f_X12_feed (some m) a1 a2 h = some w) : (h.2.1 m).1 = 12 ∨ w.2 = h := by
  unfold f_X12_feed at hf
  obtain ⟨_, -, hf⟩ := Option.bind_eq_some_iff.mp hf
  rcases ite_or hf with hf | hf
  · exact Or.inr (kk_ret hf)
  · exact Or.inl (kk_gI hf)
theorem u_f_X12_read {a1 : Int32} {w : Int32 × AH} (hf : f_X12_read (some m) a1 h = some w) : (h.2.1 m).1 = 12 ∨ w.2 = h := by
  unfold f_X12_read at hf
  obtain ⟨_, -, hf⟩ := Option.bind_eq_some_iff.mp hf
  rcases ite_or hf with hf | hf
  · exact Or.inr (kk_ret hf)
  · exact Or.inl (kk_gI hf)
theorem u_b_X12_force_32 {x1 : Int32} {w : Int32 × AH} (hf : b_X12_force_32 (some m) x1 h = some w) : (h.2.1 m).1 = 12 ∨ w.2 = h := by
  unfold b_X12_force_32 at hf
  exact Or.inl (kk_gR hf)
theorem u_f_X12_force {a1 : Int32} {w : Int32 × AH} (hf : f_X12_force (some m) a1 h = some w) : (h.2.1 m).1 = 12 ∨ w.2 = h := by
  unfold f_X12_force at hf
  obtain ⟨_, -, hf⟩ := Option.bind_eq_some_iff.mp hf
  rcases ite_or hf with hf | hf
  · exact Or.inr (kk_ret hf)
  · rcases ite_or hf with hf | hf
    · exact u_b_X12_force_32 hf
    · exact Or.inl (kk_gR hf)
theorem u_f_X12_count {a1 : Int32} {a2 : Int32} {w : Int32 × AH} (hf : f_X12_count (some m) a1 a2 h = some w) : (h.2.1 m).1 = 12 ∨ w.2 = h := by
  unfold f_X12_count at hf
  exact Or.inl (kk_ck hf)
theorem u_f_X12_counted {a1 : Int32} {a2 : Int32} {a3 : Int32} {w : Int32 × AH} (hf : f_X12_counted (some m) a1 a2 a3 h = some w) : (h.2.1 m).1 = 12 ∨ w.2 = h := by
  unfold f_X12_counted at hf
  exact Or.inl (kk_ck hf)
theorem u_f_X12_tally {a1 : Int32} {a2 : Int32} {a3 : Int32} {w : Int32 × AH} (hf : f_X12_tally (some m) a1 a2 a3 h = some w) : (h.2.1 m).1 = 12 ∨ w.2 = h := by
  unfold f_X12_tally at hf
  obtain ⟨_, -, hf⟩ := Option.bind_eq_some_iff.mp hf
  rcases ite_or hf with hf | hf
  · exact Or.inr (kk_ret hf)
  · obtain ⟨_, -, hf⟩ := Option.bind_eq_some_iff.mp hf
    rcases ite_or hf with hf | hf
    · exact Or.inr (kk_ret hf)
    · obtain ⟨_, -, hf⟩ := Option.bind_eq_some_iff.mp hf
      rcases ite_or hf with hf | hf
      · exact Or.inr (kk_ret hf)
      · exact Or.inl (kk_gR hf)
theorem u_b_X12_tallies_20 {fu : Nat} {x1 : Int32} {x2 : Int32} {x3 : Int32} {x4 : Int32} {w : Int32 × AH} (hf : b_X12_tallies_20 (fu + 1) (some m) x1 x2 x3 x4 h = some w) : (h.2.1 m).1 = 12 ∨ w.2 = h := by
  rw [b_X12_tallies_20] at hf
  rcases ite_or hf with hf | hf
  · rcases ite_or hf with hf | hf
    · rcases ite_or hf with hf | hf
      · exact Or.inr (kk_ret hf)
      · exact Or.inr (kk_ret hf)
    · exact Or.inl (kk_gR hf)
  · exact Or.inl (kk_gR hf)
theorem u_f_X12_tallies {a1 : Int32} {w : Int32 × AH} (hf : f_X12_tallies (some m) a1 h = some w) : (h.2.1 m).1 = 12 ∨ w.2 = h := by
  unfold f_X12_tallies at hf
  obtain ⟨fu, hfu⟩ : ∃ q, FU = q + 1 := ⟨FU - 1, rfl⟩
  obtain ⟨_, -, hf⟩ := Option.bind_eq_some_iff.mp hf
  rcases ite_or hf with hf | hf
  · exact Or.inr (kk_ret hf)
  · rw [hfu] at hf
    exact u_b_X12_tallies_20 hf
theorem u_f_X12_send  {w : Int32 × AH} (hf : f_X12_send (some m) h = some w) : (h.2.1 m).1 = 12 ∨ w.2 = h := by
  unfold f_X12_send at hf
  exact Or.inl (kk_gR hf)
theorem u_f_X12_recall {a1 : Int32} {a2 : Int32} {a3 : Int32} {w : Int32 × AH} (hf : f_X12_recall (some m) a1 a2 a3 h = some w) : (h.2.1 m).1 = 12 ∨ w.2 = h := by
  unfold f_X12_recall at hf
  exact Or.inl (kk_ck hf)
theorem u_f_X12_may {a1 : Int32} {a2 : Int32} {w : Int32 × AH} (hf : f_X12_may (some m) a1 a2 h = some w) : (h.2.1 m).1 = 12 ∨ w.2 = h := by
  unfold f_X12_may at hf
  exact Or.inl (kk_ck hf)
theorem u_b_X12_beside_13 {x1 : Int32} {x2 : Int32} {w : Int32 × AH} (hf : b_X12_beside_13 (some m) x1 x2 h = some w) : (h.2.1 m).1 = 12 ∨ w.2 = h := by
  unfold b_X12_beside_13 at hf
  obtain ⟨_, -, hf⟩ := Option.bind_eq_some_iff.mp hf
  rcases ite_or hf with hf | hf
  · exact Or.inr (kk_ret hf)
  · exact Or.inl (kk_ck hf)
theorem u_f_X12_beside {a1 : Int32} {a2 : Int32} {w : Int32 × AH} (hf : f_X12_beside (some m) a1 a2 h = some w) : (h.2.1 m).1 = 12 ∨ w.2 = h := by
  unfold f_X12_beside at hf
  rcases ite_or hf with hf | hf
  · exact u_b_X12_beside_13 hf
  · exact Or.inl (kk_ck hf)
theorem u_f_X12_keptBy {a1 : Int32} {w : Int32 × AH} (hf : f_X12_keptBy (some m) a1 h = some w) : (h.2.1 m).1 = 12 ∨ w.2 = h := by
  unfold f_X12_keptBy at hf
  obtain ⟨_, -, hf⟩ := Option.bind_eq_some_iff.mp hf
  rcases ite_or hf with hf | hf
  · exact Or.inr (kk_ret hf)
  · exact Or.inl (kk_ck hf)
theorem u_f_X12_broken {a1 : Int32} {a2 : Int32} {w : Int32 × AH} (hf : f_X12_broken (some m) a1 a2 h = some w) : (h.2.1 m).1 = 12 ∨ w.2 = h := by
  unfold f_X12_broken at hf
  obtain ⟨_, -, hf⟩ := Option.bind_eq_some_iff.mp hf
  rcases ite_or hf with hf | hf
  · exact Or.inr (kk_ret hf)
  · exact Or.inl (kk_ck hf)
theorem u_f_X12_turn {a1 : Int32} {a2 : Int32} {w : Int32 × AH} (hf : f_X12_turn (some m) a1 a2 h = some w) : (h.2.1 m).1 = 12 ∨ w.2 = h := by
  unfold f_X12_turn at hf
  exact Or.inl (kk_ck hf)
theorem u_f_X12_prove {a1 : Int32} {w : Int32 × AH} (hf : f_X12_prove (some m) a1 h = some w) : (h.2.1 m).1 = 12 ∨ w.2 = h := by
  unfold f_X12_prove at hf
  obtain ⟨_, -, hf⟩ := Option.bind_eq_some_iff.mp hf
  rcases ite_or hf with hf | hf
  · exact Or.inr (kk_ret hf)
  · exact Or.inl (kk_gR hf)
theorem u_f_X12_alterRow {a1 : Int32} {a2 : Int32} {a3 : Int32} {w : Int32 × AH} (hf : f_X12_alterRow (some m) a1 a2 a3 h = some w) : (h.2.1 m).1 = 12 ∨ w.2 = h := by
  unfold f_X12_alterRow at hf
  exact Or.inl (kk_gI hf)
theorem u_b_X12_judge_11 {fu : Nat} {x1 : Int32} {x2 : Int32} {w : Int32 × AH} (hf : b_X12_judge_11 (fu + 1) (some m) x1 x2 h = some w) : (h.2.1 m).1 = 12 ∨ w.2 = h := by
  rw [b_X12_judge_11] at hf
  exact Or.inl (kk_gI hf)
theorem u_f_X12_judge {a1 : Int32} {w : Int32 × AH} (hf : f_X12_judge (some m) a1 h = some w) : (h.2.1 m).1 = 12 ∨ w.2 = h := by
  unfold f_X12_judge at hf
  obtain ⟨fu, hfu⟩ : ∃ q, FU = q + 1 := ⟨FU - 1, rfl⟩
  obtain ⟨_, -, hf⟩ := Option.bind_eq_some_iff.mp hf
  rcases ite_or hf with hf | hf
  · exact Or.inr (kk_ret hf)
  · rw [hfu] at hf
    exact u_b_X12_judge_11 hf
theorem u_f_X12_best {a1 : Int32} {w : Int32 × AH} (hf : f_X12_best (some m) a1 h = some w) : (h.2.1 m).1 = 12 ∨ w.2 = h := by
  unfold f_X12_best at hf
  obtain ⟨_, -, hf⟩ := Option.bind_eq_some_iff.mp hf
  rcases ite_or hf with hf | hf
  · exact Or.inr (kk_ret hf)
  · exact Or.inl (kk_gR hf)
theorem u_f_X12_heap {a1 : Int32} {w : Int32 × AH} (hf : f_X12_heap (some m) a1 h = some w) : (h.2.1 m).1 = 12 ∨ w.2 = h := by
  unfold f_X12_heap at hf
  exact Or.inl (kk_ck hf)
theorem u_f_X12_clear  {w : Int32 × AH} (hf : f_X12_clear (some m) h = some w) : (h.2.1 m).1 = 12 ∨ w.2 = h := by
  unfold f_X12_clear at hf
  exact Or.inl (kk_gR hf)
theorem u_b_X12_hands_32 {fu : Nat} {x1 : Int32} {x2 : Int32} {w : Int32 × AH} (hf : b_X12_hands_32 (fu + 1) (some m) x1 x2 h = some w) : (h.2.1 m).1 = 12 ∨ w.2 = h := by
  rw [b_X12_hands_32] at hf
  exact Or.inl (kk_ck hf)
theorem u_f_X12_hands {a1 : Int32} {w : Int32 × AH} (hf : f_X12_hands (some m) a1 h = some w) : (h.2.1 m).1 = 12 ∨ w.2 = h := by
  unfold f_X12_hands at hf
  obtain ⟨fu, hfu⟩ : ∃ q, FU = q + 1 := ⟨FU - 1, rfl⟩
  obtain ⟨_, -, hf⟩ := Option.bind_eq_some_iff.mp hf
  rcases ite_or hf with hf | hf
  · exact Or.inl (kk_gR hf)
  · rw [hfu] at hf
    exact u_b_X12_hands_32 hf
theorem u_b_X12_sheet_39 {x1 : Int32} {x2 : Int32} {x3 : Int32} {w : Int32 × AH} (hf : b_X12_sheet_39 (some m) x1 x2 x3 h = some w) : (h.2.1 m).1 = 12 ∨ w.2 = h := by
  unfold b_X12_sheet_39 at hf
  exact Or.inl (kk_gR hf)
theorem u_b_X12_sheet_28 {x1 : Int32} {x2 : Int32} {x3 : Int32} {w : Int32 × AH} (hf : b_X12_sheet_28 (some m) x1 x2 x3 h = some w) : (h.2.1 m).1 = 12 ∨ w.2 = h := by
  unfold b_X12_sheet_28 at hf
  rcases ite_or hf with hf | hf
  · exact u_b_X12_sheet_39 hf
  · rcases ite_or hf with hf | hf
    · exact Or.inr (kk_ret hf)
    · exact u_b_X12_sheet_39 hf
theorem u_f_X12_sheet {a1 : Int32} {a2 : Int32} {a3 : Int32} {w : Int32 × AH} (hf : f_X12_sheet (some m) a1 a2 a3 h = some w) : (h.2.1 m).1 = 12 ∨ w.2 = h := by
  unfold f_X12_sheet at hf
  obtain ⟨_, -, hf⟩ := Option.bind_eq_some_iff.mp hf
  rcases ite_or hf with hf | hf
  · exact Or.inr (kk_ret hf)
  · obtain ⟨_, -, hf⟩ := Option.bind_eq_some_iff.mp hf
    rcases ite_or hf with hf | hf
    · exact Or.inr (kk_ret hf)
    · rcases ite_or hf with hf | hf
      · exact u_b_X12_sheet_28 hf
      · rcases ite_or hf with hf | hf
        · exact Or.inr (kk_ret hf)
        · exact u_b_X12_sheet_28 hf
theorem u_f_X12_put {a1 : Int32} {a2 : Int32} {a3 : Int32} {w : Int32 × AH} (hf : f_X12_put (some m) a1 a2 a3 h = some w) : (h.2.1 m).1 = 12 ∨ w.2 = h := by
  unfold f_X12_put at hf
  obtain ⟨_, -, hf⟩ := Option.bind_eq_some_iff.mp hf
  rcases ite_or hf with hf | hf
  · exact Or.inr (kk_ret hf)
  · exact Or.inl (kk_gR hf)
theorem u_f_X12_comesFrom {a1 : Int32} {a2 : Int32} {w : Int32 × AH} (hf : f_X12_comesFrom (some m) a1 a2 h = some w) : (h.2.1 m).1 = 12 ∨ w.2 = h := by
  unfold f_X12_comesFrom at hf
  obtain ⟨_, -, hf⟩ := Option.bind_eq_some_iff.mp hf
  rcases ite_or hf with hf | hf
  · exact Or.inr (kk_ret hf)
  · exact Or.inl (kk_gR hf)
theorem u_b_X12_shelf_114 {x1 : Int32} {x2 : Int32} {x3 : Int32} {s0 : Int32} {w : Int32 × AH} (hf : b_X12_shelf_114 (some m) x1 x2 x3 s0 h = some w) : (h.2.1 m).1 = 12 ∨ w.2 = h := by
  unfold b_X12_shelf_114 at hf
  exact Or.inl (kk_gR hf)
theorem u_b_X12_shelf_81 {x1 : Int32} {x2 : Int32} {x3 : Int32} {s0 : Int32} {w : Int32 × AH} (hf : b_X12_shelf_81 (some m) x1 x2 x3 s0 h = some w) : (h.2.1 m).1 = 12 ∨ w.2 = h := by
  unfold b_X12_shelf_81 at hf
  rcases ite_or hf with hf | hf
  · exact Or.inr (kk_ret hf)
  · rcases ite_or hf with hf | hf
    · exact u_b_X12_shelf_114 hf
    · rcases ite_or hf with hf | hf
      · exact Or.inl (kk_gR hf)
      · exact u_b_X12_shelf_114 hf
theorem u_f_X12_shelf {a1 : Int32} {a2 : Int32} {a3 : Int32} {w : Int32 × AH} (hf : f_X12_shelf (some m) a1 a2 a3 h = some w) : (h.2.1 m).1 = 12 ∨ w.2 = h := by
  unfold f_X12_shelf at hf
  obtain ⟨_, -, hf⟩ := Option.bind_eq_some_iff.mp hf
  rcases ite_or hf with hf | hf
  · exact Or.inr (kk_ret hf)
  · obtain ⟨_, -, hf⟩ := Option.bind_eq_some_iff.mp hf
    rcases ite_or hf with hf | hf
    · exact Or.inr (kk_ret hf)
    · rcases ite_or hf with hf | hf
      · exact Or.inl (kk_ck hf)
      · rcases ite_or hf with hf | hf
        · exact Or.inl (kk_gR hf)
        · rcases ite_or hf with hf | hf
          · exact Or.inl (kk_ck hf)
          · rcases ite_or hf with hf | hf
            · exact u_b_X12_shelf_81 hf
            · obtain ⟨_, -, hf⟩ := Option.bind_eq_some_iff.mp hf
              rcases ite_or hf with hf | hf
              · exact u_b_X12_shelf_81 hf
              · exact u_b_X12_shelf_81 hf
theorem u_f_X12_act {a1 : Int32} {a2 : Int32} {a3 : Int32} {w : Int32 × AH} (hf : f_X12_act (some m) a1 a2 a3 h = some w) : (h.2.1 m).1 = 12 ∨ w.2 = h := by
  unfold f_X12_act at hf
  exact Or.inl (kk_pI hf)
theorem u_b_X12_keep_2 {fu : Nat} {x1 : Int32} {w : Int32 × AH} (hf : b_X12_keep_2 (fu + 1) (some m) x1 h = some w) : (h.2.1 m).1 = 12 ∨ w.2 = h := by
  rw [b_X12_keep_2] at hf
  rcases ite_or hf with hf | hf
  · exact Or.inl (kk_gR hf)
  · exact Or.inl (kk_pZ hf)
theorem u_f_X12_keep  {w : Int32 × AH} (hf : f_X12_keep (some m) h = some w) : (h.2.1 m).1 = 12 ∨ w.2 = h := by
  unfold f_X12_keep at hf
  obtain ⟨fu, hfu⟩ : ∃ q, FU = q + 1 := ⟨FU - 1, rfl⟩
  rw [hfu] at hf
  exact u_b_X12_keep_2 hf
theorem u_f_X12_again  {w : Int32 × AH} (hf : f_X12_again (some m) h = some w) : (h.2.1 m).1 = 12 ∨ w.2 = h := by
  unfold f_X12_again at hf
  exact Or.inl (kk_gI hf)
theorem go_p {fx fm G : AH → Option (Int32 × AH)} (hR : R n st S μ x b) (o : Res fx fm n st S μ x b) (t : ∀ (h : AH) (w : Int32 × AH), fm h = some w → (h.2.1 (x + 175)).1 = 12 ∨ w.2 = h) (ih : ∀ (n' : Nat) (S' : SH) (μ' : MU), R n' st S' μ' x b → Ok (G (mkH n' st S' μ'))) : Ok ((ck 11 (mkH n st S μ) (some x) (fx (mkH n st S μ))).bind fun p => (ck 12 p.2 (some (x + 175)) (fm p.2)).bind fun q => if p.1 = q.1 then G q.2 else some (0, q.2)) := by
  obtain ⟨v, h1, n', S', μ', e1, e2, hR'⟩ := o
  have kM : (S' (x + 175)).1 = 12 := by rw [hR'.1.2.1.1]
  have kX : (S x).1 = 11 := hR.1.1.1.1
  have k12 : (h1.2.1 (x + 175)).1 = 12 := by
    rcases t h1 _ e2 with q | q
    · exact q
    · rw [← q]
      exact kM
  rw [ck_mk kX, e1]
  show Ok ((ck 12 h1 (some (x + 175)) (fm h1)).bind fun q => if v = q.1 then G q.2 else some (0, q.2))
  rw [ck_of k12, e2]
  show Ok (if v = v then G (mkH n' st S' μ') else some (0, mkH n' st S' μ'))
  rw [if_pos rfl]
  exact ih _ _ _ hR'
theorem go_h {gx : AH → Option Int32} {fm G : AH → Option (Int32 × AH)} (hR : R n st S μ x b) (o : Res (fun h => (gx h).bind fun v => some (v, h)) fm n st S μ x b) (ih : ∀ (n' : Nat) (S' : SH) (μ' : MU), R n' st S' μ' x b → Ok (G (mkH n' st S' μ'))) : Ok ((ck 11 (mkH n st S μ) (some x) (gx (mkH n st S μ))).bind fun p => (ck 12 (mkH n st S μ) (some (x + 175)) (fm (mkH n st S μ))).bind fun q => if p = q.1 then G q.2 else some (0, q.2)) := by
  obtain ⟨v, h1, n', S', μ', e1, e2, hR'⟩ := o
  have kM : (S (x + 175)).1 = 12 := by rw [hR.1.2.1.1]
  have kX : (S x).1 = 11 := hR.1.1.1.1
  obtain ⟨u, e3, e4⟩ := Option.bind_eq_some_iff.mp e1
  obtain ⟨rfl, rfl⟩ := Prod.mk.inj (Option.some.inj e4)
  rw [ck_mk kX, ck_mk kM, e3, e2]
  show Ok (if u = u then G (mkH n' st S' μ') else some (0, mkH n' st S' μ'))
  rw [if_pos rfl]
  exact ih _ _ _ hR'
theorem go_q {gx gm : AH → Option Int32} {G : AH → Option (Int32 × AH)} (hR : R n st S μ x b) (o : Que gx gm (mkH n st S μ)) (ih : ∀ (n' : Nat) (S' : SH) (μ' : MU), R n' st S' μ' x b → Ok (G (mkH n' st S' μ'))) : Ok ((ck 11 (mkH n st S μ) (some x) (gx (mkH n st S μ))).bind fun p => (ck 12 (mkH n st S μ) (some (x + 175)) (gm (mkH n st S μ))).bind fun q => if p = q then G (mkH n st S μ) else some (0, mkH n st S μ)) := by
  obtain ⟨v, e1, e2⟩ := o
  have kM : (S (x + 175)).1 = 12 := by rw [hR.1.2.1.1]
  have kX : (S x).1 = 11 := hR.1.1.1.1
  rw [ck_mk kX, ck_mk kM, e1, e2]
  show Ok (if v = v then G (mkH n st S μ) else some (0, mkH n st S μ))
  rw [if_pos rfl]
  exact ih _ _ _ hR
theorem sX_at {q : Nat} (hL : L ≤ 3584) (hq : q < L) : sX L xs (nI q) = some (xs q) := by
  unfold sX
  rw [if_neg (nI_in hq (by omega)), nI_clamp (by omega)]
theorem sub7 {i : Nat} (hL : L ≤ 3584) (hi : i ≤ 8000) : (nI L - 7 < nI i) ↔ L < i + 7 := by
  have e : (nI L - nI 7).toInt = (L : Int) - (7 : Nat) := pk_sub_toInt (by omega) (by omega)
  have e' : (nI L - 7 : Int32) = nI L - nI 7 := rfl
  have e2 : (nI i).toInt = (i : Int) := Int32.toInt_ofNat_of_lt (by omega)
  rw [Int32.lt_iff_toInt_lt, e', e, e2]
  omega
theorem c_rng {c : Int32} (q : ¬ (c < 0 ∨ 55 < c)) : ∃ k : Nat, k ≤ 55 ∧ c = nI k := by
  have h0 : 0 ≤ c := Int32.not_lt.mp fun h => q (Or.inl h)
  have h1 : c ≤ nI 55 := Int32.not_lt.mp fun h => q (Or.inr h)
  have e : nI c.toNatClampNeg = c := Int32.ofNat_toNatClampNeg c h0
  have e2 : c.toInt = (c.toNatClampNeg : Int) := by
    have := Int32.le_iff_toInt_le.mp h0
    have z : (0 : Int32).toInt = 0 := rfl
    rw [z] at this
    show c.toInt = ((c.toInt.toNat : Nat) : Int)
    omega
  refine ⟨c.toNatClampNeg, ?_, e.symm⟩
  have h2 := Int32.le_iff_toInt_le.mp h1
  have e3 : (nI 55).toInt = ((55 : Nat) : Int) := Int32.toInt_ofNat_of_lt (by omega)
  rw [e3, e2] at h2
  omega
end LOOP
