-- ===== the tables and the heap at the law's entry =====
section BEGIN1
variable {s : State} {b : Nat}
theorem ls_0 : Cond.laysStatic (sNm 0).1 (sNm 0).2.1 (sNm 0).2.2 ∈ lw_tbl := (tin1 (List.mem_of_getElem? (i := 48) rfl))
theorem ls_1 : Cond.laysStatic (sNm 1).1 (sNm 1).2.1 (sNm 1).2.2 ∈ lw_tbl := (tin3 (List.mem_of_getElem? (i := 156) rfl))
theorem ls_2 : Cond.laysStatic (sNm 2).1 (sNm 2).2.1 (sNm 2).2.2 ∈ lw_tbl := (tin6 (List.mem_of_getElem? (i := 26) rfl))
theorem ls_3 : Cond.laysStatic (sNm 3).1 (sNm 3).2.1 (sNm 3).2.2 ∈ lw_tbl := (tin5 (List.mem_of_getElem? (i := 131) rfl))
theorem ls_4 : Cond.laysStatic (sNm 4).1 (sNm 4).2.1 (sNm 4).2.2 ∈ lw_tbl := (tin7 (List.mem_of_getElem? (i := 212) rfl))
theorem ls_cs : Cond.laysStatic "java/lang/String" "COMPACT_STRINGS" "Z" ∈ lw_tbl := (tin4 (List.mem_of_getElem? (i := 120) rfl))
theorem ls_sf : Cond.laysStatic "jdk/internal/util/Preconditions" "SIOOBE_FORMATTER" "Ljava/util/function/BiFunction;" ∈ lw_tbl := (tin4 (List.mem_of_getElem? (i := 136) rfl))
theorem in_st : Cond.initialized "java/lang/String" ∈ lw_tbl := (tin1 (List.mem_of_getElem? (i := 15) rfl))
theorem in_pc : Cond.initialized "jdk/internal/util/Preconditions" ∈ lw_tbl := (tin1 (List.mem_of_getElem? (i := 17) rfl))
theorem cl_ci : Cond.castable "[I" "java/lang/Cloneable" ∈ lw_tbl := (tin1 (List.mem_of_getElem? (i := 54) rfl))
theorem ao_ii : Cond.arrayOver (.array .int) ∈ lw_tbl := (tin1 (List.mem_of_getElem? (i := 57) rfl))
theorem ac_b : Cond.arrayClass .byte ∈ lw_tbl := (tin4 (List.mem_of_getElem? (i := 222) rfl))
theorem ao_RX1 : Cond.arrayOver (.object RX1) ∈ lw_tbl := (tin1 (List.mem_of_getElem? (i := 42) rfl))
theorem ao_RX3 : Cond.arrayOver (.object RX3) ∈ lw_tbl := (tin1 (List.mem_of_getElem? (i := 46) rfl))
theorem ao_RX5 : Cond.arrayOver (.object RX5) ∈ lw_tbl := (tin1 (List.mem_of_getElem? (i := 38) rfl))
theorem ao_RX7 : Cond.arrayOver (.object RX7) ∈ lw_tbl := (tin2 (List.mem_of_getElem? (i := 225) rfl))
theorem ao_RX8 : Cond.arrayOver (.object RX8) ∈ lw_tbl := (tin1 (List.mem_of_getElem? (i := 44) rfl))
theorem ao_RX9 : Cond.arrayOver (.object RX9) ∈ lw_tbl := (tin1 (List.mem_of_getElem? (i := 36) rfl))
theorem ao_RX10 : Cond.arrayOver (.object RX10) ∈ lw_tbl := (tin1 (List.mem_of_getElem? (i := 40) rfl))
theorem fn_0 : Cond.fieldLinkNest RX2 55 RX11 "RULE_AT_FIRST" "[I" RX11 ∈ lw_tbl := (tin1 (List.mem_of_getElem? (i := 47) rfl))
theorem mn_0 : Cond.methodLinkNest RX11 18 yX4_init RX11 ∈ lw_tbl := (tin2 (List.mem_of_getElem? (i := 116) rfl))
theorem mn_1 : Cond.methodLinkNest RX11 25 yX6_init RX11 ∈ lw_tbl := (tin2 (List.mem_of_getElem? (i := 167) rfl))
theorem mn_2 : Cond.methodLinkNest RX11 32 yX0_init RX11 ∈ lw_tbl := (tin2 (List.mem_of_getElem? (i := 196) rfl))
theorem mn_3 : Cond.methodLinkNest RX2 176 yX11_lettersApart RX11 ∈ lw_tbl := (tin3 (List.mem_of_getElem? (i := 104) rfl))
theorem mn_4 : Cond.methodLinkNest RX2 77 yX9_init RX11 ∈ lw_tbl := (tin1 (List.mem_of_getElem? (i := 59) rfl))
theorem mn_5 : Cond.methodLinkNest RX2 78 yX5_init RX11 ∈ lw_tbl := (tin1 (List.mem_of_getElem? (i := 82) rfl))
theorem mn_6 : Cond.methodLinkNest RX2 79 yX10_init RX11 ∈ lw_tbl := (tin1 (List.mem_of_getElem? (i := 135) rfl))
theorem mn_7 : Cond.methodLinkNest RX2 80 yX1_init RX11 ∈ lw_tbl := (tin1 (List.mem_of_getElem? (i := 154) rfl))
theorem mn_8 : Cond.methodLinkNest RX2 81 yX8_init RX11 ∈ lw_tbl := (tin1 (List.mem_of_getElem? (i := 177) rfl))
theorem mn_9 : Cond.methodLinkNest RX2 82 yX3_init RX11 ∈ lw_tbl := (tin1 (List.mem_of_getElem? (i := 238) rfl))
theorem mn_10 : Cond.methodLinkNest RX3 54 yX11_asAnswer RX11 ∈ lw_tbl := (tin4 (List.mem_of_getElem? (i := 56) rfl))
theorem mn_11 : Cond.methodLinkNest RX4 17 yX3_init RX11 ∈ lw_tbl := (tin2 (List.mem_of_getElem? (i := 121) rfl))
theorem sr_0 : Cond.stringRef RX4 108 "good enough recall may years" ∈ lw_tbl := (tin4 (List.mem_of_getElem? (i := 106) rfl))
theorem sr_1 : Cond.stringRef RX4 129 "not" ∈ lw_tbl := (tin4 (List.mem_of_getElem? (i := 175) rfl))
theorem sr_2 : Cond.stringRef RX4 147 "name sure father ward gate two ready" ∈ lw_tbl := (tin4 (List.mem_of_getElem? (i := 188) rfl))
theorem sr_3 : Cond.stringRef RX4 149 "total first second tribes" ∈ lw_tbl := (tin4 (List.mem_of_getElem? (i := 189) rfl))
theorem sr_4 : Cond.stringRef RX4 151 "yes total" ∈ lw_tbl := (tin4 (List.mem_of_getElem? (i := 190) rfl))
theorem sr_5 : Cond.stringRef RX4 153 "days years" ∈ lw_tbl := (tin4 (List.mem_of_getElem? (i := 191) rfl))
theorem sr_6 : Cond.stringRef RX4 158 "and or" ∈ lw_tbl := (tin4 (List.mem_of_getElem? (i := 208) rfl))
theorem nw_all (hts : ∀ w ∈ lw_tbl, w.before #[Value.ref b] s = true) : ∀ q ∈ NWl, va_Nw (.methodLinkNest q.1 q.2.1 q.2.2 RX11) s := by
  intro q hq
  simp only [NWl, List.mem_cons, List.not_mem_nil, or_false] at hq
  rcases hq with rfl | rfl | rfl | rfl | rfl | rfl | rfl | rfl | rfl | rfl | rfl | rfl
  · exact va_Nw.of rfl (hts _ mn_0)
  · exact va_Nw.of rfl (hts _ mn_1)
  · exact va_Nw.of rfl (hts _ mn_2)
  · exact va_Nw.of rfl (hts _ mn_3)
  · exact va_Nw.of rfl (hts _ mn_4)
  · exact va_Nw.of rfl (hts _ mn_5)
  · exact va_Nw.of rfl (hts _ mn_6)
  · exact va_Nw.of rfl (hts _ mn_7)
  · exact va_Nw.of rfl (hts _ mn_8)
  · exact va_Nw.of rfl (hts _ mn_9)
  · exact va_Nw.of rfl (hts _ mn_10)
  · exact va_Nw.of rfl (hts _ mn_11)
theorem ao_all (hts : ∀ w ∈ lw_tbl, w.before #[Value.ref b] s = true) : ∀ C ∈ AOl, va_AO C s := by
  intro q hq
  simp only [AOl, List.mem_cons, List.not_mem_nil, or_false] at hq
  rcases hq with rfl | rfl | rfl | rfl | rfl | rfl | rfl
  · exact va_AO.of (hts _ ao_RX1)
  · exact va_AO.of (hts _ ao_RX3)
  · exact va_AO.of (hts _ ao_RX5)
  · exact va_AO.of (hts _ ao_RX7)
  · exact va_AO.of (hts _ ao_RX8)
  · exact va_AO.of (hts _ ao_RX9)
  · exact va_AO.of (hts _ ao_RX10)
theorem kn_all (hts : ∀ w ∈ lw_tbl, w.before #[Value.ref b] s = true) : ∃ d : Nat → ClassId × (Nat → Nat), ∀ (c : Nat) (q : vw_C), vwCl[c]? = some q → u_Kn s q.1 q.2.1 q.2.2 (d c).1 (d c).2 := by
  have ht : ∀ w ∈ TB, w.before #[Value.ref b] s = true := fun w h => hts w (tbIn h)
  have h0 : ∀ c : Nat, ∃ d : ClassId × (Nat → Nat), ∀ q : vw_C, vwCl[c]? = some q → u_Kn s q.1 q.2.1 q.2.2 d.1 d.2 := by
    intro c
    rcases c with _ | _ | _ | _ | _ | _ | _ | _ | _ | _ | _ | _ | _ | c
    · obtain ⟨c, iS, h⟩ := u_known (C := RX0) (T := TX0) (N := 6) (n := 6) ht in_RX0 (ht _ tb_328)
      exact ⟨(c, iS), fun q hq => by obtain rfl := Option.some.inj hq; exact h⟩
    · obtain ⟨c, iS, h⟩ := u_known (C := RX1) (T := TX1) (N := 4) (n := 4) ht in_RX1 (ht _ tb_120)
      exact ⟨(c, iS), fun q hq => by obtain rfl := Option.some.inj hq; exact h⟩
    · obtain ⟨c, iS, h⟩ := u_known (C := RX2) (T := TX2) (N := 20) (n := 20) ht in_RX2 (ht _ tb_30)
      exact ⟨(c, iS), fun q hq => by obtain rfl := Option.some.inj hq; exact h⟩
    · obtain ⟨c, iS, h⟩ := u_known (C := RX3) (T := TX3) (N := 8) (n := 8) ht in_RX3 (ht _ tb_185)
      exact ⟨(c, iS), fun q hq => by obtain rfl := Option.some.inj hq; exact h⟩
    · obtain ⟨c, iS, h⟩ := u_known (C := RX4) (T := TX4) (N := 13) (n := 13) ht in_RX4 (ht _ tb_272)
      exact ⟨(c, iS), fun q hq => by obtain rfl := Option.some.inj hq; exact h⟩
    · obtain ⟨c, iS, h⟩ := u_known (C := RX5) (T := TX5) (N := 10) (n := 10) ht in_RX5 (ht _ tb_65)
      exact ⟨(c, iS), fun q hq => by obtain rfl := Option.some.inj hq; exact h⟩
    · obtain ⟨c, iS, h⟩ := u_known (C := RX6) (T := TX6) (N := 6) (n := 6) ht in_RX6 (ht _ tb_307)
      exact ⟨(c, iS), fun q hq => by obtain rfl := Option.some.inj hq; exact h⟩
    · obtain ⟨c, iS, h⟩ := u_known (C := RX7) (T := TX7) (N := 2) (n := 2) ht in_RX7 (ht _ tb_981)
      exact ⟨(c, iS), fun q hq => by obtain rfl := Option.some.inj hq; exact h⟩
    · obtain ⟨c, iS, h⟩ := u_known (C := RX8) (T := TX8) (N := 11) (n := 11) ht in_RX8 (ht _ tb_137)
      exact ⟨(c, iS), fun q hq => by obtain rfl := Option.some.inj hq; exact h⟩
    · obtain ⟨c, iS, h⟩ := u_known (C := RX9) (T := TX9) (N := 4) (n := 4) ht in_RX9 (ht _ tb_48)
      exact ⟨(c, iS), fun q hq => by obtain rfl := Option.some.inj hq; exact h⟩
    · obtain ⟨c, iS, h⟩ := u_known (C := RX10) (T := TX10) (N := 3) (n := 3) ht in_RX10 (ht _ tb_106)
      exact ⟨(c, iS), fun q hq => by obtain rfl := Option.some.inj hq; exact h⟩
    · obtain ⟨c, iS, h⟩ := u_known (C := RX11) (T := TX11) (N := 17) (n := 17) ht in_RX11 (ht _ tb_22)
      exact ⟨(c, iS), fun q hq => by obtain rfl := Option.some.inj hq; exact h⟩
    · obtain ⟨c, iS, h⟩ := u_known (C := RX12) (T := TX12) (N := 43) (n := 43) ht in_RX12 (ht _ tb_1130)
      exact ⟨(c, iS), fun q hq => by obtain rfl := Option.some.inj hq; exact h⟩
    · exact ⟨(0, fun _ => 0), fun q hq => by cases hq⟩
  obtain ⟨d, hd⟩ := Classical.axiomOfChoice h0
  exact ⟨d, fun c q hq => hd c q hq⟩
/-- the classes of arrays, by their kinds -/
theorem ar_all (hts : ∀ w ∈ lw_tbl, w.before #[Value.ref b] s = true) : ∃ d : Nat → ClassId, (∀ k, 100 ≤ k → k < 110 → ArrOfT s (d k) (aty k) ∧ va_RA s (d k) (aty k)) ∧ ArrOfT s (d 300) .byte ∧ s.vm.findClass "[I" = some (d 100) := by
  have ht : ∀ w ∈ TB, w.before #[Value.ref b] s = true := fun w h => hts w (tbIn h)
  obtain ⟨c0, a0, r0⟩ := arrP (ht _ tb_64)
  obtain ⟨c1, a1, r1⟩ := arrP (ht _ tb_1221)
  obtain ⟨c2, a2, r2⟩ := arrA (hts _ ao_ii)
  obtain ⟨cb, ab, -⟩ := arrP (hts _ ac_b)
  obtain ⟨c3, a3, r3⟩ := arrO (hts _ ao_RX1)
  obtain ⟨c4, a4, r4⟩ := arrO (hts _ ao_RX3)
  obtain ⟨c5, a5, r5⟩ := arrO (hts _ ao_RX5)
  obtain ⟨c6, a6, r6⟩ := arrO (hts _ ao_RX7)
  obtain ⟨c7, a7, r7⟩ := arrO (hts _ ao_RX8)
  obtain ⟨c8, a8, r8⟩ := arrO (hts _ ao_RX9)
  obtain ⟨c9, a9, r9⟩ := arrO (hts _ ao_RX10)
  refine ⟨fun k => if k = 100 then c0 else if k = 101 then c1 else if k = 102 then c2 else if k = 103 then c3 else if k = 104 then c4 else if k = 105 then c5 else if k = 106 then c6 else if k = 107 then c7 else if k = 108 then c8 else if k = 109 then c9 else cb, fun k h1 h2 => ?_, ab, r0⟩
  rcases (by omega : k = 100 ∨ k = 101 ∨ k = 102 ∨ k = 103 ∨ k = 104 ∨ k = 105 ∨ k = 106 ∨ k = 107 ∨ k = 108 ∨ k = 109) with rfl | rfl | rfl | rfl | rfl | rfl | rfl | rfl | rfl | rfl
  · exact ⟨a0, r0⟩
  · exact ⟨a1, r1⟩
  · exact ⟨a2, r2⟩
  · exact ⟨a3, r3⟩
  · exact ⟨a4, r4⟩
  · exact ⟨a5, r5⟩
  · exact ⟨a6, r6⟩
  · exact ⟨a7, r7⟩
  · exact ⟨a8, r8⟩
  · exact ⟨a9, r9⟩
end BEGIN1
