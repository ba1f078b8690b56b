-- ===== the law, its script read out of what never changes =====
def sX (L : Nat) (xs : Nat → Int32) (i : Int32) : Option Int32 := if i < 0 ∨ L ≤ i.toNatClampNeg then none else some (xs i.toNatClampNeg)
def SB (K : KT) (x0 : Option Nat) (L : Nat) (xs : Nat → Int32) : Prop := match K with
  | (_, _, _, _, _, _, _, _, _, _, D, B0, _, _, _) => ∃ (b : Nat) (cell : Cell), x0 = some b ∧ B0[b]? = some cell ∧ cell.cls = D.1 250 ∧ (∀ q, cell.vm ≠ .statics q) ∧ cell.vm ≠ .unknown ∧ cell.slots.size = L ∧ ∀ j, j < L → cell.slots[j]? = some (.int (xs j))
section SCRIPT
variable {K : KT} {cc : ByteArray} {own : String} {Ts : List Cond} {ret : Option FieldType} {nm : String} {R0 : Room} {n0 m0 s0 : Nat} {z : Option TV × AH} {cells slots pc : Nat} {lv : List (Nat × TV)} {st : List TV} {h : AH} {L : Nat} {xs : Nat → Int32} {r : Option Nat}
theorem g_sload {α : Type} {f : Int32 → Option α} {w : α} (X : CX K cc own Ts ret nm R0 n0 m0 s0) (hB : SB K r L xs) {i : Int32} (hf : (sX L xs i).bind f = some w) (d : decode cc pc = .ok (.iaload, 1)) (kk : ∀ v, f v = some w → GG K z cells slots (pc + 1) lv (tI v :: st) h) : GG K z cells slots pc lv (tI i :: tR r :: st) h := by
  obtain ⟨p, l, e, R, s, m, args, below, meth, c, D, B0, nL, mc, ms⟩ := K
  obtain ⟨hx, hb, hml, hown, hts, hret, hlk, hK, hnm, hR0, hn0, hm0, hs0⟩ := X
  obtain ⟨b, cell, rfl, q1, q2, q3, q4, q5, q6⟩ := hB
  intro H locs ls hR hL hv
  obtain ⟨v, hv1, hv2⟩ := Option.bind_eq_some_iff.mp hf
  obtain ⟨g1, g2, g3⟩ := kInt_aty (k := 250) rfl
  have hlt : b < B0.size := (Array.getElem?_eq_some_iff.mp q1).1
  have q1' : H[b]? = some cell := (hR.2.2.1 b hlt).trans q1
  have harr := arrOf hK g1 q2 q3
  rw [g2] at harr
  by_cases hi : i < 0 ∨ L ≤ i.toNatClampNeg
  · rw [sX, if_pos hi] at hv1
    cases hv1
  rw [sX, if_neg hi] at hv1
  obtain rfl := Option.some.inj hv1
  exact W.iald (v := .int (xs i.toNatClampNeg)) hx hb q1' harr q4 (by rw [q5]; exact hi) (by rw [q6 _ (Nat.not_le.mp fun q => hi (Or.inr q))]) rfl rfl d (kk _ hv2 H locs ls hR hL hv)
theorem g_slen {α : Type} {f : Int32 → Option α} {w : α} (X : CX K cc own Ts ret nm R0 n0 m0 s0) (hB : SB K r L xs) (hf : (some (nI L)).bind f = some w) (d : decode cc pc = .ok (.arraylength, 1)) (kk : ∀ v, f v = some w → GG K z cells slots (pc + 1) lv (tI v :: st) h) : GG K z cells slots pc lv (tR r :: st) h := by
  obtain ⟨p, l, e, R, s, m, args, below, meth, c, D, B0, nL, mc, ms⟩ := K
  obtain ⟨hx, hb, hml, hown, hts, hret, hlk, hK, hnm, hR0, hn0, hm0, hs0⟩ := X
  obtain ⟨b, cell, rfl, q1, q2, q3, q4, q5, q6⟩ := hB
  intro H locs ls hR hL hv
  obtain ⟨g1, g2, g3⟩ := kInt_aty (k := 250) rfl
  have hlt : b < B0.size := (Array.getElem?_eq_some_iff.mp q1).1
  have q1' : H[b]? = some cell := (hR.2.2.1 b hlt).trans q1
  exact W.alen (n := nI L) hx hb q1' (arrOf hK g1 q2 q3) (by rw [q5]; rfl) rfl rfl d (kk _ hf H locs ls hR hL hv)
end SCRIPT
def c_L_law_18 (L : Nat) (xs : Nat → Int32) : Nat → Option Nat → Option Nat → Option Nat → Int32 → AH → Option (Int32 × AH)
  | 0 => fun _ _ _ _ _ => none
  | n + 1 => fun x0 x1 x2 x3 h =>
    (some (nI L)).bind fun v1 =>
    if (v1 - 7) < x3 then
      some (1, h)
    else
      (sX L xs x3).bind fun v2 =>
      if (v2 &&& 63) < 0 ∨ 55 < (v2 &&& 63) then
        c_L_law_18 L xs n x0 x1 x2 (x3 + 7) h
      else if (v2 &&& 63) = 0 then
        (sX L xs (x3 + 1)).bind fun v3 =>
        (ck 11 h x1 (f_X11_days x1 v3 h)).bind fun p4 =>
        (sX L xs (x3 + 1)).bind fun v5 =>
        (ck 12 p4.2 x2 (f_X12_days x2 v5 p4.2)).bind fun p6 =>
        if p4.1 = p6.1 then
          c_L_law_18 L xs n x0 x1 x2 (x3 + 7) p6.2
        else
          some (0, p6.2)
      else if (v2 &&& 63) = 1 then
        (sX L xs (x3 + 1)).bind fun v7 =>
        (ck 11 h x1 (f_X11_wet x1 v7 h)).bind fun p8 =>
        (sX L xs (x3 + 1)).bind fun v9 =>
        (ck 12 p8.2 x2 (f_X12_wet x2 v9 p8.2)).bind fun p10 =>
        if p8.1 = p10.1 then
          c_L_law_18 L xs n x0 x1 x2 (x3 + 7) p10.2
        else
          some (0, p10.2)
      else if (v2 &&& 63) = 2 then
        (sX L xs (x3 + 1)).bind fun v11 =>
        (sX L xs (x3 + 2)).bind fun v12 =>
        (ck 11 h x1 (f_X11_ward x1 v11 v12 h)).bind fun p13 =>
        (sX L xs (x3 + 1)).bind fun v14 =>
        (sX L xs (x3 + 2)).bind fun v15 =>
        (ck 12 p13.2 x2 (f_X12_ward x2 v14 v15 p13.2)).bind fun p16 =>
        if p13.1 = p16.1 then
          c_L_law_18 L xs n x0 x1 x2 (x3 + 7) p16.2
        else
          some (0, p16.2)
      else if (v2 &&& 63) = 3 then
        (sX L xs (x3 + 1)).bind fun v17 =>
        (sX L xs (x3 + 2)).bind fun v18 =>
        (sX L xs (x3 + 3)).bind fun v19 =>
        (ck 11 h x1 (f_X11_harvest x1 v17 v18 v19 h)).bind fun p20 =>
        (sX L xs (x3 + 1)).bind fun v21 =>
        (sX L xs (x3 + 2)).bind fun v22 =>
        (sX L xs (x3 + 3)).bind fun v23 =>
        (ck 12 p20.2 x2 (f_X12_harvest x2 v21 v22 v23 p20.2)).bind fun p24 =>
        if p20.1 = p24.1 then
          c_L_law_18 L xs n x0 x1 x2 (x3 + 7) p24.2
        else
          some (0, p24.2)
      else if (v2 &&& 63) = 4 then
        (sX L xs (x3 + 1)).bind fun v25 =>
        (sX L xs (x3 + 2)).bind fun v26 =>
        (sX L xs (x3 + 3)).bind fun v27 =>
        (sX L xs (x3 + 4)).bind fun v28 =>
        (ck 11 h x1 (f_X11_man x1 v25 v26 v27 v28 h)).bind fun p29 =>
        (sX L xs (x3 + 1)).bind fun v30 =>
        (sX L xs (x3 + 2)).bind fun v31 =>
        (sX L xs (x3 + 3)).bind fun v32 =>
        (sX L xs (x3 + 4)).bind fun v33 =>
        (ck 12 p29.2 x2 (f_X12_man x2 v30 v31 v32 v33 p29.2)).bind fun p34 =>
        if p29.1 = p34.1 then
          c_L_law_18 L xs n x0 x1 x2 (x3 + 7) p34.2
        else
          some (0, p34.2)
      else if (v2 &&& 63) = 5 then
        (sX L xs (x3 + 1)).bind fun v35 =>
        (sX L xs (x3 + 2)).bind fun v36 =>
        (sX L xs (x3 + 3)).bind fun v37 =>
        (ck 11 h x1 (f_X11_style x1 v35 v36 v37 h)).bind fun p38 =>
        (sX L xs (x3 + 1)).bind fun v39 =>
        (sX L xs (x3 + 2)).bind fun v40 =>
        (sX L xs (x3 + 3)).bind fun v41 =>
        (ck 12 p38.2 x2 (f_X12_style x2 v39 v40 v41 p38.2)).bind fun p42 =>
        if p38.1 = p42.1 then
          c_L_law_18 L xs n x0 x1 x2 (x3 + 7) p42.2
        else
          some (0, p42.2)
      else if (v2 &&& 63) = 6 then
        (sX L xs (x3 + 1)).bind fun v43 =>
        (sX L xs (x3 + 2)).bind fun v44 =>
        (sX L xs (x3 + 3)).bind fun v45 =>
        (ck 11 h x1 (f_X11_fear x1 v43 v44 v45 h)).bind fun p46 =>
        (sX L xs (x3 + 1)).bind fun v47 =>
        (sX L xs (x3 + 2)).bind fun v48 =>
        (sX L xs (x3 + 3)).bind fun v49 =>
        (ck 12 p46.2 x2 (f_X12_fear x2 v47 v48 v49 p46.2)).bind fun p50 =>
        if p46.1 = p50.1 then
          c_L_law_18 L xs n x0 x1 x2 (x3 + 7) p50.2
        else
          some (0, p50.2)
      else if (v2 &&& 63) = 7 then
        (sX L xs (x3 + 1)).bind fun v51 =>
        (sX L xs (x3 + 2)).bind fun v52 =>
        (sX L xs (x3 + 3)).bind fun v53 =>
        (ck 11 h x1 (f_X11_word x1 v51 v52 v53 h)).bind fun p54 =>
        (sX L xs (x3 + 1)).bind fun v55 =>
        (sX L xs (x3 + 2)).bind fun v56 =>
        (sX L xs (x3 + 3)).bind fun v57 =>
        (ck 12 p54.2 x2 (f_X12_word x2 v55 v56 v57 p54.2)).bind fun p58 =>
        if p54.1 = p58.1 then
          c_L_law_18 L xs n x0 x1 x2 (x3 + 7) p58.2
        else
          some (0, p58.2)
      else if (v2 &&& 63) = 8 then
        (sX L xs (x3 + 1)).bind fun v59 =>
        (sX L xs (x3 + 2)).bind fun v60 =>
        (ck 11 h x1 (f_X11_heard x1 v59 v60 h)).bind fun v61 =>
        (sX L xs (x3 + 1)).bind fun v62 =>
        (sX L xs (x3 + 2)).bind fun v63 =>
        (ck 12 h x2 (f_X12_heard x2 v62 v63 h)).bind fun v64 =>
        if v61 = v64 then
          c_L_law_18 L xs n x0 x1 x2 (x3 + 7) h
        else
          some (0, h)
      else if (v2 &&& 63) = 9 then
        (sX L xs (x3 + 1)).bind fun v65 =>
        (sX L xs (x3 + 2)).bind fun v66 =>
        (sX L xs (x3 + 3)).bind fun v67 =>
        (ck 11 h x1 (f_X11_dread x1 v65 v66 v67 h)).bind fun v68 =>
        (sX L xs (x3 + 1)).bind fun v69 =>
        (sX L xs (x3 + 2)).bind fun v70 =>
        (sX L xs (x3 + 3)).bind fun v71 =>
        (ck 12 h x2 (f_X12_dread x2 v69 v70 v71 h)).bind fun v72 =>
        if v68 = v72 then
          c_L_law_18 L xs n x0 x1 x2 (x3 + 7) h
        else
          some (0, h)
      else if (v2 &&& 63) = 10 then
        (sX L xs (x3 + 1)).bind fun v73 =>
        (sX L xs (x3 + 2)).bind fun v74 =>
        (ck 11 h x1 (f_X11_rule x1 v73 v74 h)).bind fun p75 =>
        (sX L xs (x3 + 1)).bind fun v76 =>
        (sX L xs (x3 + 2)).bind fun v77 =>
        (ck 12 p75.2 x2 (f_X12_rule x2 v76 v77 p75.2)).bind fun p78 =>
        if p75.1 = p78.1 then
          c_L_law_18 L xs n x0 x1 x2 (x3 + 7) p78.2
        else
          some (0, p78.2)
      else if (v2 &&& 63) = 11 then
        (sX L xs (x3 + 1)).bind fun v79 =>
        (sX L xs (x3 + 2)).bind fun v80 =>
        (ck 11 h x1 (f_X11_of x1 v79 v80 h)).bind fun v81 =>
        (sX L xs (x3 + 1)).bind fun v82 =>
        (sX L xs (x3 + 2)).bind fun v83 =>
        (ck 12 h x2 (f_X12_of x2 v82 v83 h)).bind fun v84 =>
        if v81 = v84 then
          c_L_law_18 L xs n x0 x1 x2 (x3 + 7) h
        else
          some (0, h)
      else if (v2 &&& 63) = 12 then
        (sX L xs (x3 + 1)).bind fun v85 =>
        (sX L xs (x3 + 2)).bind fun v86 =>
        (sX L xs (x3 + 3)).bind fun v87 =>
        (sX L xs (x3 + 4)).bind fun v88 =>
        (ck 11 h x1 (f_X11_bargain x1 v85 v86 v87 v88 h)).bind fun p89 =>
        (sX L xs (x3 + 1)).bind fun v90 =>
        (sX L xs (x3 + 2)).bind fun v91 =>
        (sX L xs (x3 + 3)).bind fun v92 =>
        (sX L xs (x3 + 4)).bind fun v93 =>
        (ck 12 p89.2 x2 (f_X12_bargain x2 v90 v91 v92 v93 p89.2)).bind fun p94 =>
        if p89.1 = p94.1 then
          c_L_law_18 L xs n x0 x1 x2 (x3 + 7) p94.2
        else
          some (0, p94.2)
      else if (v2 &&& 63) = 13 then
        (sX L xs (x3 + 1)).bind fun v95 =>
        (sX L xs (x3 + 2)).bind fun v96 =>
        (ck 11 h x1 (f_X11_bound x1 v95 v96 h)).bind fun v97 =>
        (sX L xs (x3 + 1)).bind fun v98 =>
        (sX L xs (x3 + 2)).bind fun v99 =>
        (ck 12 h x2 (f_X12_bound x2 v98 v99 h)).bind fun v100 =>
        if v97 = v100 then
          c_L_law_18 L xs n x0 x1 x2 (x3 + 7) h
        else
          some (0, h)
      else if (v2 &&& 63) = 14 then
        (sX L xs (x3 + 1)).bind fun v101 =>
        (sX L xs (x3 + 2)).bind fun v102 =>
        (ck 11 h x1 (f_X11_comes x1 v101 v102 h)).bind fun v103 =>
        (sX L xs (x3 + 1)).bind fun v104 =>
        (sX L xs (x3 + 2)).bind fun v105 =>
        (ck 12 h x2 (f_X12_comes x2 v104 v105 h)).bind fun v106 =>
        if v103 = v106 then
          c_L_law_18 L xs n x0 x1 x2 (x3 + 7) h
        else
          some (0, h)
      else if (v2 &&& 63) = 15 then
        (sX L xs (x3 + 1)).bind fun v107 =>
        (sX L xs (x3 + 2)).bind fun v108 =>
        (ck 11 h x1 (f_X11_cast x1 v107 v108 h)).bind fun v109 =>
        (sX L xs (x3 + 1)).bind fun v110 =>
        (sX L xs (x3 + 2)).bind fun v111 =>
        (ck 12 h x2 (f_X12_cast x2 v110 v111 h)).bind fun v112 =>
        if v109 = v112 then
          c_L_law_18 L xs n x0 x1 x2 (x3 + 7) h
        else
          some (0, h)
      else if (v2 &&& 63) = 16 then
        (sX L xs (x3 + 1)).bind fun v113 =>
        (sX L xs (x3 + 2)).bind fun v114 =>
        (sX L xs (x3 + 3)).bind fun v115 =>
        (sX L xs (x3 + 4)).bind fun v116 =>
        (sX L xs (x3 + 5)).bind fun v117 =>
        (sX L xs (x3 + 6)).bind fun v118 =>
        (ck 11 h x1 (f_X11_sherd x1 v113 v114 v115 v116 v117 v118 h)).bind fun p119 =>
        (sX L xs (x3 + 1)).bind fun v120 =>
        (sX L xs (x3 + 2)).bind fun v121 =>
        (sX L xs (x3 + 3)).bind fun v122 =>
        (sX L xs (x3 + 4)).bind fun v123 =>
        (sX L xs (x3 + 5)).bind fun v124 =>
        (sX L xs (x3 + 6)).bind fun v125 =>
        (ck 12 p119.2 x2 (f_X12_sherd x2 v120 v121 v122 v123 v124 v125 p119.2)).bind fun p126 =>
        if p119.1 = p126.1 then
          c_L_law_18 L xs n x0 x1 x2 (x3 + 7) p126.2
        else
          some (0, p126.2)
      else if (v2 &&& 63) = 17 then
        (ck 11 h x1 (f_X11_vote x1 h)).bind fun p127 =>
        (ck 12 p127.2 x2 (f_X12_vote x2 p127.2)).bind fun p128 =>
        if p127.1 = p128.1 then
          c_L_law_18 L xs n x0 x1 x2 (x3 + 7) p128.2
        else
          some (0, p128.2)
      else if (v2 &&& 63) = 18 then
        (sX L xs (x3 + 1)).bind fun v129 =>
        (ck 11 h x1 (f_X11_thrown x1 v129 h)).bind fun p130 =>
        (sX L xs (x3 + 1)).bind fun v131 =>
        (ck 12 p130.2 x2 (f_X12_thrown x2 v131 p130.2)).bind fun p132 =>
        if p130.1 = p132.1 then
          c_L_law_18 L xs n x0 x1 x2 (x3 + 7) p132.2
        else
          some (0, p132.2)
      else if (v2 &&& 63) = 19 then
        (sX L xs (x3 + 1)).bind fun v133 =>
        (sX L xs (x3 + 2)).bind fun v134 =>
        (ck 11 h x1 (f_X11_sherdOf x1 v133 v134 h)).bind fun p135 =>
        (sX L xs (x3 + 1)).bind fun v136 =>
        (sX L xs (x3 + 2)).bind fun v137 =>
        (ck 12 p135.2 x2 (f_X12_sherdOf x2 v136 v137 p135.2)).bind fun p138 =>
        if p135.1 = p138.1 then
          c_L_law_18 L xs n x0 x1 x2 (x3 + 7) p138.2
        else
          some (0, p138.2)
      else if (v2 &&& 63) = 20 then
        (sX L xs (x3 + 1)).bind fun v139 =>
        (sX L xs (x3 + 2)).bind fun v140 =>
        (ck 11 h x1 (f_X11_apart x1 v139 v140 h)).bind fun p141 =>
        (sX L xs (x3 + 1)).bind fun v142 =>
        (sX L xs (x3 + 2)).bind fun v143 =>
        (ck 12 p141.2 x2 (f_X12_apart x2 v142 v143 p141.2)).bind fun p144 =>
        if p141.1 = p144.1 then
          c_L_law_18 L xs n x0 x1 x2 (x3 + 7) p144.2
        else
          some (0, p144.2)
      else if (v2 &&& 63) = 21 then
        (sX L xs (x3 + 1)).bind fun v145 =>
        (sX L xs (x3 + 2)).bind fun v146 =>
        (sX L xs (x3 + 3)).bind fun v147 =>
        (ck 11 h x1 (f_X11_feed x1 ((((v145 : Int32).toInt64) <<< ((32 : Int32).toInt64 &&& 63)) ||| (((v146 : Int32).toInt64) &&& 4294967295)) v147 h)).bind fun p148 =>
        (sX L xs (x3 + 1)).bind fun v149 =>
        (sX L xs (x3 + 2)).bind fun v150 =>
        (sX L xs (x3 + 3)).bind fun v151 =>
        (ck 12 p148.2 x2 (f_X12_feed x2 ((((v149 : Int32).toInt64) <<< ((32 : Int32).toInt64 &&& 63)) ||| (((v150 : Int32).toInt64) &&& 4294967295)) v151 p148.2)).bind fun p152 =>
        if p148.1 = p152.1 then
          c_L_law_18 L xs n x0 x1 x2 (x3 + 7) p152.2
        else
          some (0, p152.2)
      else if (v2 &&& 63) = 22 then
        (sX L xs (x3 + 1)).bind fun v153 =>
        (ck 11 h x1 (f_X11_read x1 v153 h)).bind fun p154 =>
        (sX L xs (x3 + 1)).bind fun v155 =>
        (ck 12 p154.2 x2 (f_X12_read x2 v155 p154.2)).bind fun p156 =>
        if p154.1 = p156.1 then
          c_L_law_18 L xs n x0 x1 x2 (x3 + 7) p156.2
        else
          some (0, p156.2)
      else if (v2 &&& 63) = 23 then
        (sX L xs (x3 + 1)).bind fun v157 =>
        (ck 11 h x1 (f_X11_force x1 v157 h)).bind fun p158 =>
        (sX L xs (x3 + 1)).bind fun v159 =>
        (ck 12 p158.2 x2 (f_X12_force x2 v159 p158.2)).bind fun p160 =>
        if p158.1 = p160.1 then
          c_L_law_18 L xs n x0 x1 x2 (x3 + 7) p160.2
        else
          some (0, p160.2)
      else if (v2 &&& 63) = 24 then
        (sX L xs (x3 + 1)).bind fun v161 =>
        (ck 11 h x1 (f_X11_law x1 v161 h)).bind fun v162 =>
        (sX L xs (x3 + 1)).bind fun v163 =>
        (ck 12 h x2 (f_X12_law x2 v163 h)).bind fun p164 =>
        if v162 = p164.1 then
          c_L_law_18 L xs n x0 x1 x2 (x3 + 7) p164.2
        else
          some (0, p164.2)
      else if (v2 &&& 63) = 25 then
        (sX L xs (x3 + 1)).bind fun v165 =>
        (sX L xs (x3 + 2)).bind fun v166 =>
        (ck 11 h x1 (f_X11_count x1 v165 v166 h)).bind fun p167 =>
        (sX L xs (x3 + 1)).bind fun v168 =>
        (sX L xs (x3 + 2)).bind fun v169 =>
        (ck 12 p167.2 x2 (f_X12_count x2 v168 v169 p167.2)).bind fun p170 =>
        if p167.1 = p170.1 then
          c_L_law_18 L xs n x0 x1 x2 (x3 + 7) p170.2
        else
          some (0, p170.2)
      else if (v2 &&& 63) = 26 then
        (sX L xs (x3 + 1)).bind fun v171 =>
        (sX L xs (x3 + 2)).bind fun v172 =>
        (sX L xs (x3 + 3)).bind fun v173 =>
        if v173 = 0 then
          (ck 11 h x1 (f_X11_counted x1 v171 v172 0 h)).bind fun p174 =>
          (sX L xs (x3 + 1)).bind fun v175 =>
          (sX L xs (x3 + 2)).bind fun v176 =>
          (sX L xs (x3 + 3)).bind fun v177 =>
          if v177 = 0 then
            (ck 12 p174.2 x2 (f_X12_counted x2 v175 v176 0 p174.2)).bind fun p178 =>
            if p174.1 = p178.1 then
              c_L_law_18 L xs n x0 x1 x2 (x3 + 7) p178.2
            else
              some (0, p178.2)
          else
            (ck 12 p174.2 x2 (f_X12_counted x2 v175 v176 1 p174.2)).bind fun p179 =>
            if p174.1 = p179.1 then
              c_L_law_18 L xs n x0 x1 x2 (x3 + 7) p179.2
            else
              some (0, p179.2)
        else
          (ck 11 h x1 (f_X11_counted x1 v171 v172 1 h)).bind fun p180 =>
          (sX L xs (x3 + 1)).bind fun v181 =>
          (sX L xs (x3 + 2)).bind fun v182 =>
          (sX L xs (x3 + 3)).bind fun v183 =>
          if v183 = 0 then
            (ck 12 p180.2 x2 (f_X12_counted x2 v181 v182 0 p180.2)).bind fun p184 =>
            if p180.1 = p184.1 then
              c_L_law_18 L xs n x0 x1 x2 (x3 + 7) p184.2
            else
              some (0, p184.2)
          else
            (ck 12 p180.2 x2 (f_X12_counted x2 v181 v182 1 p180.2)).bind fun p185 =>
            if p180.1 = p185.1 then
              c_L_law_18 L xs n x0 x1 x2 (x3 + 7) p185.2
            else
              some (0, p185.2)
      else if (v2 &&& 63) = 27 then
        (sX L xs (x3 + 1)).bind fun v186 =>
        (sX L xs (x3 + 2)).bind fun v187 =>
        (sX L xs (x3 + 3)).bind fun v188 =>
        (ck 11 h x1 (f_X11_tally x1 v186 v187 v188 h)).bind fun p189 =>
        (sX L xs (x3 + 1)).bind fun v190 =>
        (sX L xs (x3 + 2)).bind fun v191 =>
        (sX L xs (x3 + 3)).bind fun v192 =>
        (ck 12 p189.2 x2 (f_X12_tally x2 v190 v191 v192 p189.2)).bind fun p193 =>
        if p189.1 = p193.1 then
          c_L_law_18 L xs n x0 x1 x2 (x3 + 7) p193.2
        else
          some (0, p193.2)
      else if (v2 &&& 63) = 28 then
        (sX L xs (x3 + 1)).bind fun v194 =>
        (ck 11 h x1 (f_X11_tallies x1 v194 h)).bind fun p195 =>
        (sX L xs (x3 + 1)).bind fun v196 =>
        (ck 12 p195.2 x2 (f_X12_tallies x2 v196 p195.2)).bind fun p197 =>
        if p195.1 = p197.1 then
          c_L_law_18 L xs n x0 x1 x2 (x3 + 7) p197.2
        else
          some (0, p197.2)
      else if (v2 &&& 63) = 29 then
        (ck 11 h x1 (f_X11_send x1 h)).bind fun p198 =>
        (ck 12 p198.2 x2 (f_X12_send x2 p198.2)).bind fun p199 =>
        if p198.1 = p199.1 then
          c_L_law_18 L xs n x0 x1 x2 (x3 + 7) p199.2
        else
          some (0, p199.2)
      else if (v2 &&& 63) = 30 then
        (sX L xs (x3 + 1)).bind fun v200 =>
        (sX L xs (x3 + 2)).bind fun v201 =>
        (sX L xs (x3 + 3)).bind fun v202 =>
        (ck 11 h x1 (f_X11_recall x1 v200 v201 v202 h)).bind fun p203 =>
        (sX L xs (x3 + 1)).bind fun v204 =>
        (sX L xs (x3 + 2)).bind fun v205 =>
        (sX L xs (x3 + 3)).bind fun v206 =>
        (ck 12 p203.2 x2 (f_X12_recall x2 v204 v205 v206 p203.2)).bind fun p207 =>
        if p203.1 = p207.1 then
          c_L_law_18 L xs n x0 x1 x2 (x3 + 7) p207.2
        else
          some (0, p207.2)
      else if (v2 &&& 63) = 31 then
        (sX L xs (x3 + 1)).bind fun v208 =>
        (sX L xs (x3 + 2)).bind fun v209 =>
        (ck 11 h x1 (f_X11_may x1 v208 v209 h)).bind fun p210 =>
        (sX L xs (x3 + 1)).bind fun v211 =>
        (sX L xs (x3 + 2)).bind fun v212 =>
        (ck 12 p210.2 x2 (f_X12_may x2 v211 v212 p210.2)).bind fun p213 =>
        if p210.1 = p213.1 then
          c_L_law_18 L xs n x0 x1 x2 (x3 + 7) p213.2
        else
          some (0, p213.2)
      else if (v2 &&& 63) = 32 then
        (sX L xs (x3 + 1)).bind fun v214 =>
        (sX L xs (x3 + 2)).bind fun v215 =>
        (ck 11 h x1 (f_X11_beside x1 v214 v215 h)).bind fun p216 =>
        (sX L xs (x3 + 1)).bind fun v217 =>
        (sX L xs (x3 + 2)).bind fun v218 =>
        (ck 12 p216.2 x2 (f_X12_beside x2 v217 v218 p216.2)).bind fun p219 =>
        if p216.1 = p219.1 then
          c_L_law_18 L xs n x0 x1 x2 (x3 + 7) p219.2
        else
          some (0, p219.2)
      else if (v2 &&& 63) = 33 then
        (sX L xs (x3 + 1)).bind fun v220 =>
        (ck 11 h x1 (f_X11_keptBy x1 v220 h)).bind fun p221 =>
        (sX L xs (x3 + 1)).bind fun v222 =>
        (ck 12 p221.2 x2 (f_X12_keptBy x2 v222 p221.2)).bind fun p223 =>
        if p221.1 = p223.1 then
          c_L_law_18 L xs n x0 x1 x2 (x3 + 7) p223.2
        else
          some (0, p223.2)
      else if (v2 &&& 63) = 34 then
        (sX L xs (x3 + 1)).bind fun v224 =>
        (sX L xs (x3 + 2)).bind fun v225 =>
        (ck 11 h x1 (f_X11_broken x1 v224 v225 h)).bind fun p226 =>
        (sX L xs (x3 + 1)).bind fun v227 =>
        (sX L xs (x3 + 2)).bind fun v228 =>
        (ck 12 p226.2 x2 (f_X12_broken x2 v227 v228 p226.2)).bind fun p229 =>
        if p226.1 = p229.1 then
          c_L_law_18 L xs n x0 x1 x2 (x3 + 7) p229.2
        else
          some (0, p229.2)
      else if (v2 &&& 63) = 35 then
        (sX L xs (x3 + 1)).bind fun v230 =>
        (sX L xs (x3 + 2)).bind fun v231 =>
        (ck 11 h x1 (f_X11_turn x1 v230 v231 h)).bind fun p232 =>
        (sX L xs (x3 + 1)).bind fun v233 =>
        (sX L xs (x3 + 2)).bind fun v234 =>
        (ck 12 p232.2 x2 (f_X12_turn x2 v233 v234 p232.2)).bind fun p235 =>
        if p232.1 = p235.1 then
          c_L_law_18 L xs n x0 x1 x2 (x3 + 7) p235.2
        else
          some (0, p235.2)
      else if (v2 &&& 63) = 36 then
        (sX L xs (x3 + 1)).bind fun v236 =>
        (ck 11 h x1 (f_X11_prove x1 v236 h)).bind fun p237 =>
        (sX L xs (x3 + 1)).bind fun v238 =>
        (ck 12 p237.2 x2 (f_X12_prove x2 v238 p237.2)).bind fun p239 =>
        if p237.1 = p239.1 then
          c_L_law_18 L xs n x0 x1 x2 (x3 + 7) p239.2
        else
          some (0, p239.2)
      else if (v2 &&& 63) = 37 then
        (sX L xs (x3 + 1)).bind fun v240 =>
        (sX L xs (x3 + 2)).bind fun v241 =>
        (ck 11 h x1 (f_X11_row x1 v240 v241 h)).bind fun v242 =>
        (sX L xs (x3 + 1)).bind fun v243 =>
        (sX L xs (x3 + 2)).bind fun v244 =>
        (ck 12 h x2 (f_X12_row x2 v243 v244 h)).bind fun v245 =>
        if v242 = v245 then
          c_L_law_18 L xs n x0 x1 x2 (x3 + 7) h
        else
          some (0, h)
      else if (v2 &&& 63) = 38 then
        (sX L xs (x3 + 1)).bind fun v246 =>
        (sX L xs (x3 + 2)).bind fun v247 =>
        (sX L xs (x3 + 3)).bind fun v248 =>
        (ck 11 h x1 (f_X11_alterRow x1 v246 v247 v248 h)).bind fun p249 =>
        (sX L xs (x3 + 1)).bind fun v250 =>
        (sX L xs (x3 + 2)).bind fun v251 =>
        (sX L xs (x3 + 3)).bind fun v252 =>
        (ck 12 p249.2 x2 (f_X12_alterRow x2 v250 v251 v252 p249.2)).bind fun p253 =>
        if p249.1 = p253.1 then
          c_L_law_18 L xs n x0 x1 x2 (x3 + 7) p253.2
        else
          some (0, p253.2)
      else if (v2 &&& 63) = 39 then
        (sX L xs (x3 + 1)).bind fun v254 =>
        (ck 11 h x1 (f_X11_judge x1 v254 h)).bind fun p255 =>
        (sX L xs (x3 + 1)).bind fun v256 =>
        (ck 12 p255.2 x2 (f_X12_judge x2 v256 p255.2)).bind fun p257 =>
        if p255.1 = p257.1 then
          c_L_law_18 L xs n x0 x1 x2 (x3 + 7) p257.2
        else
          some (0, p257.2)
      else if (v2 &&& 63) = 40 then
        (sX L xs (x3 + 1)).bind fun v258 =>
        (ck 11 h x1 (f_X11_best x1 v258 h)).bind fun p259 =>
        (sX L xs (x3 + 1)).bind fun v260 =>
        (ck 12 p259.2 x2 (f_X12_best x2 v260 p259.2)).bind fun p261 =>
        if p259.1 = p261.1 then
          c_L_law_18 L xs n x0 x1 x2 (x3 + 7) p261.2
        else
          some (0, p261.2)
      else if (v2 &&& 63) = 41 then
        (sX L xs (x3 + 1)).bind fun v262 =>
        (ck 11 h x1 (f_X11_heap x1 v262 h)).bind fun p263 =>
        (sX L xs (x3 + 1)).bind fun v264 =>
        (ck 12 p263.2 x2 (f_X12_heap x2 v264 p263.2)).bind fun p265 =>
        if p263.1 = p265.1 then
          c_L_law_18 L xs n x0 x1 x2 (x3 + 7) p265.2
        else
          some (0, p265.2)
      else if (v2 &&& 63) = 42 then
        (ck 11 h x1 (f_X11_clear x1 h)).bind fun p266 =>
        (ck 12 p266.2 x2 (f_X12_clear x2 p266.2)).bind fun p267 =>
        if p266.1 = p267.1 then
          c_L_law_18 L xs n x0 x1 x2 (x3 + 7) p267.2
        else
          some (0, p267.2)
      else if (v2 &&& 63) = 43 then
        (sX L xs (x3 + 1)).bind fun v268 =>
        (sX L xs (x3 + 2)).bind fun v269 =>
        (ck 11 h x1 (f_X11_alike x1 v268 v269 h)).bind fun v270 =>
        (sX L xs (x3 + 1)).bind fun v271 =>
        (sX L xs (x3 + 2)).bind fun v272 =>
        (ck 12 h x2 (f_X12_alike x2 v271 v272 h)).bind fun v273 =>
        if v270 = v273 then
          c_L_law_18 L xs n x0 x1 x2 (x3 + 7) h
        else
          some (0, h)
      else if (v2 &&& 63) = 44 then
        (sX L xs (x3 + 1)).bind fun v274 =>
        (ck 11 h x1 (f_X11_hands x1 v274 h)).bind fun p275 =>
        (sX L xs (x3 + 1)).bind fun v276 =>
        (ck 12 p275.2 x2 (f_X12_hands x2 v276 p275.2)).bind fun p277 =>
        if p275.1 = p277.1 then
          c_L_law_18 L xs n x0 x1 x2 (x3 + 7) p277.2
        else
          some (0, p277.2)
      else if (v2 &&& 63) = 45 then
        (sX L xs (x3 + 1)).bind fun v278 =>
        (sX L xs (x3 + 2)).bind fun v279 =>
        (sX L xs (x3 + 3)).bind fun v280 =>
        (ck 11 h x1 (f_X11_sheet x1 v278 v279 v280 h)).bind fun p281 =>
        (sX L xs (x3 + 1)).bind fun v282 =>
        (sX L xs (x3 + 2)).bind fun v283 =>
        (sX L xs (x3 + 3)).bind fun v284 =>
        (ck 12 p281.2 x2 (f_X12_sheet x2 v282 v283 v284 p281.2)).bind fun p285 =>
        if p281.1 = p285.1 then
          c_L_law_18 L xs n x0 x1 x2 (x3 + 7) p285.2
        else
          some (0, p285.2)
      else if (v2 &&& 63) = 46 then
        (sX L xs (x3 + 1)).bind fun v286 =>
        (sX L xs (x3 + 2)).bind fun v287 =>
        (sX L xs (x3 + 3)).bind fun v288 =>
        (ck 11 h x1 (f_X11_put x1 v286 v287 v288 h)).bind fun p289 =>
        (sX L xs (x3 + 1)).bind fun v290 =>
        (sX L xs (x3 + 2)).bind fun v291 =>
        (sX L xs (x3 + 3)).bind fun v292 =>
        (ck 12 p289.2 x2 (f_X12_put x2 v290 v291 v292 p289.2)).bind fun p293 =>
        if p289.1 = p293.1 then
          c_L_law_18 L xs n x0 x1 x2 (x3 + 7) p293.2
        else
          some (0, p293.2)
      else if (v2 &&& 63) = 47 then
        (sX L xs (x3 + 1)).bind fun v294 =>
        (sX L xs (x3 + 2)).bind fun v295 =>
        (sX L xs (x3 + 3)).bind fun v296 =>
        (ck 11 h x1 (f_X11_item x1 v294 v295 v296 h)).bind fun v297 =>
        (sX L xs (x3 + 1)).bind fun v298 =>
        (sX L xs (x3 + 2)).bind fun v299 =>
        (sX L xs (x3 + 3)).bind fun v300 =>
        (ck 12 h x2 (f_X12_item x2 v298 v299 v300 h)).bind fun v301 =>
        if v297 = v301 then
          c_L_law_18 L xs n x0 x1 x2 (x3 + 7) h
        else
          some (0, h)
      else if (v2 &&& 63) = 48 then
        (sX L xs (x3 + 1)).bind fun v302 =>
        (sX L xs (x3 + 2)).bind fun v303 =>
        (ck 11 h x1 (f_X11_comesFrom x1 v302 v303 h)).bind fun p304 =>
        (sX L xs (x3 + 1)).bind fun v305 =>
        (sX L xs (x3 + 2)).bind fun v306 =>
        (ck 12 p304.2 x2 (f_X12_comesFrom x2 v305 v306 p304.2)).bind fun p307 =>
        if p304.1 = p307.1 then
          c_L_law_18 L xs n x0 x1 x2 (x3 + 7) p307.2
        else
          some (0, p307.2)
      else if (v2 &&& 63) = 49 then
        (sX L xs (x3 + 1)).bind fun v308 =>
        (sX L xs (x3 + 2)).bind fun v309 =>
        (sX L xs (x3 + 3)).bind fun v310 =>
        (ck 11 h x1 (f_X11_shelf x1 v308 v309 v310 h)).bind fun p311 =>
        (sX L xs (x3 + 1)).bind fun v312 =>
        (sX L xs (x3 + 2)).bind fun v313 =>
        (sX L xs (x3 + 3)).bind fun v314 =>
        (ck 12 p311.2 x2 (f_X12_shelf x2 v312 v313 v314 p311.2)).bind fun p315 =>
        if p311.1 = p315.1 then
          c_L_law_18 L xs n x0 x1 x2 (x3 + 7) p315.2
        else
          some (0, p315.2)
      else if (v2 &&& 63) = 50 then
        (sX L xs (x3 + 1)).bind fun v316 =>
        (sX L xs (x3 + 2)).bind fun v317 =>
        (ck 11 h x1 (f_X11_taken x1 v316 v317 h)).bind fun v318 =>
        (sX L xs (x3 + 1)).bind fun v319 =>
        (sX L xs (x3 + 2)).bind fun v320 =>
        (ck 12 h x2 (f_X12_taken x2 v319 v320 h)).bind fun p321 =>
        if v318 = p321.1 then
          c_L_law_18 L xs n x0 x1 x2 (x3 + 7) p321.2
        else
          some (0, p321.2)
      else if (v2 &&& 63) = 51 then
        (sX L xs (x3 + 1)).bind fun v322 =>
        (sX L xs (x3 + 2)).bind fun v323 =>
        (sX L xs (x3 + 3)).bind fun v324 =>
        (ck 11 h x1 (f_X11_act x1 v322 v323 v324 h)).bind fun p325 =>
        (sX L xs (x3 + 1)).bind fun v326 =>
        (sX L xs (x3 + 2)).bind fun v327 =>
        (sX L xs (x3 + 3)).bind fun v328 =>
        (ck 12 p325.2 x2 (f_X12_act x2 v326 v327 v328 p325.2)).bind fun p329 =>
        if p325.1 = p329.1 then
          c_L_law_18 L xs n x0 x1 x2 (x3 + 7) p329.2
        else
          some (0, p329.2)
      else if (v2 &&& 63) = 52 then
        (sX L xs (x3 + 1)).bind fun v330 =>
        (ck 11 h x1 (f_X11_trace x1 v330 h)).bind fun v331 =>
        (sX L xs (x3 + 1)).bind fun v332 =>
        (ck 12 h x2 (f_X12_trace x2 v332 h)).bind fun v333 =>
        if v331 = v333 then
          c_L_law_18 L xs n x0 x1 x2 (x3 + 7) h
        else
          some (0, h)
      else if (v2 &&& 63) = 53 then
        (sX L xs (x3 + 1)).bind fun v334 =>
        (ck 11 h x1 (f_X11_many x1 v334 h)).bind fun v335 =>
        (sX L xs (x3 + 1)).bind fun v336 =>
        (ck 12 h x2 (f_X12_many x2 v336 h)).bind fun v337 =>
        if v335 = v337 then
          c_L_law_18 L xs n x0 x1 x2 (x3 + 7) h
        else
          some (0, h)
      else if (v2 &&& 63) = 54 then
        (ck 11 h x1 (f_X11_keep x1 h)).bind fun p338 =>
        (ck 12 p338.2 x2 (f_X12_keep x2 p338.2)).bind fun p339 =>
        if p338.1 = p339.1 then
          c_L_law_18 L xs n x0 x1 x2 (x3 + 7) p339.2
        else
          some (0, p339.2)
      else if (v2 &&& 63) = 55 then
        (ck 11 h x1 (f_X11_again x1 h)).bind fun p340 =>
        (ck 12 p340.2 x2 (f_X12_again x2 p340.2)).bind fun p341 =>
        if p340.1 = p341.1 then
          c_L_law_18 L xs n x0 x1 x2 (x3 + 7) p341.2
        else
          some (0, p341.2)
      else none
set_option maxRecDepth 20000 in
theorem y_L_law_18 {K : KT} {nm : String} {L : Nat} {xs : Nat → Int32} {w : (Int32 × AH)}   (X : CX K cL_law RL TB (some .boolean) nm room_1 4 600000 7302250)  : ∀ (n : Nat) (hn : n ≤ 600) (x0 : Option Nat) (x1 : Option Nat) (x2 : Option Nat) (x3 : Int32) (h : AH), SB K x0 L xs → c_L_law_18 L xs n x0 x1 x2 x3 h = some w → GG K (some (tI w.1), w.2) (98011 - n * 163) (2189966 - n * 3633) 18 [(0, tR x0), (1, tR x1), (2, tR x2), (3, tI x3)] [] h := by
  intro n
  induction n with
  | zero =>
    intro hn x0 x1 x2 x3 h hB hf
    cases (show none = some w from hf)
  | succ n ih =>
    intro hn x0 x1 x2 x3 h hB hf
    rw [c_L_law_18] at hf
    refine g_iload_n X dL_law_18 3 rfl ?_
    refine g_aload_n X dL_law_19 0 rfl ?_
    refine g_slen X hB hf dL_law_20 (fun v1 hf => ?_)
    refine g_bipush (v := 7) X dL_law_21 (by decide) ?_
    refine g_isub X dL_law_23 ?_
    refine g_icmpgt (tgt := 2144) X hf dL_law_24 (by decide) (fun hf => ?_) (fun hf => ?_)
    · refine g_iconst (v := 1) X dL_law_2144 (by decide) ?_
      exact g_zreturn X (zW hf) (by decide) (by omega) (by omega) dL_law_2145
    · refine g_aload_n X dL_law_27 0 rfl ?_
      refine g_iload_n X dL_law_28 3 rfl ?_
      refine g_sload X hB hf dL_law_29 (fun v2 hf => ?_)
      refine g_bipush (v := 63) X dL_law_30 (by decide) ?_
      refine g_iand X dL_law_32 ?_
      by_cases hsw : (v2 &&& 63) < 0 ∨ 55 < (v2 &&& 63)
      · rw [if_pos hsw] at hf
        refine g_tabOut (tgt := 2138) X dL_law_33 (tab_out hsw) (by decide) ?_
        refine g_iinc (v := (x3 + 7)) (lv' := [(0, tR x0), (1, tR x1), (2, tR x2), (3, tI (x3 + 7))]) X dL_law_2138 3 rfl (by rfl) (by decide) (in_pick [1, 2, 3, 0] rfl) ?_
        refine g_goto (tgt := 18) X dL_law_2141 (by decide) ?_
        refine g_widen (k := (98011 - n * 163)) (n := (2189966 - n * 3633)) (by omega) (by omega) ?_
        exact ih (by omega) x0 x1 x2 (x3 + 7) h hB hf
      rw [if_neg hsw] at hf
      by_cases hs0 : (v2 &&& 63) = 0
      · rw [if_pos hs0] at hf
        refine g_tabIn (off := 239) (tgt := 272) X 0 hs0 dL_law_33 (by decide) (by decide) (by decide +kernel) (by decide) ?_
        refine g_aload_n X dL_law_272 1 rfl ?_
        refine g_aload_n X dL_law_273 0 rfl ?_
        refine g_iload_n X dL_law_274 3 rfl ?_
        refine g_iconst (v := 1) X dL_law_275 (by decide) ?_
        refine g_iadd X dL_law_276 ?_
        refine g_sload X hB hf dL_law_277 (fun v3 hf => ?_)
        refine g_callV (n := 1) (av := [tI v3]) (rest := []) (k := 11) X hf (fun p4 => (some (tI p4.1), p4.2)) (fun _ q => m_X11_days q) (gdV tb_384 tb_385 tb_386 tb_1 tb_387) rfl (by decide +kernel) rfl (by decide) rfl (by decide) (by constructor <;> simp only [room_1] <;> omega) rfl (Nat.le_of_ble_eq_true rfl) dL_law_278 (fun p4 hf => ?_)
        refine g_aload_n X dL_law_281 2 rfl ?_
        refine g_aload_n X dL_law_282 0 rfl ?_
        refine g_iload_n X dL_law_283 3 rfl ?_
        refine g_iconst (v := 1) X dL_law_284 (by decide) ?_
        refine g_iadd X dL_law_285 ?_
        refine g_sload X hB hf dL_law_286 (fun v5 hf => ?_)
        refine g_callV (n := 1) (av := [tI v5]) (rest := [tI p4.1]) (k := 12) X hf (fun p6 => (some (tI p6.1), p6.2)) (fun _ q => m_X12_days q) (gdV tb_1222 tb_1223 tb_1224 tb_12 tb_1225) rfl (by decide +kernel) rfl (by decide) rfl (by decide) (by constructor <;> simp only [room_1] <;> omega) rfl (Nat.le_of_ble_eq_true rfl) dL_law_287 (fun p6 hf => ?_)
        refine g_icmpeq (tgt := 2138) X hf dL_law_290 (by decide) (fun hf => ?_) (fun hf => ?_)
        · refine g_iinc (v := (x3 + 7)) (lv' := [(0, tR x0), (1, tR x1), (2, tR x2), (3, tI (x3 + 7))]) X dL_law_2138 3 rfl (by rfl) (by decide) (in_pick [1, 2, 3, 0] rfl) ?_
          refine g_goto (tgt := 18) X dL_law_2141 (by decide) ?_
          refine g_widen (k := (98011 - n * 163)) (n := (2189966 - n * 3633)) (by omega) (by omega) ?_
          exact ih (by omega) x0 x1 x2 (x3 + 7) p6.2 hB hf
        · refine g_iconst (v := 0) X dL_law_293 (by decide) ?_
          exact g_zreturn X (zW hf) (by decide) (by omega) (by omega) dL_law_294
      rw [if_neg hs0] at hf
      by_cases hs1 : (v2 &&& 63) = 1
      · rw [if_pos hs1] at hf
        refine g_tabIn (off := 262) (tgt := 295) X 1 hs1 dL_law_33 (by decide) (by decide) (by decide +kernel) (by decide) ?_
        refine g_aload_n X dL_law_295 1 rfl ?_
        refine g_aload_n X dL_law_296 0 rfl ?_
        refine g_iload_n X dL_law_297 3 rfl ?_
        refine g_iconst (v := 1) X dL_law_298 (by decide) ?_
        refine g_iadd X dL_law_299 ?_
        refine g_sload X hB hf dL_law_300 (fun v7 hf => ?_)
        refine g_callV (n := 1) (av := [tI v7]) (rest := []) (k := 11) X hf (fun p8 => (some (tI p8.1), p8.2)) (fun _ q => m_X11_wet q) (gdV tb_402 tb_403 tb_404 tb_1 tb_405) rfl (by decide +kernel) rfl (by decide) rfl (by decide) (by constructor <;> simp only [room_1] <;> omega) rfl (Nat.le_of_ble_eq_true rfl) dL_law_301 (fun p8 hf => ?_)
        refine g_aload_n X dL_law_304 2 rfl ?_
        refine g_aload_n X dL_law_305 0 rfl ?_
        refine g_iload_n X dL_law_306 3 rfl ?_
        refine g_iconst (v := 1) X dL_law_307 (by decide) ?_
        refine g_iadd X dL_law_308 ?_
        refine g_sload X hB hf dL_law_309 (fun v9 hf => ?_)
        refine g_callV (n := 1) (av := [tI v9]) (rest := [tI p8.1]) (k := 12) X hf (fun p10 => (some (tI p10.1), p10.2)) (fun _ q => m_X12_wet q) (gdV tb_1235 tb_1236 tb_1237 tb_12 tb_1238) rfl (by decide +kernel) rfl (by decide) rfl (by decide) (by constructor <;> simp only [room_1] <;> omega) rfl (Nat.le_of_ble_eq_true rfl) dL_law_310 (fun p10 hf => ?_)
        refine g_icmpeq (tgt := 2138) X hf dL_law_313 (by decide) (fun hf => ?_) (fun hf => ?_)
        · refine g_iinc (v := (x3 + 7)) (lv' := [(0, tR x0), (1, tR x1), (2, tR x2), (3, tI (x3 + 7))]) X dL_law_2138 3 rfl (by rfl) (by decide) (in_pick [1, 2, 3, 0] rfl) ?_
          refine g_goto (tgt := 18) X dL_law_2141 (by decide) ?_
          refine g_widen (k := (98011 - n * 163)) (n := (2189966 - n * 3633)) (by omega) (by omega) ?_
          exact ih (by omega) x0 x1 x2 (x3 + 7) p10.2 hB hf
        · refine g_iconst (v := 0) X dL_law_316 (by decide) ?_
          exact g_zreturn X (zW hf) (by decide) (by omega) (by omega) dL_law_317
      rw [if_neg hs1] at hf
      by_cases hs2 : (v2 &&& 63) = 2
      · rw [if_pos hs2] at hf
        refine g_tabIn (off := 285) (tgt := 318) X 2 hs2 dL_law_33 (by decide) (by decide) (by decide +kernel) (by decide) ?_
        refine g_aload_n X dL_law_318 1 rfl ?_
        refine g_aload_n X dL_law_319 0 rfl ?_
        refine g_iload_n X dL_law_320 3 rfl ?_
        refine g_iconst (v := 1) X dL_law_321 (by decide) ?_
        refine g_iadd X dL_law_322 ?_
        refine g_sload X hB hf dL_law_323 (fun v11 hf => ?_)
        refine g_aload_n X dL_law_324 0 rfl ?_
        refine g_iload_n X dL_law_325 3 rfl ?_
        refine g_iconst (v := 2) X dL_law_326 (by decide) ?_
        refine g_iadd X dL_law_327 ?_
        refine g_sload X hB hf dL_law_328 (fun v12 hf => ?_)
        refine g_callV (n := 2) (av := [tI v11, tI v12]) (rest := []) (k := 11) X hf (fun p13 => (some (tI p13.1), p13.2)) (fun _ q => m_X11_ward q) (gdV tb_413 tb_414 tb_415 tb_1 tb_416) rfl (by decide +kernel) rfl (by decide) rfl (by decide) (by constructor <;> simp only [room_1] <;> omega) rfl (Nat.le_of_ble_eq_true rfl) dL_law_329 (fun p13 hf => ?_)
        refine g_aload_n X dL_law_332 2 rfl ?_
        refine g_aload_n X dL_law_333 0 rfl ?_
        refine g_iload_n X dL_law_334 3 rfl ?_
        refine g_iconst (v := 1) X dL_law_335 (by decide) ?_
        refine g_iadd X dL_law_336 ?_
        refine g_sload X hB hf dL_law_337 (fun v14 hf => ?_)
        refine g_aload_n X dL_law_338 0 rfl ?_
        refine g_iload_n X dL_law_339 3 rfl ?_
        refine g_iconst (v := 2) X dL_law_340 (by decide) ?_
        refine g_iadd X dL_law_341 ?_
        refine g_sload X hB hf dL_law_342 (fun v15 hf => ?_)
        refine g_callV (n := 2) (av := [tI v14, tI v15]) (rest := [tI p13.1]) (k := 12) X hf (fun p16 => (some (tI p16.1), p16.2)) (fun _ q => m_X12_ward q) (gdV tb_1245 tb_1246 tb_1247 tb_12 tb_1248) rfl (by decide +kernel) rfl (by decide) rfl (by decide) (by constructor <;> simp only [room_1] <;> omega) rfl (Nat.le_of_ble_eq_true rfl) dL_law_343 (fun p16 hf => ?_)
        refine g_icmpeq (tgt := 2138) X hf dL_law_346 (by decide) (fun hf => ?_) (fun hf => ?_)
        · refine g_iinc (v := (x3 + 7)) (lv' := [(0, tR x0), (1, tR x1), (2, tR x2), (3, tI (x3 + 7))]) X dL_law_2138 3 rfl (by rfl) (by decide) (in_pick [1, 2, 3, 0] rfl) ?_
          refine g_goto (tgt := 18) X dL_law_2141 (by decide) ?_
          refine g_widen (k := (98011 - n * 163)) (n := (2189966 - n * 3633)) (by omega) (by omega) ?_
          exact ih (by omega) x0 x1 x2 (x3 + 7) p16.2 hB hf
        · refine g_iconst (v := 0) X dL_law_349 (by decide) ?_
          exact g_zreturn X (zW hf) (by decide) (by omega) (by omega) dL_law_350
      rw [if_neg hs2] at hf
      by_cases hs3 : (v2 &&& 63) = 3
      · rw [if_pos hs3] at hf
        refine g_tabIn (off := 318) (tgt := 351) X 3 hs3 dL_law_33 (by decide) (by decide) (by decide +kernel) (by decide) ?_
        refine g_aload_n X dL_law_351 1 rfl ?_
        refine g_aload_n X dL_law_352 0 rfl ?_
        refine g_iload_n X dL_law_353 3 rfl ?_
        refine g_iconst (v := 1) X dL_law_354 (by decide) ?_
        refine g_iadd X dL_law_355 ?_
        refine g_sload X hB hf dL_law_356 (fun v17 hf => ?_)
        refine g_aload_n X dL_law_357 0 rfl ?_
        refine g_iload_n X dL_law_358 3 rfl ?_
        refine g_iconst (v := 2) X dL_law_359 (by decide) ?_
        refine g_iadd X dL_law_360 ?_
        refine g_sload X hB hf dL_law_361 (fun v18 hf => ?_)
        refine g_aload_n X dL_law_362 0 rfl ?_
        refine g_iload_n X dL_law_363 3 rfl ?_
        refine g_iconst (v := 3) X dL_law_364 (by decide) ?_
        refine g_iadd X dL_law_365 ?_
        refine g_sload X hB hf dL_law_366 (fun v19 hf => ?_)
        refine g_callV (n := 3) (av := [tI v17, tI v18, tI v19]) (rest := []) (k := 11) X hf (fun p20 => (some (tI p20.1), p20.2)) (fun _ q => m_X11_harvest q) (gdV tb_421 tb_422 tb_423 tb_1 tb_424) rfl (by decide +kernel) rfl (by decide) rfl (by decide) (by constructor <;> simp only [room_1] <;> omega) rfl (Nat.le_of_ble_eq_true rfl) dL_law_367 (fun p20 hf => ?_)
        refine g_aload_n X dL_law_370 2 rfl ?_
        refine g_aload_n X dL_law_371 0 rfl ?_
        refine g_iload_n X dL_law_372 3 rfl ?_
        refine g_iconst (v := 1) X dL_law_373 (by decide) ?_
        refine g_iadd X dL_law_374 ?_
        refine g_sload X hB hf dL_law_375 (fun v21 hf => ?_)
        refine g_aload_n X dL_law_376 0 rfl ?_
        refine g_iload_n X dL_law_377 3 rfl ?_
        refine g_iconst (v := 2) X dL_law_378 (by decide) ?_
        refine g_iadd X dL_law_379 ?_
        refine g_sload X hB hf dL_law_380 (fun v22 hf => ?_)
        refine g_aload_n X dL_law_381 0 rfl ?_
        refine g_iload_n X dL_law_382 3 rfl ?_
        refine g_iconst (v := 3) X dL_law_383 (by decide) ?_
        refine g_iadd X dL_law_384 ?_
        refine g_sload X hB hf dL_law_385 (fun v23 hf => ?_)
        refine g_callV (n := 3) (av := [tI v21, tI v22, tI v23]) (rest := [tI p20.1]) (k := 12) X hf (fun p24 => (some (tI p24.1), p24.2)) (fun _ q => m_X12_harvest q) (gdV tb_1249 tb_1250 tb_1251 tb_12 tb_1252) rfl (by decide +kernel) rfl (by decide) rfl (by decide) (by constructor <;> simp only [room_1] <;> omega) rfl (Nat.le_of_ble_eq_true rfl) dL_law_386 (fun p24 hf => ?_)
        refine g_icmpeq (tgt := 2138) X hf dL_law_389 (by decide) (fun hf => ?_) (fun hf => ?_)
        · refine g_iinc (v := (x3 + 7)) (lv' := [(0, tR x0), (1, tR x1), (2, tR x2), (3, tI (x3 + 7))]) X dL_law_2138 3 rfl (by rfl) (by decide) (in_pick [1, 2, 3, 0] rfl) ?_
          refine g_goto (tgt := 18) X dL_law_2141 (by decide) ?_
          refine g_widen (k := (98011 - n * 163)) (n := (2189966 - n * 3633)) (by omega) (by omega) ?_
          exact ih (by omega) x0 x1 x2 (x3 + 7) p24.2 hB hf
        · refine g_iconst (v := 0) X dL_law_392 (by decide) ?_
          exact g_zreturn X (zW hf) (by decide) (by omega) (by omega) dL_law_393
      rw [if_neg hs3] at hf
      by_cases hs4 : (v2 &&& 63) = 4
      · rw [if_pos hs4] at hf
        refine g_tabIn (off := 361) (tgt := 394) X 4 hs4 dL_law_33 (by decide) (by decide) (by decide +kernel) (by decide) ?_
        refine g_aload_n X dL_law_394 1 rfl ?_
        refine g_aload_n X dL_law_395 0 rfl ?_
        refine g_iload_n X dL_law_396 3 rfl ?_
        refine g_iconst (v := 1) X dL_law_397 (by decide) ?_
        refine g_iadd X dL_law_398 ?_
        refine g_sload X hB hf dL_law_399 (fun v25 hf => ?_)
        refine g_aload_n X dL_law_400 0 rfl ?_
        refine g_iload_n X dL_law_401 3 rfl ?_
        refine g_iconst (v := 2) X dL_law_402 (by decide) ?_
        refine g_iadd X dL_law_403 ?_
        refine g_sload X hB hf dL_law_404 (fun v26 hf => ?_)
        refine g_aload_n X dL_law_405 0 rfl ?_
        refine g_iload_n X dL_law_406 3 rfl ?_
        refine g_iconst (v := 3) X dL_law_407 (by decide) ?_
        refine g_iadd X dL_law_408 ?_
        refine g_sload X hB hf dL_law_409 (fun v27 hf => ?_)
        refine g_aload_n X dL_law_410 0 rfl ?_
        refine g_iload_n X dL_law_411 3 rfl ?_
        refine g_iconst (v := 4) X dL_law_412 (by decide) ?_
        refine g_iadd X dL_law_413 ?_
        refine g_sload X hB hf dL_law_414 (fun v28 hf => ?_)
        refine g_callV (n := 4) (av := [tI v25, tI v26, tI v27, tI v28]) (rest := []) (k := 11) X hf (fun p29 => (some (tI p29.1), p29.2)) (fun _ q => m_X11_man q) (gdV tb_429 tb_430 tb_431 tb_1 tb_432) rfl (by decide +kernel) rfl (by decide) rfl (by decide) (by constructor <;> simp only [room_1] <;> omega) rfl (Nat.le_of_ble_eq_true rfl) dL_law_415 (fun p29 hf => ?_)
        refine g_aload_n X dL_law_418 2 rfl ?_
        refine g_aload_n X dL_law_419 0 rfl ?_
        refine g_iload_n X dL_law_420 3 rfl ?_
        refine g_iconst (v := 1) X dL_law_421 (by decide) ?_
        refine g_iadd X dL_law_422 ?_
        refine g_sload X hB hf dL_law_423 (fun v30 hf => ?_)
        refine g_aload_n X dL_law_424 0 rfl ?_
        refine g_iload_n X dL_law_425 3 rfl ?_
        refine g_iconst (v := 2) X dL_law_426 (by decide) ?_
        refine g_iadd X dL_law_427 ?_
        refine g_sload X hB hf dL_law_428 (fun v31 hf => ?_)
        refine g_aload_n X dL_law_429 0 rfl ?_
        refine g_iload_n X dL_law_430 3 rfl ?_
        refine g_iconst (v := 3) X dL_law_431 (by decide) ?_
        refine g_iadd X dL_law_432 ?_
        refine g_sload X hB hf dL_law_433 (fun v32 hf => ?_)
        refine g_aload_n X dL_law_434 0 rfl ?_
        refine g_iload_n X dL_law_435 3 rfl ?_
        refine g_iconst (v := 4) X dL_law_436 (by decide) ?_
        refine g_iadd X dL_law_437 ?_
        refine g_sload X hB hf dL_law_438 (fun v33 hf => ?_)
        refine g_callV (n := 4) (av := [tI v30, tI v31, tI v32, tI v33]) (rest := [tI p29.1]) (k := 12) X hf (fun p34 => (some (tI p34.1), p34.2)) (fun _ q => m_X12_man q) (gdV tb_1256 tb_1257 tb_1258 tb_12 tb_1259) rfl (by decide +kernel) rfl (by decide) rfl (by decide) (by constructor <;> simp only [room_1] <;> omega) rfl (Nat.le_of_ble_eq_true rfl) dL_law_439 (fun p34 hf => ?_)
        refine g_icmpeq (tgt := 2138) X hf dL_law_442 (by decide) (fun hf => ?_) (fun hf => ?_)
        · refine g_iinc (v := (x3 + 7)) (lv' := [(0, tR x0), (1, tR x1), (2, tR x2), (3, tI (x3 + 7))]) X dL_law_2138 3 rfl (by rfl) (by decide) (in_pick [1, 2, 3, 0] rfl) ?_
          refine g_goto (tgt := 18) X dL_law_2141 (by decide) ?_
          refine g_widen (k := (98011 - n * 163)) (n := (2189966 - n * 3633)) (by omega) (by omega) ?_
          exact ih (by omega) x0 x1 x2 (x3 + 7) p34.2 hB hf
        · refine g_iconst (v := 0) X dL_law_445 (by decide) ?_
          exact g_zreturn X (zW hf) (by decide) (by omega) (by omega) dL_law_446
      rw [if_neg hs4] at hf
      by_cases hs5 : (v2 &&& 63) = 5
      · rw [if_pos hs5] at hf
        refine g_tabIn (off := 414) (tgt := 447) X 5 hs5 dL_law_33 (by decide) (by decide) (by decide +kernel) (by decide) ?_
        refine g_aload_n X dL_law_447 1 rfl ?_
        refine g_aload_n X dL_law_448 0 rfl ?_
        refine g_iload_n X dL_law_449 3 rfl ?_
        refine g_iconst (v := 1) X dL_law_450 (by decide) ?_
        refine g_iadd X dL_law_451 ?_
        refine g_sload X hB hf dL_law_452 (fun v35 hf => ?_)
        refine g_aload_n X dL_law_453 0 rfl ?_
        refine g_iload_n X dL_law_454 3 rfl ?_
        refine g_iconst (v := 2) X dL_law_455 (by decide) ?_
        refine g_iadd X dL_law_456 ?_
        refine g_sload X hB hf dL_law_457 (fun v36 hf => ?_)
        refine g_aload_n X dL_law_458 0 rfl ?_
        refine g_iload_n X dL_law_459 3 rfl ?_
        refine g_iconst (v := 3) X dL_law_460 (by decide) ?_
        refine g_iadd X dL_law_461 ?_
        refine g_sload X hB hf dL_law_462 (fun v37 hf => ?_)
        refine g_callV (n := 3) (av := [tI v35, tI v36, tI v37]) (rest := []) (k := 11) X hf (fun p38 => (some (tI p38.1), p38.2)) (fun _ q => m_X11_style q) (gdV tb_453 tb_454 tb_455 tb_1 tb_456) rfl (by decide +kernel) rfl (by decide) rfl (by decide) (by constructor <;> simp only [room_1] <;> omega) rfl (Nat.le_of_ble_eq_true rfl) dL_law_463 (fun p38 hf => ?_)
        refine g_aload_n X dL_law_466 2 rfl ?_
        refine g_aload_n X dL_law_467 0 rfl ?_
        refine g_iload_n X dL_law_468 3 rfl ?_
        refine g_iconst (v := 1) X dL_law_469 (by decide) ?_
        refine g_iadd X dL_law_470 ?_
        refine g_sload X hB hf dL_law_471 (fun v39 hf => ?_)
        refine g_aload_n X dL_law_472 0 rfl ?_
        refine g_iload_n X dL_law_473 3 rfl ?_
        refine g_iconst (v := 2) X dL_law_474 (by decide) ?_
        refine g_iadd X dL_law_475 ?_
        refine g_sload X hB hf dL_law_476 (fun v40 hf => ?_)
        refine g_aload_n X dL_law_477 0 rfl ?_
        refine g_iload_n X dL_law_478 3 rfl ?_
        refine g_iconst (v := 3) X dL_law_479 (by decide) ?_
        refine g_iadd X dL_law_480 ?_
        refine g_sload X hB hf dL_law_481 (fun v41 hf => ?_)
        refine g_callV (n := 3) (av := [tI v39, tI v40, tI v41]) (rest := [tI p38.1]) (k := 12) X hf (fun p42 => (some (tI p42.1), p42.2)) (fun _ q => m_X12_style q) (gdV tb_1263 tb_1264 tb_1265 tb_12 tb_1266) rfl (by decide +kernel) rfl (by decide) rfl (by decide) (by constructor <;> simp only [room_1] <;> omega) rfl (Nat.le_of_ble_eq_true rfl) dL_law_482 (fun p42 hf => ?_)
        refine g_icmpeq (tgt := 2138) X hf dL_law_485 (by decide) (fun hf => ?_) (fun hf => ?_)
        · refine g_iinc (v := (x3 + 7)) (lv' := [(0, tR x0), (1, tR x1), (2, tR x2), (3, tI (x3 + 7))]) X dL_law_2138 3 rfl (by rfl) (by decide) (in_pick [1, 2, 3, 0] rfl) ?_
          refine g_goto (tgt := 18) X dL_law_2141 (by decide) ?_
          refine g_widen (k := (98011 - n * 163)) (n := (2189966 - n * 3633)) (by omega) (by omega) ?_
          exact ih (by omega) x0 x1 x2 (x3 + 7) p42.2 hB hf
        · refine g_iconst (v := 0) X dL_law_488 (by decide) ?_
          exact g_zreturn X (zW hf) (by decide) (by omega) (by omega) dL_law_489
      rw [if_neg hs5] at hf
      by_cases hs6 : (v2 &&& 63) = 6
      · rw [if_pos hs6] at hf
        refine g_tabIn (off := 457) (tgt := 490) X 6 hs6 dL_law_33 (by decide) (by decide) (by decide +kernel) (by decide) ?_
        refine g_aload_n X dL_law_490 1 rfl ?_
        refine g_aload_n X dL_law_491 0 rfl ?_
        refine g_iload_n X dL_law_492 3 rfl ?_
        refine g_iconst (v := 1) X dL_law_493 (by decide) ?_
        refine g_iadd X dL_law_494 ?_
        refine g_sload X hB hf dL_law_495 (fun v43 hf => ?_)
        refine g_aload_n X dL_law_496 0 rfl ?_
        refine g_iload_n X dL_law_497 3 rfl ?_
        refine g_iconst (v := 2) X dL_law_498 (by decide) ?_
        refine g_iadd X dL_law_499 ?_
        refine g_sload X hB hf dL_law_500 (fun v44 hf => ?_)
        refine g_aload_n X dL_law_501 0 rfl ?_
        refine g_iload_n X dL_law_502 3 rfl ?_
        refine g_iconst (v := 3) X dL_law_503 (by decide) ?_
        refine g_iadd X dL_law_504 ?_
        refine g_sload X hB hf dL_law_505 (fun v45 hf => ?_)
        refine g_callV (n := 3) (av := [tI v43, tI v44, tI v45]) (rest := []) (k := 11) X hf (fun p46 => (some (tI p46.1), p46.2)) (fun _ q => m_X11_fear q) (gdV tb_461 tb_462 tb_463 tb_1 tb_464) rfl (by decide +kernel) rfl (by decide) rfl (by decide) (by constructor <;> simp only [room_1] <;> omega) rfl (Nat.le_of_ble_eq_true rfl) dL_law_506 (fun p46 hf => ?_)
        refine g_aload_n X dL_law_509 2 rfl ?_
        refine g_aload_n X dL_law_510 0 rfl ?_
        refine g_iload_n X dL_law_511 3 rfl ?_
        refine g_iconst (v := 1) X dL_law_512 (by decide) ?_
        refine g_iadd X dL_law_513 ?_
        refine g_sload X hB hf dL_law_514 (fun v47 hf => ?_)
        refine g_aload_n X dL_law_515 0 rfl ?_
        refine g_iload_n X dL_law_516 3 rfl ?_
        refine g_iconst (v := 2) X dL_law_517 (by decide) ?_
        refine g_iadd X dL_law_518 ?_
        refine g_sload X hB hf dL_law_519 (fun v48 hf => ?_)
        refine g_aload_n X dL_law_520 0 rfl ?_
        refine g_iload_n X dL_law_521 3 rfl ?_
        refine g_iconst (v := 3) X dL_law_522 (by decide) ?_
        refine g_iadd X dL_law_523 ?_
        refine g_sload X hB hf dL_law_524 (fun v49 hf => ?_)
        refine g_callV (n := 3) (av := [tI v47, tI v48, tI v49]) (rest := [tI p46.1]) (k := 12) X hf (fun p50 => (some (tI p50.1), p50.2)) (fun _ q => m_X12_fear q) (gdV tb_1270 tb_1271 tb_1272 tb_12 tb_1273) rfl (by decide +kernel) rfl (by decide) rfl (by decide) (by constructor <;> simp only [room_1] <;> omega) rfl (Nat.le_of_ble_eq_true rfl) dL_law_525 (fun p50 hf => ?_)
        refine g_icmpeq (tgt := 2138) X hf dL_law_528 (by decide) (fun hf => ?_) (fun hf => ?_)
        · refine g_iinc (v := (x3 + 7)) (lv' := [(0, tR x0), (1, tR x1), (2, tR x2), (3, tI (x3 + 7))]) X dL_law_2138 3 rfl (by rfl) (by decide) (in_pick [1, 2, 3, 0] rfl) ?_
          refine g_goto (tgt := 18) X dL_law_2141 (by decide) ?_
          refine g_widen (k := (98011 - n * 163)) (n := (2189966 - n * 3633)) (by omega) (by omega) ?_
          exact ih (by omega) x0 x1 x2 (x3 + 7) p50.2 hB hf
        · refine g_iconst (v := 0) X dL_law_531 (by decide) ?_
          exact g_zreturn X (zW hf) (by decide) (by omega) (by omega) dL_law_532
      rw [if_neg hs6] at hf
      by_cases hs7 : (v2 &&& 63) = 7
      · rw [if_pos hs7] at hf
        refine g_tabIn (off := 500) (tgt := 533) X 7 hs7 dL_law_33 (by decide) (by decide) (by decide +kernel) (by decide) ?_
        refine g_aload_n X dL_law_533 1 rfl ?_
        refine g_aload_n X dL_law_534 0 rfl ?_
        refine g_iload_n X dL_law_535 3 rfl ?_
        refine g_iconst (v := 1) X dL_law_536 (by decide) ?_
        refine g_iadd X dL_law_537 ?_
        refine g_sload X hB hf dL_law_538 (fun v51 hf => ?_)
        refine g_aload_n X dL_law_539 0 rfl ?_
        refine g_iload_n X dL_law_540 3 rfl ?_
        refine g_iconst (v := 2) X dL_law_541 (by decide) ?_
        refine g_iadd X dL_law_542 ?_
        refine g_sload X hB hf dL_law_543 (fun v52 hf => ?_)
        refine g_aload_n X dL_law_544 0 rfl ?_
        refine g_iload_n X dL_law_545 3 rfl ?_
        refine g_iconst (v := 3) X dL_law_546 (by decide) ?_
        refine g_iadd X dL_law_547 ?_
        refine g_sload X hB hf dL_law_548 (fun v53 hf => ?_)
        refine g_callV (n := 3) (av := [tI v51, tI v52, tI v53]) (rest := []) (k := 11) X hf (fun p54 => (some (tI p54.1), p54.2)) (fun _ q => m_X11_word q) (gdV tb_470 tb_471 tb_472 tb_1 tb_473) rfl (by decide +kernel) rfl (by decide) rfl (by decide) (by constructor <;> simp only [room_1] <;> omega) rfl (Nat.le_of_ble_eq_true rfl) dL_law_549 (fun p54 hf => ?_)
        refine g_aload_n X dL_law_552 2 rfl ?_
        refine g_aload_n X dL_law_553 0 rfl ?_
        refine g_iload_n X dL_law_554 3 rfl ?_
        refine g_iconst (v := 1) X dL_law_555 (by decide) ?_
        refine g_iadd X dL_law_556 ?_
        refine g_sload X hB hf dL_law_557 (fun v55 hf => ?_)
        refine g_aload_n X dL_law_558 0 rfl ?_
        refine g_iload_n X dL_law_559 3 rfl ?_
        refine g_iconst (v := 2) X dL_law_560 (by decide) ?_
        refine g_iadd X dL_law_561 ?_
        refine g_sload X hB hf dL_law_562 (fun v56 hf => ?_)
        refine g_aload_n X dL_law_563 0 rfl ?_
        refine g_iload_n X dL_law_564 3 rfl ?_
        refine g_iconst (v := 3) X dL_law_565 (by decide) ?_
        refine g_iadd X dL_law_566 ?_
        refine g_sload X hB hf dL_law_567 (fun v57 hf => ?_)
        refine g_callV (n := 3) (av := [tI v55, tI v56, tI v57]) (rest := [tI p54.1]) (k := 12) X hf (fun p58 => (some (tI p58.1), p58.2)) (fun _ q => m_X12_word q) (gdV tb_1274 tb_1275 tb_1276 tb_12 tb_1277) rfl (by decide +kernel) rfl (by decide) rfl (by decide) (by constructor <;> simp only [room_1] <;> omega) rfl (Nat.le_of_ble_eq_true rfl) dL_law_568 (fun p58 hf => ?_)
        refine g_icmpeq (tgt := 2138) X hf dL_law_571 (by decide) (fun hf => ?_) (fun hf => ?_)
        · refine g_iinc (v := (x3 + 7)) (lv' := [(0, tR x0), (1, tR x1), (2, tR x2), (3, tI (x3 + 7))]) X dL_law_2138 3 rfl (by rfl) (by decide) (in_pick [1, 2, 3, 0] rfl) ?_
          refine g_goto (tgt := 18) X dL_law_2141 (by decide) ?_
          refine g_widen (k := (98011 - n * 163)) (n := (2189966 - n * 3633)) (by omega) (by omega) ?_
          exact ih (by omega) x0 x1 x2 (x3 + 7) p58.2 hB hf
        · refine g_iconst (v := 0) X dL_law_574 (by decide) ?_
          exact g_zreturn X (zW hf) (by decide) (by omega) (by omega) dL_law_575
      rw [if_neg hs7] at hf
      by_cases hs8 : (v2 &&& 63) = 8
      · rw [if_pos hs8] at hf
        refine g_tabIn (off := 543) (tgt := 576) X 8 hs8 dL_law_33 (by decide) (by decide) (by decide +kernel) (by decide) ?_
        refine g_aload_n X dL_law_576 1 rfl ?_
        refine g_aload_n X dL_law_577 0 rfl ?_
        refine g_iload_n X dL_law_578 3 rfl ?_
        refine g_iconst (v := 1) X dL_law_579 (by decide) ?_
        refine g_iadd X dL_law_580 ?_
        refine g_sload X hB hf dL_law_581 (fun v59 hf => ?_)
        refine g_aload_n X dL_law_582 0 rfl ?_
        refine g_iload_n X dL_law_583 3 rfl ?_
        refine g_iconst (v := 2) X dL_law_584 (by decide) ?_
        refine g_iadd X dL_law_585 ?_
        refine g_sload X hB hf dL_law_586 (fun v60 hf => ?_)
        refine g_callV (n := 2) (av := [tI v59, tI v60]) (rest := []) (k := 11) X hf (fun v61 => (some (tI v61), h)) (fun _ q => m_X11_heard q) (gdV tb_478 tb_479 tb_480 tb_1 tb_481) rfl (by decide +kernel) rfl (by decide) rfl (by decide) (by constructor <;> simp only [room_1] <;> omega) rfl (Nat.le_of_ble_eq_true rfl) dL_law_587 (fun v61 hf => ?_)
        refine g_aload_n X dL_law_590 2 rfl ?_
        refine g_aload_n X dL_law_591 0 rfl ?_
        refine g_iload_n X dL_law_592 3 rfl ?_
        refine g_iconst (v := 1) X dL_law_593 (by decide) ?_
        refine g_iadd X dL_law_594 ?_
        refine g_sload X hB hf dL_law_595 (fun v62 hf => ?_)
        refine g_aload_n X dL_law_596 0 rfl ?_
        refine g_iload_n X dL_law_597 3 rfl ?_
        refine g_iconst (v := 2) X dL_law_598 (by decide) ?_
        refine g_iadd X dL_law_599 ?_
        refine g_sload X hB hf dL_law_600 (fun v63 hf => ?_)
        refine g_callV (n := 2) (av := [tI v62, tI v63]) (rest := [tI v61]) (k := 12) X hf (fun v64 => (some (tI v64), h)) (fun _ q => m_X12_heard q) (gdV tb_1278 tb_1279 tb_1280 tb_12 tb_1281) rfl (by decide +kernel) rfl (by decide) rfl (by decide) (by constructor <;> simp only [room_1] <;> omega) rfl (Nat.le_of_ble_eq_true rfl) dL_law_601 (fun v64 hf => ?_)
        refine g_icmpeq (tgt := 2138) X hf dL_law_604 (by decide) (fun hf => ?_) (fun hf => ?_)
        · refine g_iinc (v := (x3 + 7)) (lv' := [(0, tR x0), (1, tR x1), (2, tR x2), (3, tI (x3 + 7))]) X dL_law_2138 3 rfl (by rfl) (by decide) (in_pick [1, 2, 3, 0] rfl) ?_
          refine g_goto (tgt := 18) X dL_law_2141 (by decide) ?_
          refine g_widen (k := (98011 - n * 163)) (n := (2189966 - n * 3633)) (by omega) (by omega) ?_
          exact ih (by omega) x0 x1 x2 (x3 + 7) h hB hf
        · refine g_iconst (v := 0) X dL_law_607 (by decide) ?_
          exact g_zreturn X (zW hf) (by decide) (by omega) (by omega) dL_law_608
      rw [if_neg hs8] at hf
      by_cases hs9 : (v2 &&& 63) = 9
      · rw [if_pos hs9] at hf
        refine g_tabIn (off := 576) (tgt := 609) X 9 hs9 dL_law_33 (by decide) (by decide) (by decide +kernel) (by decide) ?_
        refine g_aload_n X dL_law_609 1 rfl ?_
        refine g_aload_n X dL_law_610 0 rfl ?_
        refine g_iload_n X dL_law_611 3 rfl ?_
        refine g_iconst (v := 1) X dL_law_612 (by decide) ?_
        refine g_iadd X dL_law_613 ?_
        refine g_sload X hB hf dL_law_614 (fun v65 hf => ?_)
        refine g_aload_n X dL_law_615 0 rfl ?_
        refine g_iload_n X dL_law_616 3 rfl ?_
        refine g_iconst (v := 2) X dL_law_617 (by decide) ?_
        refine g_iadd X dL_law_618 ?_
        refine g_sload X hB hf dL_law_619 (fun v66 hf => ?_)
        refine g_aload_n X dL_law_620 0 rfl ?_
        refine g_iload_n X dL_law_621 3 rfl ?_
        refine g_iconst (v := 3) X dL_law_622 (by decide) ?_
        refine g_iadd X dL_law_623 ?_
        refine g_sload X hB hf dL_law_624 (fun v67 hf => ?_)
        refine g_callV (n := 3) (av := [tI v65, tI v66, tI v67]) (rest := []) (k := 11) X hf (fun v68 => (some (tI v68), h)) (fun _ q => m_X11_dread q) (gdV tb_482 tb_483 tb_484 tb_1 tb_485) rfl (by decide +kernel) rfl (by decide) rfl (by decide) (by constructor <;> simp only [room_1] <;> omega) rfl (Nat.le_of_ble_eq_true rfl) dL_law_625 (fun v68 hf => ?_)
        refine g_aload_n X dL_law_628 2 rfl ?_
        refine g_aload_n X dL_law_629 0 rfl ?_
        refine g_iload_n X dL_law_630 3 rfl ?_
        refine g_iconst (v := 1) X dL_law_631 (by decide) ?_
        refine g_iadd X dL_law_632 ?_
        refine g_sload X hB hf dL_law_633 (fun v69 hf => ?_)
        refine g_aload_n X dL_law_634 0 rfl ?_
        refine g_iload_n X dL_law_635 3 rfl ?_
        refine g_iconst (v := 2) X dL_law_636 (by decide) ?_
        refine g_iadd X dL_law_637 ?_
        refine g_sload X hB hf dL_law_638 (fun v70 hf => ?_)
        refine g_aload_n X dL_law_639 0 rfl ?_
        refine g_iload_n X dL_law_640 3 rfl ?_
        refine g_iconst (v := 3) X dL_law_641 (by decide) ?_
        refine g_iadd X dL_law_642 ?_
        refine g_sload X hB hf dL_law_643 (fun v71 hf => ?_)
        refine g_callV (n := 3) (av := [tI v69, tI v70, tI v71]) (rest := [tI v68]) (k := 12) X hf (fun v72 => (some (tI v72), h)) (fun _ q => m_X12_dread q) (gdV tb_1282 tb_1283 tb_1284 tb_12 tb_1285) rfl (by decide +kernel) rfl (by decide) rfl (by decide) (by constructor <;> simp only [room_1] <;> omega) rfl (Nat.le_of_ble_eq_true rfl) dL_law_644 (fun v72 hf => ?_)
        refine g_icmpeq (tgt := 2138) X hf dL_law_647 (by decide) (fun hf => ?_) (fun hf => ?_)
        · refine g_iinc (v := (x3 + 7)) (lv' := [(0, tR x0), (1, tR x1), (2, tR x2), (3, tI (x3 + 7))]) X dL_law_2138 3 rfl (by rfl) (by decide) (in_pick [1, 2, 3, 0] rfl) ?_
          refine g_goto (tgt := 18) X dL_law_2141 (by decide) ?_
          refine g_widen (k := (98011 - n * 163)) (n := (2189966 - n * 3633)) (by omega) (by omega) ?_
          exact ih (by omega) x0 x1 x2 (x3 + 7) h hB hf
        · refine g_iconst (v := 0) X dL_law_650 (by decide) ?_
          exact g_zreturn X (zW hf) (by decide) (by omega) (by omega) dL_law_651
      rw [if_neg hs9] at hf
      by_cases hs10 : (v2 &&& 63) = 10
      · rw [if_pos hs10] at hf
        refine g_tabIn (off := 619) (tgt := 652) X 10 hs10 dL_law_33 (by decide) (by decide) (by decide +kernel) (by decide) ?_
        refine g_aload_n X dL_law_652 1 rfl ?_
        refine g_aload_n X dL_law_653 0 rfl ?_
        refine g_iload_n X dL_law_654 3 rfl ?_
        refine g_iconst (v := 1) X dL_law_655 (by decide) ?_
        refine g_iadd X dL_law_656 ?_
        refine g_sload X hB hf dL_law_657 (fun v73 hf => ?_)
        refine g_aload_n X dL_law_658 0 rfl ?_
        refine g_iload_n X dL_law_659 3 rfl ?_
        refine g_iconst (v := 2) X dL_law_660 (by decide) ?_
        refine g_iadd X dL_law_661 ?_
        refine g_sload X hB hf dL_law_662 (fun v74 hf => ?_)
        refine g_callV (n := 2) (av := [tI v73, tI v74]) (rest := []) (k := 11) X hf (fun p75 => (some (tI p75.1), p75.2)) (fun _ q => m_X11_rule q) (gdV tb_494 tb_495 tb_496 tb_1 tb_497) rfl (by decide +kernel) rfl (by decide) rfl (by decide) (by constructor <;> simp only [room_1] <;> omega) rfl (Nat.le_of_ble_eq_true rfl) dL_law_663 (fun p75 hf => ?_)
        refine g_aload_n X dL_law_666 2 rfl ?_
        refine g_aload_n X dL_law_667 0 rfl ?_
        refine g_iload_n X dL_law_668 3 rfl ?_
        refine g_iconst (v := 1) X dL_law_669 (by decide) ?_
        refine g_iadd X dL_law_670 ?_
        refine g_sload X hB hf dL_law_671 (fun v76 hf => ?_)
        refine g_aload_n X dL_law_672 0 rfl ?_
        refine g_iload_n X dL_law_673 3 rfl ?_
        refine g_iconst (v := 2) X dL_law_674 (by decide) ?_
        refine g_iadd X dL_law_675 ?_
        refine g_sload X hB hf dL_law_676 (fun v77 hf => ?_)
        refine g_callV (n := 2) (av := [tI v76, tI v77]) (rest := [tI p75.1]) (k := 12) X hf (fun p78 => (some (tI p78.1), p78.2)) (fun _ q => m_X12_rule q) (gdV tb_1289 tb_1290 tb_1291 tb_12 tb_1292) rfl (by decide +kernel) rfl (by decide) rfl (by decide) (by constructor <;> simp only [room_1] <;> omega) rfl (Nat.le_of_ble_eq_true rfl) dL_law_677 (fun p78 hf => ?_)
        refine g_icmpeq (tgt := 2138) X hf dL_law_680 (by decide) (fun hf => ?_) (fun hf => ?_)
        · refine g_iinc (v := (x3 + 7)) (lv' := [(0, tR x0), (1, tR x1), (2, tR x2), (3, tI (x3 + 7))]) X dL_law_2138 3 rfl (by rfl) (by decide) (in_pick [1, 2, 3, 0] rfl) ?_
          refine g_goto (tgt := 18) X dL_law_2141 (by decide) ?_
          refine g_widen (k := (98011 - n * 163)) (n := (2189966 - n * 3633)) (by omega) (by omega) ?_
          exact ih (by omega) x0 x1 x2 (x3 + 7) p78.2 hB hf
        · refine g_iconst (v := 0) X dL_law_683 (by decide) ?_
          exact g_zreturn X (zW hf) (by decide) (by omega) (by omega) dL_law_684
      rw [if_neg hs10] at hf
      by_cases hs11 : (v2 &&& 63) = 11
      · rw [if_pos hs11] at hf
        refine g_tabIn (off := 652) (tgt := 685) X 11 hs11 dL_law_33 (by decide) (by decide) (by decide +kernel) (by decide) ?_
        refine g_aload_n X dL_law_685 1 rfl ?_
        refine g_aload_n X dL_law_686 0 rfl ?_
        refine g_iload_n X dL_law_687 3 rfl ?_
        refine g_iconst (v := 1) X dL_law_688 (by decide) ?_
        refine g_iadd X dL_law_689 ?_
        refine g_sload X hB hf dL_law_690 (fun v79 hf => ?_)
        refine g_aload_n X dL_law_691 0 rfl ?_
        refine g_iload_n X dL_law_692 3 rfl ?_
        refine g_iconst (v := 2) X dL_law_693 (by decide) ?_
        refine g_iadd X dL_law_694 ?_
        refine g_sload X hB hf dL_law_695 (fun v80 hf => ?_)
        refine g_callV (n := 2) (av := [tI v79, tI v80]) (rest := []) (k := 11) X hf (fun v81 => (some (tI v81), h)) (fun _ q => m_X11_of q) (gdV tb_499 tb_500 tb_501 tb_1 tb_502) rfl (by decide +kernel) rfl (by decide) rfl (by decide) (by constructor <;> simp only [room_1] <;> omega) rfl (Nat.le_of_ble_eq_true rfl) dL_law_696 (fun v81 hf => ?_)
        refine g_aload_n X dL_law_699 2 rfl ?_
        refine g_aload_n X dL_law_700 0 rfl ?_
        refine g_iload_n X dL_law_701 3 rfl ?_
        refine g_iconst (v := 1) X dL_law_702 (by decide) ?_
        refine g_iadd X dL_law_703 ?_
        refine g_sload X hB hf dL_law_704 (fun v82 hf => ?_)
        refine g_aload_n X dL_law_705 0 rfl ?_
        refine g_iload_n X dL_law_706 3 rfl ?_
        refine g_iconst (v := 2) X dL_law_707 (by decide) ?_
        refine g_iadd X dL_law_708 ?_
        refine g_sload X hB hf dL_law_709 (fun v83 hf => ?_)
        refine g_callV (n := 2) (av := [tI v82, tI v83]) (rest := [tI v81]) (k := 12) X hf (fun v84 => (some (tI v84), h)) (fun _ q => m_X12_of q) (gdV tb_1293 tb_1294 tb_1295 tb_12 tb_1296) rfl (by decide +kernel) rfl (by decide) rfl (by decide) (by constructor <;> simp only [room_1] <;> omega) rfl (Nat.le_of_ble_eq_true rfl) dL_law_710 (fun v84 hf => ?_)
        refine g_icmpeq (tgt := 2138) X hf dL_law_713 (by decide) (fun hf => ?_) (fun hf => ?_)
        · refine g_iinc (v := (x3 + 7)) (lv' := [(0, tR x0), (1, tR x1), (2, tR x2), (3, tI (x3 + 7))]) X dL_law_2138 3 rfl (by rfl) (by decide) (in_pick [1, 2, 3, 0] rfl) ?_
          refine g_goto (tgt := 18) X dL_law_2141 (by decide) ?_
          refine g_widen (k := (98011 - n * 163)) (n := (2189966 - n * 3633)) (by omega) (by omega) ?_
          exact ih (by omega) x0 x1 x2 (x3 + 7) h hB hf
        · refine g_iconst (v := 0) X dL_law_716 (by decide) ?_
          exact g_zreturn X (zW hf) (by decide) (by omega) (by omega) dL_law_717
      rw [if_neg hs11] at hf
      by_cases hs12 : (v2 &&& 63) = 12
      · rw [if_pos hs12] at hf
        refine g_tabIn (off := 685) (tgt := 718) X 12 hs12 dL_law_33 (by decide) (by decide) (by decide +kernel) (by decide) ?_
        refine g_aload_n X dL_law_718 1 rfl ?_
        refine g_aload_n X dL_law_719 0 rfl ?_
        refine g_iload_n X dL_law_720 3 rfl ?_
        refine g_iconst (v := 1) X dL_law_721 (by decide) ?_
        refine g_iadd X dL_law_722 ?_
        refine g_sload X hB hf dL_law_723 (fun v85 hf => ?_)
        refine g_aload_n X dL_law_724 0 rfl ?_
        refine g_iload_n X dL_law_725 3 rfl ?_
        refine g_iconst (v := 2) X dL_law_726 (by decide) ?_
        refine g_iadd X dL_law_727 ?_
        refine g_sload X hB hf dL_law_728 (fun v86 hf => ?_)
        refine g_aload_n X dL_law_729 0 rfl ?_
        refine g_iload_n X dL_law_730 3 rfl ?_
        refine g_iconst (v := 3) X dL_law_731 (by decide) ?_
        refine g_iadd X dL_law_732 ?_
        refine g_sload X hB hf dL_law_733 (fun v87 hf => ?_)
        refine g_aload_n X dL_law_734 0 rfl ?_
        refine g_iload_n X dL_law_735 3 rfl ?_
        refine g_iconst (v := 4) X dL_law_736 (by decide) ?_
        refine g_iadd X dL_law_737 ?_
        refine g_sload X hB hf dL_law_738 (fun v88 hf => ?_)
        refine g_callV (n := 4) (av := [tI v85, tI v86, tI v87, tI v88]) (rest := []) (k := 11) X hf (fun p89 => (some (tI p89.1), p89.2)) (fun _ q => m_X11_bargain q) (gdV tb_510 tb_511 tb_512 tb_1 tb_513) rfl (by decide +kernel) rfl (by decide) rfl (by decide) (by constructor <;> simp only [room_1] <;> omega) rfl (Nat.le_of_ble_eq_true rfl) dL_law_739 (fun p89 hf => ?_)
        refine g_aload_n X dL_law_742 2 rfl ?_
        refine g_aload_n X dL_law_743 0 rfl ?_
        refine g_iload_n X dL_law_744 3 rfl ?_
        refine g_iconst (v := 1) X dL_law_745 (by decide) ?_
        refine g_iadd X dL_law_746 ?_
        refine g_sload X hB hf dL_law_747 (fun v90 hf => ?_)
        refine g_aload_n X dL_law_748 0 rfl ?_
        refine g_iload_n X dL_law_749 3 rfl ?_
        refine g_iconst (v := 2) X dL_law_750 (by decide) ?_
        refine g_iadd X dL_law_751 ?_
        refine g_sload X hB hf dL_law_752 (fun v91 hf => ?_)
        refine g_aload_n X dL_law_753 0 rfl ?_
        refine g_iload_n X dL_law_754 3 rfl ?_
        refine g_iconst (v := 3) X dL_law_755 (by decide) ?_
        refine g_iadd X dL_law_756 ?_
        refine g_sload X hB hf dL_law_757 (fun v92 hf => ?_)
        refine g_aload_n X dL_law_758 0 rfl ?_
        refine g_iload_n X dL_law_759 3 rfl ?_
        refine g_iconst (v := 4) X dL_law_760 (by decide) ?_
        refine g_iadd X dL_law_761 ?_
        refine g_sload X hB hf dL_law_762 (fun v93 hf => ?_)
        refine g_callV (n := 4) (av := [tI v90, tI v91, tI v92, tI v93]) (rest := [tI p89.1]) (k := 12) X hf (fun p94 => (some (tI p94.1), p94.2)) (fun _ q => m_X12_bargain q) (gdV tb_1297 tb_1298 tb_1299 tb_12 tb_1300) rfl (by decide +kernel) rfl (by decide) rfl (by decide) (by constructor <;> simp only [room_1] <;> omega) rfl (Nat.le_of_ble_eq_true rfl) dL_law_763 (fun p94 hf => ?_)
        refine g_icmpeq (tgt := 2138) X hf dL_law_766 (by decide) (fun hf => ?_) (fun hf => ?_)
        · refine g_iinc (v := (x3 + 7)) (lv' := [(0, tR x0), (1, tR x1), (2, tR x2), (3, tI (x3 + 7))]) X dL_law_2138 3 rfl (by rfl) (by decide) (in_pick [1, 2, 3, 0] rfl) ?_
          refine g_goto (tgt := 18) X dL_law_2141 (by decide) ?_
          refine g_widen (k := (98011 - n * 163)) (n := (2189966 - n * 3633)) (by omega) (by omega) ?_
          exact ih (by omega) x0 x1 x2 (x3 + 7) p94.2 hB hf
        · refine g_iconst (v := 0) X dL_law_769 (by decide) ?_
          exact g_zreturn X (zW hf) (by decide) (by omega) (by omega) dL_law_770
      rw [if_neg hs12] at hf
      by_cases hs13 : (v2 &&& 63) = 13
      · rw [if_pos hs13] at hf
        refine g_tabIn (off := 738) (tgt := 771) X 13 hs13 dL_law_33 (by decide) (by decide) (by decide +kernel) (by decide) ?_
        refine g_aload_n X dL_law_771 1 rfl ?_
        refine g_aload_n X dL_law_772 0 rfl ?_
        refine g_iload_n X dL_law_773 3 rfl ?_
        refine g_iconst (v := 1) X dL_law_774 (by decide) ?_
        refine g_iadd X dL_law_775 ?_
        refine g_sload X hB hf dL_law_776 (fun v95 hf => ?_)
        refine g_aload_n X dL_law_777 0 rfl ?_
        refine g_iload_n X dL_law_778 3 rfl ?_
        refine g_iconst (v := 2) X dL_law_779 (by decide) ?_
        refine g_iadd X dL_law_780 ?_
        refine g_sload X hB hf dL_law_781 (fun v96 hf => ?_)
        refine g_callV (n := 2) (av := [tI v95, tI v96]) (rest := []) (k := 11) X hf (fun v97 => (some (tI v97), h)) (fun _ q => m_X11_bound q) (gdV tb_521 tb_522 tb_523 tb_1 tb_524) rfl (by decide +kernel) rfl (by decide) rfl (by decide) (by constructor <;> simp only [room_1] <;> omega) rfl (Nat.le_of_ble_eq_true rfl) dL_law_782 (fun v97 hf => ?_)
        refine g_aload_n X dL_law_785 2 rfl ?_
        refine g_aload_n X dL_law_786 0 rfl ?_
        refine g_iload_n X dL_law_787 3 rfl ?_
        refine g_iconst (v := 1) X dL_law_788 (by decide) ?_
        refine g_iadd X dL_law_789 ?_
        refine g_sload X hB hf dL_law_790 (fun v98 hf => ?_)
        refine g_aload_n X dL_law_791 0 rfl ?_
        refine g_iload_n X dL_law_792 3 rfl ?_
        refine g_iconst (v := 2) X dL_law_793 (by decide) ?_
        refine g_iadd X dL_law_794 ?_
        refine g_sload X hB hf dL_law_795 (fun v99 hf => ?_)
        refine g_callV (n := 2) (av := [tI v98, tI v99]) (rest := [tI v97]) (k := 12) X hf (fun v100 => (some (tI v100), h)) (fun _ q => m_X12_bound q) (gdV tb_1304 tb_1305 tb_1306 tb_12 tb_1307) rfl (by decide +kernel) rfl (by decide) rfl (by decide) (by constructor <;> simp only [room_1] <;> omega) rfl (Nat.le_of_ble_eq_true rfl) dL_law_796 (fun v100 hf => ?_)
        refine g_icmpeq (tgt := 2138) X hf dL_law_799 (by decide) (fun hf => ?_) (fun hf => ?_)
        · refine g_iinc (v := (x3 + 7)) (lv' := [(0, tR x0), (1, tR x1), (2, tR x2), (3, tI (x3 + 7))]) X dL_law_2138 3 rfl (by rfl) (by decide) (in_pick [1, 2, 3, 0] rfl) ?_
          refine g_goto (tgt := 18) X dL_law_2141 (by decide) ?_
          refine g_widen (k := (98011 - n * 163)) (n := (2189966 - n * 3633)) (by omega) (by omega) ?_
          exact ih (by omega) x0 x1 x2 (x3 + 7) h hB hf
        · refine g_iconst (v := 0) X dL_law_802 (by decide) ?_
          exact g_zreturn X (zW hf) (by decide) (by omega) (by omega) dL_law_803
      rw [if_neg hs13] at hf
      by_cases hs14 : (v2 &&& 63) = 14
      · rw [if_pos hs14] at hf
        refine g_tabIn (off := 771) (tgt := 804) X 14 hs14 dL_law_33 (by decide) (by decide) (by decide +kernel) (by decide) ?_
        refine g_aload_n X dL_law_804 1 rfl ?_
        refine g_aload_n X dL_law_805 0 rfl ?_
        refine g_iload_n X dL_law_806 3 rfl ?_
        refine g_iconst (v := 1) X dL_law_807 (by decide) ?_
        refine g_iadd X dL_law_808 ?_
        refine g_sload X hB hf dL_law_809 (fun v101 hf => ?_)
        refine g_aload_n X dL_law_810 0 rfl ?_
        refine g_iload_n X dL_law_811 3 rfl ?_
        refine g_iconst (v := 2) X dL_law_812 (by decide) ?_
        refine g_iadd X dL_law_813 ?_
        refine g_sload X hB hf dL_law_814 (fun v102 hf => ?_)
        refine g_callV (n := 2) (av := [tI v101, tI v102]) (rest := []) (k := 11) X hf (fun v103 => (some (tI v103), h)) (fun _ q => m_X11_comes q) (gdV tb_529 tb_530 tb_531 tb_1 tb_532) rfl (by decide +kernel) rfl (by decide) rfl (by decide) (by constructor <;> simp only [room_1] <;> omega) rfl (Nat.le_of_ble_eq_true rfl) dL_law_815 (fun v103 hf => ?_)
        refine g_aload_n X dL_law_818 2 rfl ?_
        refine g_aload_n X dL_law_819 0 rfl ?_
        refine g_iload_n X dL_law_820 3 rfl ?_
        refine g_iconst (v := 1) X dL_law_821 (by decide) ?_
        refine g_iadd X dL_law_822 ?_
        refine g_sload X hB hf dL_law_823 (fun v104 hf => ?_)
        refine g_aload_n X dL_law_824 0 rfl ?_
        refine g_iload_n X dL_law_825 3 rfl ?_
        refine g_iconst (v := 2) X dL_law_826 (by decide) ?_
        refine g_iadd X dL_law_827 ?_
        refine g_sload X hB hf dL_law_828 (fun v105 hf => ?_)
        refine g_callV (n := 2) (av := [tI v104, tI v105]) (rest := [tI v103]) (k := 12) X hf (fun v106 => (some (tI v106), h)) (fun _ q => m_X12_comes q) (gdV tb_1311 tb_1312 tb_1313 tb_12 tb_1314) rfl (by decide +kernel) rfl (by decide) rfl (by decide) (by constructor <;> simp only [room_1] <;> omega) rfl (Nat.le_of_ble_eq_true rfl) dL_law_829 (fun v106 hf => ?_)
        refine g_icmpeq (tgt := 2138) X hf dL_law_832 (by decide) (fun hf => ?_) (fun hf => ?_)
        · refine g_iinc (v := (x3 + 7)) (lv' := [(0, tR x0), (1, tR x1), (2, tR x2), (3, tI (x3 + 7))]) X dL_law_2138 3 rfl (by rfl) (by decide) (in_pick [1, 2, 3, 0] rfl) ?_
          refine g_goto (tgt := 18) X dL_law_2141 (by decide) ?_
          refine g_widen (k := (98011 - n * 163)) (n := (2189966 - n * 3633)) (by omega) (by omega) ?_
          exact ih (by omega) x0 x1 x2 (x3 + 7) h hB hf
        · refine g_iconst (v := 0) X dL_law_835 (by decide) ?_
          exact g_zreturn X (zW hf) (by decide) (by omega) (by omega) dL_law_836
      rw [if_neg hs14] at hf
      by_cases hs15 : (v2 &&& 63) = 15
      · rw [if_pos hs15] at hf
        refine g_tabIn (off := 804) (tgt := 837) X 15 hs15 dL_law_33 (by decide) (by decide) (by decide +kernel) (by decide) ?_
        refine g_aload_n X dL_law_837 1 rfl ?_
        refine g_aload_n X dL_law_838 0 rfl ?_
        refine g_iload_n X dL_law_839 3 rfl ?_
        refine g_iconst (v := 1) X dL_law_840 (by decide) ?_
        refine g_iadd X dL_law_841 ?_
        refine g_sload X hB hf dL_law_842 (fun v107 hf => ?_)
        refine g_aload_n X dL_law_843 0 rfl ?_
        refine g_iload_n X dL_law_844 3 rfl ?_
        refine g_iconst (v := 2) X dL_law_845 (by decide) ?_
        refine g_iadd X dL_law_846 ?_
        refine g_sload X hB hf dL_law_847 (fun v108 hf => ?_)
        refine g_callV (n := 2) (av := [tI v107, tI v108]) (rest := []) (k := 11) X hf (fun v109 => (some (tI v109), h)) (fun _ q => m_X11_cast q) (gdV tb_547 tb_548 tb_549 tb_1 tb_550) rfl (by decide +kernel) rfl (by decide) rfl (by decide) (by constructor <;> simp only [room_1] <;> omega) rfl (Nat.le_of_ble_eq_true rfl) dL_law_848 (fun v109 hf => ?_)
        refine g_aload_n X dL_law_851 2 rfl ?_
        refine g_aload_n X dL_law_852 0 rfl ?_
        refine g_iload_n X dL_law_853 3 rfl ?_
        refine g_iconst (v := 1) X dL_law_854 (by decide) ?_
        refine g_iadd X dL_law_855 ?_
        refine g_sload X hB hf dL_law_856 (fun v110 hf => ?_)
        refine g_aload_n X dL_law_857 0 rfl ?_
        refine g_iload_n X dL_law_858 3 rfl ?_
        refine g_iconst (v := 2) X dL_law_859 (by decide) ?_
        refine g_iadd X dL_law_860 ?_
        refine g_sload X hB hf dL_law_861 (fun v111 hf => ?_)
        refine g_callV (n := 2) (av := [tI v110, tI v111]) (rest := [tI v109]) (k := 12) X hf (fun v112 => (some (tI v112), h)) (fun _ q => m_X12_cast q) (gdV tb_1321 tb_1322 tb_1323 tb_12 tb_1324) rfl (by decide +kernel) rfl (by decide) rfl (by decide) (by constructor <;> simp only [room_1] <;> omega) rfl (Nat.le_of_ble_eq_true rfl) dL_law_862 (fun v112 hf => ?_)
        refine g_icmpeq (tgt := 2138) X hf dL_law_865 (by decide) (fun hf => ?_) (fun hf => ?_)
        · refine g_iinc (v := (x3 + 7)) (lv' := [(0, tR x0), (1, tR x1), (2, tR x2), (3, tI (x3 + 7))]) X dL_law_2138 3 rfl (by rfl) (by decide) (in_pick [1, 2, 3, 0] rfl) ?_
          refine g_goto (tgt := 18) X dL_law_2141 (by decide) ?_
          refine g_widen (k := (98011 - n * 163)) (n := (2189966 - n * 3633)) (by omega) (by omega) ?_
          exact ih (by omega) x0 x1 x2 (x3 + 7) h hB hf
        · refine g_iconst (v := 0) X dL_law_868 (by decide) ?_
          exact g_zreturn X (zW hf) (by decide) (by omega) (by omega) dL_law_869
      rw [if_neg hs15] at hf
      by_cases hs16 : (v2 &&& 63) = 16
      · rw [if_pos hs16] at hf
        refine g_tabIn (off := 837) (tgt := 870) X 16 hs16 dL_law_33 (by decide) (by decide) (by decide +kernel) (by decide) ?_
        refine g_aload_n X dL_law_870 1 rfl ?_
        refine g_aload_n X dL_law_871 0 rfl ?_
        refine g_iload_n X dL_law_872 3 rfl ?_
        refine g_iconst (v := 1) X dL_law_873 (by decide) ?_
        refine g_iadd X dL_law_874 ?_
        refine g_sload X hB hf dL_law_875 (fun v113 hf => ?_)
        refine g_aload_n X dL_law_876 0 rfl ?_
        refine g_iload_n X dL_law_877 3 rfl ?_
        refine g_iconst (v := 2) X dL_law_878 (by decide) ?_
        refine g_iadd X dL_law_879 ?_
        refine g_sload X hB hf dL_law_880 (fun v114 hf => ?_)
        refine g_aload_n X dL_law_881 0 rfl ?_
        refine g_iload_n X dL_law_882 3 rfl ?_
        refine g_iconst (v := 3) X dL_law_883 (by decide) ?_
        refine g_iadd X dL_law_884 ?_
        refine g_sload X hB hf dL_law_885 (fun v115 hf => ?_)
        refine g_aload_n X dL_law_886 0 rfl ?_
        refine g_iload_n X dL_law_887 3 rfl ?_
        refine g_iconst (v := 4) X dL_law_888 (by decide) ?_
        refine g_iadd X dL_law_889 ?_
        refine g_sload X hB hf dL_law_890 (fun v116 hf => ?_)
        refine g_aload_n X dL_law_891 0 rfl ?_
        refine g_iload_n X dL_law_892 3 rfl ?_
        refine g_iconst (v := 5) X dL_law_893 (by decide) ?_
        refine g_iadd X dL_law_894 ?_
        refine g_sload X hB hf dL_law_895 (fun v117 hf => ?_)
        refine g_aload_n X dL_law_896 0 rfl ?_
        refine g_iload_n X dL_law_897 3 rfl ?_
        refine g_bipush (v := 6) X dL_law_898 (by decide) ?_
        refine g_iadd X dL_law_900 ?_
        refine g_sload X hB hf dL_law_901 (fun v118 hf => ?_)
        refine g_callV (n := 6) (av := [tI v113, tI v114, tI v115, tI v116, tI v117, tI v118]) (rest := []) (k := 11) X hf (fun p119 => (some (tI p119.1), p119.2)) (fun _ q => m_X11_sherd q) (gdV tb_560 tb_561 tb_562 tb_1 tb_563) rfl (by decide +kernel) rfl (by decide) rfl (by decide) (by constructor <;> simp only [room_1] <;> omega) rfl (Nat.le_of_ble_eq_true rfl) dL_law_902 (fun p119 hf => ?_)
        refine g_aload_n X dL_law_905 2 rfl ?_
        refine g_aload_n X dL_law_906 0 rfl ?_
        refine g_iload_n X dL_law_907 3 rfl ?_
        refine g_iconst (v := 1) X dL_law_908 (by decide) ?_
        refine g_iadd X dL_law_909 ?_
        refine g_sload X hB hf dL_law_910 (fun v120 hf => ?_)
        refine g_aload_n X dL_law_911 0 rfl ?_
        refine g_iload_n X dL_law_912 3 rfl ?_
        refine g_iconst (v := 2) X dL_law_913 (by decide) ?_
        refine g_iadd X dL_law_914 ?_
        refine g_sload X hB hf dL_law_915 (fun v121 hf => ?_)
        refine g_aload_n X dL_law_916 0 rfl ?_
        refine g_iload_n X dL_law_917 3 rfl ?_
        refine g_iconst (v := 3) X dL_law_918 (by decide) ?_
        refine g_iadd X dL_law_919 ?_
        refine g_sload X hB hf dL_law_920 (fun v122 hf => ?_)
        refine g_aload_n X dL_law_921 0 rfl ?_
        refine g_iload_n X dL_law_922 3 rfl ?_
        refine g_iconst (v := 4) X dL_law_923 (by decide) ?_
        refine g_iadd X dL_law_924 ?_
        refine g_sload X hB hf dL_law_925 (fun v123 hf => ?_)
        refine g_aload_n X dL_law_926 0 rfl ?_
        refine g_iload_n X dL_law_927 3 rfl ?_
        refine g_iconst (v := 5) X dL_law_928 (by decide) ?_
        refine g_iadd X dL_law_929 ?_
        refine g_sload X hB hf dL_law_930 (fun v124 hf => ?_)
        refine g_aload_n X dL_law_931 0 rfl ?_
        refine g_iload_n X dL_law_932 3 rfl ?_
        refine g_bipush (v := 6) X dL_law_933 (by decide) ?_
        refine g_iadd X dL_law_935 ?_
        refine g_sload X hB hf dL_law_936 (fun v125 hf => ?_)
        refine g_callV (n := 6) (av := [tI v120, tI v121, tI v122, tI v123, tI v124, tI v125]) (rest := [tI p119.1]) (k := 12) X hf (fun p126 => (some (tI p126.1), p126.2)) (fun _ q => m_X12_sherd q) (gdV tb_1328 tb_1329 tb_1330 tb_12 tb_1331) rfl (by decide +kernel) rfl (by decide) rfl (by decide) (by constructor <;> simp only [room_1] <;> omega) rfl (Nat.le_of_ble_eq_true rfl) dL_law_937 (fun p126 hf => ?_)
        refine g_icmpeq (tgt := 2138) X hf dL_law_940 (by decide) (fun hf => ?_) (fun hf => ?_)
        · refine g_iinc (v := (x3 + 7)) (lv' := [(0, tR x0), (1, tR x1), (2, tR x2), (3, tI (x3 + 7))]) X dL_law_2138 3 rfl (by rfl) (by decide) (in_pick [1, 2, 3, 0] rfl) ?_
          refine g_goto (tgt := 18) X dL_law_2141 (by decide) ?_
          refine g_widen (k := (98011 - n * 163)) (n := (2189966 - n * 3633)) (by omega) (by omega) ?_
          exact ih (by omega) x0 x1 x2 (x3 + 7) p126.2 hB hf
        · refine g_iconst (v := 0) X dL_law_943 (by decide) ?_
          exact g_zreturn X (zW hf) (by decide) (by omega) (by omega) dL_law_944
      rw [if_neg hs16] at hf
      by_cases hs17 : (v2 &&& 63) = 17
      · rw [if_pos hs17] at hf
        refine g_tabIn (off := 912) (tgt := 945) X 17 hs17 dL_law_33 (by decide) (by decide) (by decide +kernel) (by decide) ?_
        refine g_aload_n X dL_law_945 1 rfl ?_
        refine g_callV (n := 0) (av := []) (rest := []) (k := 11) X hf (fun p127 => (some (tI p127.1), p127.2)) (fun _ q => m_X11_vote q) (gdV tb_572 tb_573 tb_574 tb_1 tb_575) rfl (by decide +kernel) rfl (by decide) rfl (by decide) (by constructor <;> simp only [room_1] <;> omega) rfl (Nat.le_of_ble_eq_true rfl) dL_law_946 (fun p127 hf => ?_)
        refine g_aload_n X dL_law_949 2 rfl ?_
        refine g_callV (n := 0) (av := []) (rest := [tI p127.1]) (k := 12) X hf (fun p128 => (some (tI p128.1), p128.2)) (fun _ q => m_X12_vote q) (gdV tb_1335 tb_1336 tb_1337 tb_12 tb_1338) rfl (by decide +kernel) rfl (by decide) rfl (by decide) (by constructor <;> simp only [room_1] <;> omega) rfl (Nat.le_of_ble_eq_true rfl) dL_law_950 (fun p128 hf => ?_)
        refine g_icmpeq (tgt := 2138) X hf dL_law_953 (by decide) (fun hf => ?_) (fun hf => ?_)
        · refine g_iinc (v := (x3 + 7)) (lv' := [(0, tR x0), (1, tR x1), (2, tR x2), (3, tI (x3 + 7))]) X dL_law_2138 3 rfl (by rfl) (by decide) (in_pick [1, 2, 3, 0] rfl) ?_
          refine g_goto (tgt := 18) X dL_law_2141 (by decide) ?_
          refine g_widen (k := (98011 - n * 163)) (n := (2189966 - n * 3633)) (by omega) (by omega) ?_
          exact ih (by omega) x0 x1 x2 (x3 + 7) p128.2 hB hf
        · refine g_iconst (v := 0) X dL_law_956 (by decide) ?_
          exact g_zreturn X (zW hf) (by decide) (by omega) (by omega) dL_law_957
      rw [if_neg hs17] at hf
      by_cases hs18 : (v2 &&& 63) = 18
      · rw [if_pos hs18] at hf
        refine g_tabIn (off := 925) (tgt := 958) X 18 hs18 dL_law_33 (by decide) (by decide) (by decide +kernel) (by decide) ?_
        refine g_aload_n X dL_law_958 1 rfl ?_
        refine g_aload_n X dL_law_959 0 rfl ?_
        refine g_iload_n X dL_law_960 3 rfl ?_
        refine g_iconst (v := 1) X dL_law_961 (by decide) ?_
        refine g_iadd X dL_law_962 ?_
        refine g_sload X hB hf dL_law_963 (fun v129 hf => ?_)
        refine g_callV (n := 1) (av := [tI v129]) (rest := []) (k := 11) X hf (fun p130 => (some (tI p130.1), p130.2)) (fun _ q => m_X11_thrown q) (gdV tb_591 tb_592 tb_593 tb_1 tb_594) rfl (by decide +kernel) rfl (by decide) rfl (by decide) (by constructor <;> simp only [room_1] <;> omega) rfl (Nat.le_of_ble_eq_true rfl) dL_law_964 (fun p130 hf => ?_)
        refine g_aload_n X dL_law_967 2 rfl ?_
        refine g_aload_n X dL_law_968 0 rfl ?_
        refine g_iload_n X dL_law_969 3 rfl ?_
        refine g_iconst (v := 1) X dL_law_970 (by decide) ?_
        refine g_iadd X dL_law_971 ?_
        refine g_sload X hB hf dL_law_972 (fun v131 hf => ?_)
        refine g_callV (n := 1) (av := [tI v131]) (rest := [tI p130.1]) (k := 12) X hf (fun p132 => (some (tI p132.1), p132.2)) (fun _ q => m_X12_thrown q) (gdV tb_1339 tb_1340 tb_1341 tb_12 tb_1342) rfl (by decide +kernel) rfl (by decide) rfl (by decide) (by constructor <;> simp only [room_1] <;> omega) rfl (Nat.le_of_ble_eq_true rfl) dL_law_973 (fun p132 hf => ?_)
        refine g_icmpeq (tgt := 2138) X hf dL_law_976 (by decide) (fun hf => ?_) (fun hf => ?_)
        · refine g_iinc (v := (x3 + 7)) (lv' := [(0, tR x0), (1, tR x1), (2, tR x2), (3, tI (x3 + 7))]) X dL_law_2138 3 rfl (by rfl) (by decide) (in_pick [1, 2, 3, 0] rfl) ?_
          refine g_goto (tgt := 18) X dL_law_2141 (by decide) ?_
          refine g_widen (k := (98011 - n * 163)) (n := (2189966 - n * 3633)) (by omega) (by omega) ?_
          exact ih (by omega) x0 x1 x2 (x3 + 7) p132.2 hB hf
        · refine g_iconst (v := 0) X dL_law_979 (by decide) ?_
          exact g_zreturn X (zW hf) (by decide) (by omega) (by omega) dL_law_980
      rw [if_neg hs18] at hf
      by_cases hs19 : (v2 &&& 63) = 19
      · rw [if_pos hs19] at hf
        refine g_tabIn (off := 948) (tgt := 981) X 19 hs19 dL_law_33 (by decide) (by decide) (by decide +kernel) (by decide) ?_
        refine g_aload_n X dL_law_981 1 rfl ?_
        refine g_aload_n X dL_law_982 0 rfl ?_
        refine g_iload_n X dL_law_983 3 rfl ?_
        refine g_iconst (v := 1) X dL_law_984 (by decide) ?_
        refine g_iadd X dL_law_985 ?_
        refine g_sload X hB hf dL_law_986 (fun v133 hf => ?_)
        refine g_aload_n X dL_law_987 0 rfl ?_
        refine g_iload_n X dL_law_988 3 rfl ?_
        refine g_iconst (v := 2) X dL_law_989 (by decide) ?_
        refine g_iadd X dL_law_990 ?_
        refine g_sload X hB hf dL_law_991 (fun v134 hf => ?_)
        refine g_callV (n := 2) (av := [tI v133, tI v134]) (rest := []) (k := 11) X hf (fun p135 => (some (tI p135.1), p135.2)) (fun _ q => m_X11_sherdOf q) (gdV tb_599 tb_600 tb_601 tb_1 tb_602) rfl (by decide +kernel) rfl (by decide) rfl (by decide) (by constructor <;> simp only [room_1] <;> omega) rfl (Nat.le_of_ble_eq_true rfl) dL_law_992 (fun p135 hf => ?_)
        refine g_aload_n X dL_law_995 2 rfl ?_
        refine g_aload_n X dL_law_996 0 rfl ?_
        refine g_iload_n X dL_law_997 3 rfl ?_
        refine g_iconst (v := 1) X dL_law_998 (by decide) ?_
        refine g_iadd X dL_law_999 ?_
        refine g_sload X hB hf dL_law_1000 (fun v136 hf => ?_)
        refine g_aload_n X dL_law_1001 0 rfl ?_
        refine g_iload_n X dL_law_1002 3 rfl ?_
        refine g_iconst (v := 2) X dL_law_1003 (by decide) ?_
        refine g_iadd X dL_law_1004 ?_
        refine g_sload X hB hf dL_law_1005 (fun v137 hf => ?_)
        refine g_callV (n := 2) (av := [tI v136, tI v137]) (rest := [tI p135.1]) (k := 12) X hf (fun p138 => (some (tI p138.1), p138.2)) (fun _ q => m_X12_sherdOf q) (gdV tb_1356 tb_1357 tb_1358 tb_12 tb_1359) rfl (by decide +kernel) rfl (by decide) rfl (by decide) (by constructor <;> simp only [room_1] <;> omega) rfl (Nat.le_of_ble_eq_true rfl) dL_law_1006 (fun p138 hf => ?_)
        refine g_icmpeq (tgt := 2138) X hf dL_law_1009 (by decide) (fun hf => ?_) (fun hf => ?_)
        · refine g_iinc (v := (x3 + 7)) (lv' := [(0, tR x0), (1, tR x1), (2, tR x2), (3, tI (x3 + 7))]) X dL_law_2138 3 rfl (by rfl) (by decide) (in_pick [1, 2, 3, 0] rfl) ?_
          refine g_goto (tgt := 18) X dL_law_2141 (by decide) ?_
          refine g_widen (k := (98011 - n * 163)) (n := (2189966 - n * 3633)) (by omega) (by omega) ?_
          exact ih (by omega) x0 x1 x2 (x3 + 7) p138.2 hB hf
        · refine g_iconst (v := 0) X dL_law_1012 (by decide) ?_
          exact g_zreturn X (zW hf) (by decide) (by omega) (by omega) dL_law_1013
      rw [if_neg hs19] at hf
      by_cases hs20 : (v2 &&& 63) = 20
      · rw [if_pos hs20] at hf
        refine g_tabIn (off := 981) (tgt := 1014) X 20 hs20 dL_law_33 (by decide) (by decide) (by decide +kernel) (by decide) ?_
        refine g_aload_n X dL_law_1014 1 rfl ?_
        refine g_aload_n X dL_law_1015 0 rfl ?_
        refine g_iload_n X dL_law_1016 3 rfl ?_
        refine g_iconst (v := 1) X dL_law_1017 (by decide) ?_
        refine g_iadd X dL_law_1018 ?_
        refine g_sload X hB hf dL_law_1019 (fun v139 hf => ?_)
        refine g_aload_n X dL_law_1020 0 rfl ?_
        refine g_iload_n X dL_law_1021 3 rfl ?_
        refine g_iconst (v := 2) X dL_law_1022 (by decide) ?_
        refine g_iadd X dL_law_1023 ?_
        refine g_sload X hB hf dL_law_1024 (fun v140 hf => ?_)
        refine g_callV (n := 2) (av := [tI v139, tI v140]) (rest := []) (k := 11) X hf (fun p141 => (some (tI p141.1), p141.2)) (fun _ q => m_X11_apart q) (gdV tb_643 tb_644 tb_645 tb_1 tb_646) rfl (by decide +kernel) rfl (by decide) rfl (by decide) (by constructor <;> simp only [room_1] <;> omega) rfl (Nat.le_of_ble_eq_true rfl) dL_law_1025 (fun p141 hf => ?_)
        refine g_aload_n X dL_law_1028 2 rfl ?_
        refine g_aload_n X dL_law_1029 0 rfl ?_
        refine g_iload_n X dL_law_1030 3 rfl ?_
        refine g_iconst (v := 1) X dL_law_1031 (by decide) ?_
        refine g_iadd X dL_law_1032 ?_
        refine g_sload X hB hf dL_law_1033 (fun v142 hf => ?_)
        refine g_aload_n X dL_law_1034 0 rfl ?_
        refine g_iload_n X dL_law_1035 3 rfl ?_
        refine g_iconst (v := 2) X dL_law_1036 (by decide) ?_
        refine g_iadd X dL_law_1037 ?_
        refine g_sload X hB hf dL_law_1038 (fun v143 hf => ?_)
        refine g_callV (n := 2) (av := [tI v142, tI v143]) (rest := [tI p141.1]) (k := 12) X hf (fun p144 => (some (tI p144.1), p144.2)) (fun _ q => m_X12_apart q) (gdV tb_1346 tb_1347 tb_1348 tb_12 tb_1349) rfl (by decide +kernel) rfl (by decide) rfl (by decide) (by constructor <;> simp only [room_1] <;> omega) rfl (Nat.le_of_ble_eq_true rfl) dL_law_1039 (fun p144 hf => ?_)
        refine g_icmpeq (tgt := 2138) X hf dL_law_1042 (by decide) (fun hf => ?_) (fun hf => ?_)
        · refine g_iinc (v := (x3 + 7)) (lv' := [(0, tR x0), (1, tR x1), (2, tR x2), (3, tI (x3 + 7))]) X dL_law_2138 3 rfl (by rfl) (by decide) (in_pick [1, 2, 3, 0] rfl) ?_
          refine g_goto (tgt := 18) X dL_law_2141 (by decide) ?_
          refine g_widen (k := (98011 - n * 163)) (n := (2189966 - n * 3633)) (by omega) (by omega) ?_
          exact ih (by omega) x0 x1 x2 (x3 + 7) p144.2 hB hf
        · refine g_iconst (v := 0) X dL_law_1045 (by decide) ?_
          exact g_zreturn X (zW hf) (by decide) (by omega) (by omega) dL_law_1046
      rw [if_neg hs20] at hf
      by_cases hs21 : (v2 &&& 63) = 21
      · rw [if_pos hs21] at hf
        refine g_tabIn (off := 1014) (tgt := 1047) X 21 hs21 dL_law_33 (by decide) (by decide) (by decide +kernel) (by decide) ?_
        refine g_aload_n X dL_law_1047 1 rfl ?_
        refine g_aload_n X dL_law_1048 0 rfl ?_
        refine g_iload_n X dL_law_1049 3 rfl ?_
        refine g_iconst (v := 1) X dL_law_1050 (by decide) ?_
        refine g_iadd X dL_law_1051 ?_
        refine g_sload X hB hf dL_law_1052 (fun v145 hf => ?_)
        refine g_i2l X dL_law_1053 ?_
        refine g_bipush (v := 32) X dL_law_1054 (by decide) ?_
        refine g_lshl X dL_law_1056 ?_
        refine g_aload_n X dL_law_1057 0 rfl ?_
        refine g_iload_n X dL_law_1058 3 rfl ?_
        refine g_iconst (v := 2) X dL_law_1059 (by decide) ?_
        refine g_iadd X dL_law_1060 ?_
        refine g_sload X hB hf dL_law_1061 (fun v146 hf => ?_)
        refine g_i2l X dL_law_1062 ?_
        refine g_ldc2 (v := 4294967295) X dL_law_1063 tb_1644 ?_
        refine g_land X dL_law_1066 ?_
        refine g_lor X dL_law_1067 ?_
        refine g_aload_n X dL_law_1068 0 rfl ?_
        refine g_iload_n X dL_law_1069 3 rfl ?_
        refine g_iconst (v := 3) X dL_law_1070 (by decide) ?_
        refine g_iadd X dL_law_1071 ?_
        refine g_sload X hB hf dL_law_1072 (fun v147 hf => ?_)
        refine g_callV (n := 2) (av := [tL ((((v145 : Int32).toInt64) <<< ((32 : Int32).toInt64 &&& 63)) ||| (((v146 : Int32).toInt64) &&& 4294967295)), tI v147]) (rest := []) (k := 11) X hf (fun p148 => (some (tI p148.1), p148.2)) (fun _ q => m_X11_feed q) (gdV tb_648 tb_649 tb_650 tb_1 tb_651) rfl (by decide +kernel) rfl (by decide) rfl (by decide) (by constructor <;> simp only [room_1] <;> omega) rfl (Nat.le_of_ble_eq_true rfl) dL_law_1073 (fun p148 hf => ?_)
        refine g_aload_n X dL_law_1076 2 rfl ?_
        refine g_aload_n X dL_law_1077 0 rfl ?_
        refine g_iload_n X dL_law_1078 3 rfl ?_
        refine g_iconst (v := 1) X dL_law_1079 (by decide) ?_
        refine g_iadd X dL_law_1080 ?_
        refine g_sload X hB hf dL_law_1081 (fun v149 hf => ?_)
        refine g_i2l X dL_law_1082 ?_
        refine g_bipush (v := 32) X dL_law_1083 (by decide) ?_
        refine g_lshl X dL_law_1085 ?_
        refine g_aload_n X dL_law_1086 0 rfl ?_
        refine g_iload_n X dL_law_1087 3 rfl ?_
        refine g_iconst (v := 2) X dL_law_1088 (by decide) ?_
        refine g_iadd X dL_law_1089 ?_
        refine g_sload X hB hf dL_law_1090 (fun v150 hf => ?_)
        refine g_i2l X dL_law_1091 ?_
        refine g_ldc2 (v := 4294967295) X dL_law_1092 tb_1644 ?_
        refine g_land X dL_law_1095 ?_
        refine g_lor X dL_law_1096 ?_
        refine g_aload_n X dL_law_1097 0 rfl ?_
        refine g_iload_n X dL_law_1098 3 rfl ?_
        refine g_iconst (v := 3) X dL_law_1099 (by decide) ?_
        refine g_iadd X dL_law_1100 ?_
        refine g_sload X hB hf dL_law_1101 (fun v151 hf => ?_)
        refine g_callV (n := 2) (av := [tL ((((v149 : Int32).toInt64) <<< ((32 : Int32).toInt64 &&& 63)) ||| (((v150 : Int32).toInt64) &&& 4294967295)), tI v151]) (rest := [tI p148.1]) (k := 12) X hf (fun p152 => (some (tI p152.1), p152.2)) (fun _ q => m_X12_feed q) (gdV tb_1418 tb_1419 tb_1420 tb_12 tb_1421) rfl (by decide +kernel) rfl (by decide) rfl (by decide) (by constructor <;> simp only [room_1] <;> omega) rfl (Nat.le_of_ble_eq_true rfl) dL_law_1102 (fun p152 hf => ?_)
        refine g_icmpeq (tgt := 2138) X hf dL_law_1105 (by decide) (fun hf => ?_) (fun hf => ?_)
        · refine g_iinc (v := (x3 + 7)) (lv' := [(0, tR x0), (1, tR x1), (2, tR x2), (3, tI (x3 + 7))]) X dL_law_2138 3 rfl (by rfl) (by decide) (in_pick [1, 2, 3, 0] rfl) ?_
          refine g_goto (tgt := 18) X dL_law_2141 (by decide) ?_
          refine g_widen (k := (98011 - n * 163)) (n := (2189966 - n * 3633)) (by omega) (by omega) ?_
          exact ih (by omega) x0 x1 x2 (x3 + 7) p152.2 hB hf
        · refine g_iconst (v := 0) X dL_law_1108 (by decide) ?_
          exact g_zreturn X (zW hf) (by decide) (by omega) (by omega) dL_law_1109
      rw [if_neg hs21] at hf
      by_cases hs22 : (v2 &&& 63) = 22
      · rw [if_pos hs22] at hf
        refine g_tabIn (off := 1077) (tgt := 1110) X 22 hs22 dL_law_33 (by decide) (by decide) (by decide +kernel) (by decide) ?_
        refine g_aload_n X dL_law_1110 1 rfl ?_
        refine g_aload_n X dL_law_1111 0 rfl ?_
        refine g_iload_n X dL_law_1112 3 rfl ?_
        refine g_iconst (v := 1) X dL_law_1113 (by decide) ?_
        refine g_iadd X dL_law_1114 ?_
        refine g_sload X hB hf dL_law_1115 (fun v153 hf => ?_)
        refine g_callV (n := 1) (av := [tI v153]) (rest := []) (k := 11) X hf (fun p154 => (some (tI p154.1), p154.2)) (fun _ q => m_X11_read q) (gdV tb_652 tb_653 tb_654 tb_1 tb_655) rfl (by decide +kernel) rfl (by decide) rfl (by decide) (by constructor <;> simp only [room_1] <;> omega) rfl (Nat.le_of_ble_eq_true rfl) dL_law_1116 (fun p154 hf => ?_)
        refine g_aload_n X dL_law_1119 2 rfl ?_
        refine g_aload_n X dL_law_1120 0 rfl ?_
        refine g_iload_n X dL_law_1121 3 rfl ?_
        refine g_iconst (v := 1) X dL_law_1122 (by decide) ?_
        refine g_iadd X dL_law_1123 ?_
        refine g_sload X hB hf dL_law_1124 (fun v155 hf => ?_)
        refine g_callV (n := 1) (av := [tI v155]) (rest := [tI p154.1]) (k := 12) X hf (fun p156 => (some (tI p156.1), p156.2)) (fun _ q => m_X12_read q) (gdV tb_1423 tb_1424 tb_1425 tb_12 tb_1426) rfl (by decide +kernel) rfl (by decide) rfl (by decide) (by constructor <;> simp only [room_1] <;> omega) rfl (Nat.le_of_ble_eq_true rfl) dL_law_1125 (fun p156 hf => ?_)
        refine g_icmpeq (tgt := 2138) X hf dL_law_1128 (by decide) (fun hf => ?_) (fun hf => ?_)
        · refine g_iinc (v := (x3 + 7)) (lv' := [(0, tR x0), (1, tR x1), (2, tR x2), (3, tI (x3 + 7))]) X dL_law_2138 3 rfl (by rfl) (by decide) (in_pick [1, 2, 3, 0] rfl) ?_
          refine g_goto (tgt := 18) X dL_law_2141 (by decide) ?_
          refine g_widen (k := (98011 - n * 163)) (n := (2189966 - n * 3633)) (by omega) (by omega) ?_
          exact ih (by omega) x0 x1 x2 (x3 + 7) p156.2 hB hf
        · refine g_iconst (v := 0) X dL_law_1131 (by decide) ?_
          exact g_zreturn X (zW hf) (by decide) (by omega) (by omega) dL_law_1132
      rw [if_neg hs22] at hf
      by_cases hs23 : (v2 &&& 63) = 23
      · rw [if_pos hs23] at hf
        refine g_tabIn (off := 1100) (tgt := 1133) X 23 hs23 dL_law_33 (by decide) (by decide) (by decide +kernel) (by decide) ?_
        refine g_aload_n X dL_law_1133 1 rfl ?_
        refine g_aload_n X dL_law_1134 0 rfl ?_
        refine g_iload_n X dL_law_1135 3 rfl ?_
        refine g_iconst (v := 1) X dL_law_1136 (by decide) ?_
        refine g_iadd X dL_law_1137 ?_
        refine g_sload X hB hf dL_law_1138 (fun v157 hf => ?_)
        refine g_callV (n := 1) (av := [tI v157]) (rest := []) (k := 11) X hf (fun p158 => (some (tI p158.1), p158.2)) (fun _ q => m_X11_force q) (gdV tb_771 tb_772 tb_773 tb_1 tb_774) rfl (by decide +kernel) rfl (by decide) rfl (by decide) (by constructor <;> simp only [room_1] <;> omega) rfl (Nat.le_of_ble_eq_true rfl) dL_law_1139 (fun p158 hf => ?_)
        refine g_aload_n X dL_law_1142 2 rfl ?_
        refine g_aload_n X dL_law_1143 0 rfl ?_
        refine g_iload_n X dL_law_1144 3 rfl ?_
        refine g_iconst (v := 1) X dL_law_1145 (by decide) ?_
        refine g_iadd X dL_law_1146 ?_
        refine g_sload X hB hf dL_law_1147 (fun v159 hf => ?_)
        refine g_callV (n := 1) (av := [tI v159]) (rest := [tI p158.1]) (k := 12) X hf (fun p160 => (some (tI p160.1), p160.2)) (fun _ q => m_X12_force q) (gdV tb_1427 tb_1428 tb_1429 tb_12 tb_1430) rfl (by decide +kernel) rfl (by decide) rfl (by decide) (by constructor <;> simp only [room_1] <;> omega) rfl (Nat.le_of_ble_eq_true rfl) dL_law_1148 (fun p160 hf => ?_)
        refine g_icmpeq (tgt := 2138) X hf dL_law_1151 (by decide) (fun hf => ?_) (fun hf => ?_)
        · refine g_iinc (v := (x3 + 7)) (lv' := [(0, tR x0), (1, tR x1), (2, tR x2), (3, tI (x3 + 7))]) X dL_law_2138 3 rfl (by rfl) (by decide) (in_pick [1, 2, 3, 0] rfl) ?_
          refine g_goto (tgt := 18) X dL_law_2141 (by decide) ?_
          refine g_widen (k := (98011 - n * 163)) (n := (2189966 - n * 3633)) (by omega) (by omega) ?_
          exact ih (by omega) x0 x1 x2 (x3 + 7) p160.2 hB hf
        · refine g_iconst (v := 0) X dL_law_1154 (by decide) ?_
          exact g_zreturn X (zW hf) (by decide) (by omega) (by omega) dL_law_1155
      rw [if_neg hs23] at hf
      by_cases hs24 : (v2 &&& 63) = 24
      · rw [if_pos hs24] at hf
        refine g_tabIn (off := 1123) (tgt := 1156) X 24 hs24 dL_law_33 (by decide) (by decide) (by decide +kernel) (by decide) ?_
        refine g_aload_n X dL_law_1156 1 rfl ?_
        refine g_aload_n X dL_law_1157 0 rfl ?_
        refine g_iload_n X dL_law_1158 3 rfl ?_
        refine g_iconst (v := 1) X dL_law_1159 (by decide) ?_
        refine g_iadd X dL_law_1160 ?_
        refine g_sload X hB hf dL_law_1161 (fun v161 hf => ?_)
        refine g_callV (n := 1) (av := [tI v161]) (rest := []) (k := 11) X hf (fun v162 => (some (tI v162), h)) (fun _ q => m_X11_law q) (gdV tb_775 tb_776 tb_777 tb_1 tb_778) rfl (by decide +kernel) rfl (by decide) rfl (by decide) (by constructor <;> simp only [room_1] <;> omega) rfl (Nat.le_of_ble_eq_true rfl) dL_law_1162 (fun v162 hf => ?_)
        refine g_aload_n X dL_law_1165 2 rfl ?_
        refine g_aload_n X dL_law_1166 0 rfl ?_
        refine g_iload_n X dL_law_1167 3 rfl ?_
        refine g_iconst (v := 1) X dL_law_1168 (by decide) ?_
        refine g_iadd X dL_law_1169 ?_
        refine g_sload X hB hf dL_law_1170 (fun v163 hf => ?_)
        refine g_callV (n := 1) (av := [tI v163]) (rest := [tI v162]) (k := 12) X hf (fun p164 => (some (tI p164.1), p164.2)) (fun _ q => m_X12_law q) (gdV tb_1431 tb_1432 tb_1433 tb_12 tb_1434) rfl (by decide +kernel) rfl (by decide) rfl (by decide) (by constructor <;> simp only [room_1] <;> omega) rfl (Nat.le_of_ble_eq_true rfl) dL_law_1171 (fun p164 hf => ?_)
        refine g_icmpeq (tgt := 2138) X hf dL_law_1174 (by decide) (fun hf => ?_) (fun hf => ?_)
        · refine g_iinc (v := (x3 + 7)) (lv' := [(0, tR x0), (1, tR x1), (2, tR x2), (3, tI (x3 + 7))]) X dL_law_2138 3 rfl (by rfl) (by decide) (in_pick [1, 2, 3, 0] rfl) ?_
          refine g_goto (tgt := 18) X dL_law_2141 (by decide) ?_
          refine g_widen (k := (98011 - n * 163)) (n := (2189966 - n * 3633)) (by omega) (by omega) ?_
          exact ih (by omega) x0 x1 x2 (x3 + 7) p164.2 hB hf
        · refine g_iconst (v := 0) X dL_law_1177 (by decide) ?_
          exact g_zreturn X (zW hf) (by decide) (by omega) (by omega) dL_law_1178
      rw [if_neg hs24] at hf
      by_cases hs25 : (v2 &&& 63) = 25
      · rw [if_pos hs25] at hf
        refine g_tabIn (off := 1146) (tgt := 1179) X 25 hs25 dL_law_33 (by decide) (by decide) (by decide +kernel) (by decide) ?_
        refine g_aload_n X dL_law_1179 1 rfl ?_
        refine g_aload_n X dL_law_1180 0 rfl ?_
        refine g_iload_n X dL_law_1181 3 rfl ?_
        refine g_iconst (v := 1) X dL_law_1182 (by decide) ?_
        refine g_iadd X dL_law_1183 ?_
        refine g_sload X hB hf dL_law_1184 (fun v165 hf => ?_)
        refine g_aload_n X dL_law_1185 0 rfl ?_
        refine g_iload_n X dL_law_1186 3 rfl ?_
        refine g_iconst (v := 2) X dL_law_1187 (by decide) ?_
        refine g_iadd X dL_law_1188 ?_
        refine g_sload X hB hf dL_law_1189 (fun v166 hf => ?_)
        refine g_callV (n := 2) (av := [tI v165, tI v166]) (rest := []) (k := 11) X hf (fun p167 => (some (tI p167.1), p167.2)) (fun _ q => m_X11_count q) (gdV tb_780 tb_781 tb_782 tb_1 tb_783) rfl (by decide +kernel) rfl (by decide) rfl (by decide) (by constructor <;> simp only [room_1] <;> omega) rfl (Nat.le_of_ble_eq_true rfl) dL_law_1190 (fun p167 hf => ?_)
        refine g_aload_n X dL_law_1193 2 rfl ?_
        refine g_aload_n X dL_law_1194 0 rfl ?_
        refine g_iload_n X dL_law_1195 3 rfl ?_
        refine g_iconst (v := 1) X dL_law_1196 (by decide) ?_
        refine g_iadd X dL_law_1197 ?_
        refine g_sload X hB hf dL_law_1198 (fun v168 hf => ?_)
        refine g_aload_n X dL_law_1199 0 rfl ?_
        refine g_iload_n X dL_law_1200 3 rfl ?_
        refine g_iconst (v := 2) X dL_law_1201 (by decide) ?_
        refine g_iadd X dL_law_1202 ?_
        refine g_sload X hB hf dL_law_1203 (fun v169 hf => ?_)
        refine g_callV (n := 2) (av := [tI v168, tI v169]) (rest := [tI p167.1]) (k := 12) X hf (fun p170 => (some (tI p170.1), p170.2)) (fun _ q => m_X12_count q) (gdV tb_1438 tb_1439 tb_1440 tb_12 tb_1441) rfl (by decide +kernel) rfl (by decide) rfl (by decide) (by constructor <;> simp only [room_1] <;> omega) rfl (Nat.le_of_ble_eq_true rfl) dL_law_1204 (fun p170 hf => ?_)
        refine g_icmpeq (tgt := 2138) X hf dL_law_1207 (by decide) (fun hf => ?_) (fun hf => ?_)
        · refine g_iinc (v := (x3 + 7)) (lv' := [(0, tR x0), (1, tR x1), (2, tR x2), (3, tI (x3 + 7))]) X dL_law_2138 3 rfl (by rfl) (by decide) (in_pick [1, 2, 3, 0] rfl) ?_
          refine g_goto (tgt := 18) X dL_law_2141 (by decide) ?_
          refine g_widen (k := (98011 - n * 163)) (n := (2189966 - n * 3633)) (by omega) (by omega) ?_
          exact ih (by omega) x0 x1 x2 (x3 + 7) p170.2 hB hf
        · refine g_iconst (v := 0) X dL_law_1210 (by decide) ?_
          exact g_zreturn X (zW hf) (by decide) (by omega) (by omega) dL_law_1211
      rw [if_neg hs25] at hf
      by_cases hs26 : (v2 &&& 63) = 26
      · rw [if_pos hs26] at hf
        refine g_tabIn (off := 1179) (tgt := 1212) X 26 hs26 dL_law_33 (by decide) (by decide) (by decide +kernel) (by decide) ?_
        refine g_aload_n X dL_law_1212 1 rfl ?_
        refine g_aload_n X dL_law_1213 0 rfl ?_
        refine g_iload_n X dL_law_1214 3 rfl ?_
        refine g_iconst (v := 1) X dL_law_1215 (by decide) ?_
        refine g_iadd X dL_law_1216 ?_
        refine g_sload X hB hf dL_law_1217 (fun v171 hf => ?_)
        refine g_aload_n X dL_law_1218 0 rfl ?_
        refine g_iload_n X dL_law_1219 3 rfl ?_
        refine g_iconst (v := 2) X dL_law_1220 (by decide) ?_
        refine g_iadd X dL_law_1221 ?_
        refine g_sload X hB hf dL_law_1222 (fun v172 hf => ?_)
        refine g_aload_n X dL_law_1223 0 rfl ?_
        refine g_iload_n X dL_law_1224 3 rfl ?_
        refine g_iconst (v := 3) X dL_law_1225 (by decide) ?_
        refine g_iadd X dL_law_1226 ?_
        refine g_sload X hB hf dL_law_1227 (fun v173 hf => ?_)
        refine g_ifeq (tgt := 1235) X hf dL_law_1228 (by decide) (fun hf => ?_) (fun hf => ?_)
        · refine g_iconst (v := 0) X dL_law_1235 (by decide) ?_
          refine g_callV (n := 3) (av := [tI v171, tI v172, tI 0]) (rest := []) (k := 11) X hf (fun p174 => (some (tI p174.1), p174.2)) (fun _ q => m_X11_counted q) (gdV tb_842 tb_843 tb_844 tb_1 tb_845) rfl (by decide +kernel) rfl (by decide) rfl (by decide) (by constructor <;> simp only [room_1] <;> omega) rfl (Nat.le_of_ble_eq_true rfl) dL_law_1236 (fun p174 hf => ?_)
          refine g_aload_n X dL_law_1239 2 rfl ?_
          refine g_aload_n X dL_law_1240 0 rfl ?_
          refine g_iload_n X dL_law_1241 3 rfl ?_
          refine g_iconst (v := 1) X dL_law_1242 (by decide) ?_
          refine g_iadd X dL_law_1243 ?_
          refine g_sload X hB hf dL_law_1244 (fun v175 hf => ?_)
          refine g_aload_n X dL_law_1245 0 rfl ?_
          refine g_iload_n X dL_law_1246 3 rfl ?_
          refine g_iconst (v := 2) X dL_law_1247 (by decide) ?_
          refine g_iadd X dL_law_1248 ?_
          refine g_sload X hB hf dL_law_1249 (fun v176 hf => ?_)
          refine g_aload_n X dL_law_1250 0 rfl ?_
          refine g_iload_n X dL_law_1251 3 rfl ?_
          refine g_iconst (v := 3) X dL_law_1252 (by decide) ?_
          refine g_iadd X dL_law_1253 ?_
          refine g_sload X hB hf dL_law_1254 (fun v177 hf => ?_)
          refine g_ifeq (tgt := 1262) X hf dL_law_1255 (by decide) (fun hf => ?_) (fun hf => ?_)
          · refine g_iconst (v := 0) X dL_law_1262 (by decide) ?_
            refine g_callV (n := 3) (av := [tI v175, tI v176, tI 0]) (rest := [tI p174.1]) (k := 12) X hf (fun p178 => (some (tI p178.1), p178.2)) (fun _ q => m_X12_counted q) (gdV tb_1460 tb_1461 tb_1462 tb_12 tb_1463) rfl (by decide +kernel) rfl (by decide) rfl (by decide) (by constructor <;> simp only [room_1] <;> omega) rfl (Nat.le_of_ble_eq_true rfl) dL_law_1263 (fun p178 hf => ?_)
            refine g_icmpeq (tgt := 2138) X hf dL_law_1266 (by decide) (fun hf => ?_) (fun hf => ?_)
            · refine g_iinc (v := (x3 + 7)) (lv' := [(0, tR x0), (1, tR x1), (2, tR x2), (3, tI (x3 + 7))]) X dL_law_2138 3 rfl (by rfl) (by decide) (in_pick [1, 2, 3, 0] rfl) ?_
              refine g_goto (tgt := 18) X dL_law_2141 (by decide) ?_
              refine g_widen (k := (98011 - n * 163)) (n := (2189966 - n * 3633)) (by omega) (by omega) ?_
              exact ih (by omega) x0 x1 x2 (x3 + 7) p178.2 hB hf
            · refine g_iconst (v := 0) X dL_law_1269 (by decide) ?_
              exact g_zreturn X (zW hf) (by decide) (by omega) (by omega) dL_law_1270
          · refine g_iconst (v := 1) X dL_law_1258 (by decide) ?_
            refine g_goto (tgt := 1263) X dL_law_1259 (by decide) ?_
            refine g_callV (n := 3) (av := [tI v175, tI v176, tI 1]) (rest := [tI p174.1]) (k := 12) X hf (fun p179 => (some (tI p179.1), p179.2)) (fun _ q => m_X12_counted q) (gdV tb_1460 tb_1461 tb_1462 tb_12 tb_1463) rfl (by decide +kernel) rfl (by decide) rfl (by decide) (by constructor <;> simp only [room_1] <;> omega) rfl (Nat.le_of_ble_eq_true rfl) dL_law_1263 (fun p179 hf => ?_)
            refine g_icmpeq (tgt := 2138) X hf dL_law_1266 (by decide) (fun hf => ?_) (fun hf => ?_)
            · refine g_iinc (v := (x3 + 7)) (lv' := [(0, tR x0), (1, tR x1), (2, tR x2), (3, tI (x3 + 7))]) X dL_law_2138 3 rfl (by rfl) (by decide) (in_pick [1, 2, 3, 0] rfl) ?_
              refine g_goto (tgt := 18) X dL_law_2141 (by decide) ?_
              refine g_widen (k := (98011 - n * 163)) (n := (2189966 - n * 3633)) (by omega) (by omega) ?_
              exact ih (by omega) x0 x1 x2 (x3 + 7) p179.2 hB hf
            · refine g_iconst (v := 0) X dL_law_1269 (by decide) ?_
              exact g_zreturn X (zW hf) (by decide) (by omega) (by omega) dL_law_1270
        · refine g_iconst (v := 1) X dL_law_1231 (by decide) ?_
          refine g_goto (tgt := 1236) X dL_law_1232 (by decide) ?_
          refine g_callV (n := 3) (av := [tI v171, tI v172, tI 1]) (rest := []) (k := 11) X hf (fun p180 => (some (tI p180.1), p180.2)) (fun _ q => m_X11_counted q) (gdV tb_842 tb_843 tb_844 tb_1 tb_845) rfl (by decide +kernel) rfl (by decide) rfl (by decide) (by constructor <;> simp only [room_1] <;> omega) rfl (Nat.le_of_ble_eq_true rfl) dL_law_1236 (fun p180 hf => ?_)
          refine g_aload_n X dL_law_1239 2 rfl ?_
          refine g_aload_n X dL_law_1240 0 rfl ?_
          refine g_iload_n X dL_law_1241 3 rfl ?_
          refine g_iconst (v := 1) X dL_law_1242 (by decide) ?_
          refine g_iadd X dL_law_1243 ?_
          refine g_sload X hB hf dL_law_1244 (fun v181 hf => ?_)
          refine g_aload_n X dL_law_1245 0 rfl ?_
          refine g_iload_n X dL_law_1246 3 rfl ?_
          refine g_iconst (v := 2) X dL_law_1247 (by decide) ?_
          refine g_iadd X dL_law_1248 ?_
          refine g_sload X hB hf dL_law_1249 (fun v182 hf => ?_)
          refine g_aload_n X dL_law_1250 0 rfl ?_
          refine g_iload_n X dL_law_1251 3 rfl ?_
          refine g_iconst (v := 3) X dL_law_1252 (by decide) ?_
          refine g_iadd X dL_law_1253 ?_
          refine g_sload X hB hf dL_law_1254 (fun v183 hf => ?_)
          refine g_ifeq (tgt := 1262) X hf dL_law_1255 (by decide) (fun hf => ?_) (fun hf => ?_)
          · refine g_iconst (v := 0) X dL_law_1262 (by decide) ?_
            refine g_callV (n := 3) (av := [tI v181, tI v182, tI 0]) (rest := [tI p180.1]) (k := 12) X hf (fun p184 => (some (tI p184.1), p184.2)) (fun _ q => m_X12_counted q) (gdV tb_1460 tb_1461 tb_1462 tb_12 tb_1463) rfl (by decide +kernel) rfl (by decide) rfl (by decide) (by constructor <;> simp only [room_1] <;> omega) rfl (Nat.le_of_ble_eq_true rfl) dL_law_1263 (fun p184 hf => ?_)
            refine g_icmpeq (tgt := 2138) X hf dL_law_1266 (by decide) (fun hf => ?_) (fun hf => ?_)
            · refine g_iinc (v := (x3 + 7)) (lv' := [(0, tR x0), (1, tR x1), (2, tR x2), (3, tI (x3 + 7))]) X dL_law_2138 3 rfl (by rfl) (by decide) (in_pick [1, 2, 3, 0] rfl) ?_
              refine g_goto (tgt := 18) X dL_law_2141 (by decide) ?_
              refine g_widen (k := (98011 - n * 163)) (n := (2189966 - n * 3633)) (by omega) (by omega) ?_
              exact ih (by omega) x0 x1 x2 (x3 + 7) p184.2 hB hf
            · refine g_iconst (v := 0) X dL_law_1269 (by decide) ?_
              exact g_zreturn X (zW hf) (by decide) (by omega) (by omega) dL_law_1270
          · refine g_iconst (v := 1) X dL_law_1258 (by decide) ?_
            refine g_goto (tgt := 1263) X dL_law_1259 (by decide) ?_
            refine g_callV (n := 3) (av := [tI v181, tI v182, tI 1]) (rest := [tI p180.1]) (k := 12) X hf (fun p185 => (some (tI p185.1), p185.2)) (fun _ q => m_X12_counted q) (gdV tb_1460 tb_1461 tb_1462 tb_12 tb_1463) rfl (by decide +kernel) rfl (by decide) rfl (by decide) (by constructor <;> simp only [room_1] <;> omega) rfl (Nat.le_of_ble_eq_true rfl) dL_law_1263 (fun p185 hf => ?_)
            refine g_icmpeq (tgt := 2138) X hf dL_law_1266 (by decide) (fun hf => ?_) (fun hf => ?_)
            · refine g_iinc (v := (x3 + 7)) (lv' := [(0, tR x0), (1, tR x1), (2, tR x2), (3, tI (x3 + 7))]) X dL_law_2138 3 rfl (by rfl) (by decide) (in_pick [1, 2, 3, 0] rfl) ?_
              refine g_goto (tgt := 18) X dL_law_2141 (by decide) ?_
              refine g_widen (k := (98011 - n * 163)) (n := (2189966 - n * 3633)) (by omega) (by omega) ?_
              exact ih (by omega) x0 x1 x2 (x3 + 7) p185.2 hB hf
            · refine g_iconst (v := 0) X dL_law_1269 (by decide) ?_
              exact g_zreturn X (zW hf) (by decide) (by omega) (by omega) dL_law_1270
      rw [if_neg hs26] at hf
      by_cases hs27 : (v2 &&& 63) = 27
      · rw [if_pos hs27] at hf
        refine g_tabIn (off := 1238) (tgt := 1271) X 27 hs27 dL_law_33 (by decide) (by decide) (by decide +kernel) (by decide) ?_
        refine g_aload_n X dL_law_1271 1 rfl ?_
        refine g_aload_n X dL_law_1272 0 rfl ?_
        refine g_iload_n X dL_law_1273 3 rfl ?_
        refine g_iconst (v := 1) X dL_law_1274 (by decide) ?_
        refine g_iadd X dL_law_1275 ?_
        refine g_sload X hB hf dL_law_1276 (fun v186 hf => ?_)
        refine g_aload_n X dL_law_1277 0 rfl ?_
        refine g_iload_n X dL_law_1278 3 rfl ?_
        refine g_iconst (v := 2) X dL_law_1279 (by decide) ?_
        refine g_iadd X dL_law_1280 ?_
        refine g_sload X hB hf dL_law_1281 (fun v187 hf => ?_)
        refine g_aload_n X dL_law_1282 0 rfl ?_
        refine g_iload_n X dL_law_1283 3 rfl ?_
        refine g_iconst (v := 3) X dL_law_1284 (by decide) ?_
        refine g_iadd X dL_law_1285 ?_
        refine g_sload X hB hf dL_law_1286 (fun v188 hf => ?_)
        refine g_callV (n := 3) (av := [tI v186, tI v187, tI v188]) (rest := []) (k := 11) X hf (fun p189 => (some (tI p189.1), p189.2)) (fun _ q => m_X11_tally q) (gdV tb_846 tb_847 tb_848 tb_1 tb_849) rfl (by decide +kernel) rfl (by decide) rfl (by decide) (by constructor <;> simp only [room_1] <;> omega) rfl (Nat.le_of_ble_eq_true rfl) dL_law_1287 (fun p189 hf => ?_)
        refine g_aload_n X dL_law_1290 2 rfl ?_
        refine g_aload_n X dL_law_1291 0 rfl ?_
        refine g_iload_n X dL_law_1292 3 rfl ?_
        refine g_iconst (v := 1) X dL_law_1293 (by decide) ?_
        refine g_iadd X dL_law_1294 ?_
        refine g_sload X hB hf dL_law_1295 (fun v190 hf => ?_)
        refine g_aload_n X dL_law_1296 0 rfl ?_
        refine g_iload_n X dL_law_1297 3 rfl ?_
        refine g_iconst (v := 2) X dL_law_1298 (by decide) ?_
        refine g_iadd X dL_law_1299 ?_
        refine g_sload X hB hf dL_law_1300 (fun v191 hf => ?_)
        refine g_aload_n X dL_law_1301 0 rfl ?_
        refine g_iload_n X dL_law_1302 3 rfl ?_
        refine g_iconst (v := 3) X dL_law_1303 (by decide) ?_
        refine g_iadd X dL_law_1304 ?_
        refine g_sload X hB hf dL_law_1305 (fun v192 hf => ?_)
        refine g_callV (n := 3) (av := [tI v190, tI v191, tI v192]) (rest := [tI p189.1]) (k := 12) X hf (fun p193 => (some (tI p193.1), p193.2)) (fun _ q => m_X12_tally q) (gdV tb_1464 tb_1465 tb_1466 tb_12 tb_1467) rfl (by decide +kernel) rfl (by decide) rfl (by decide) (by constructor <;> simp only [room_1] <;> omega) rfl (Nat.le_of_ble_eq_true rfl) dL_law_1306 (fun p193 hf => ?_)
        refine g_icmpeq (tgt := 2138) X hf dL_law_1309 (by decide) (fun hf => ?_) (fun hf => ?_)
        · refine g_iinc (v := (x3 + 7)) (lv' := [(0, tR x0), (1, tR x1), (2, tR x2), (3, tI (x3 + 7))]) X dL_law_2138 3 rfl (by rfl) (by decide) (in_pick [1, 2, 3, 0] rfl) ?_
          refine g_goto (tgt := 18) X dL_law_2141 (by decide) ?_
          refine g_widen (k := (98011 - n * 163)) (n := (2189966 - n * 3633)) (by omega) (by omega) ?_
          exact ih (by omega) x0 x1 x2 (x3 + 7) p193.2 hB hf
        · refine g_iconst (v := 0) X dL_law_1312 (by decide) ?_
          exact g_zreturn X (zW hf) (by decide) (by omega) (by omega) dL_law_1313
      rw [if_neg hs27] at hf
      by_cases hs28 : (v2 &&& 63) = 28
      · rw [if_pos hs28] at hf
        refine g_tabIn (off := 1281) (tgt := 1314) X 28 hs28 dL_law_33 (by decide) (by decide) (by decide +kernel) (by decide) ?_
        refine g_aload_n X dL_law_1314 1 rfl ?_
        refine g_aload_n X dL_law_1315 0 rfl ?_
        refine g_iload_n X dL_law_1316 3 rfl ?_
        refine g_iconst (v := 1) X dL_law_1317 (by decide) ?_
        refine g_iadd X dL_law_1318 ?_
        refine g_sload X hB hf dL_law_1319 (fun v194 hf => ?_)
        refine g_callV (n := 1) (av := [tI v194]) (rest := []) (k := 11) X hf (fun p195 => (some (tI p195.1), p195.2)) (fun _ q => m_X11_tallies q) (gdV tb_850 tb_851 tb_852 tb_1 tb_853) rfl (by decide +kernel) rfl (by decide) rfl (by decide) (by constructor <;> simp only [room_1] <;> omega) rfl (Nat.le_of_ble_eq_true rfl) dL_law_1320 (fun p195 hf => ?_)
        refine g_aload_n X dL_law_1323 2 rfl ?_
        refine g_aload_n X dL_law_1324 0 rfl ?_
        refine g_iload_n X dL_law_1325 3 rfl ?_
        refine g_iconst (v := 1) X dL_law_1326 (by decide) ?_
        refine g_iadd X dL_law_1327 ?_
        refine g_sload X hB hf dL_law_1328 (fun v196 hf => ?_)
        refine g_callV (n := 1) (av := [tI v196]) (rest := [tI p195.1]) (k := 12) X hf (fun p197 => (some (tI p197.1), p197.2)) (fun _ q => m_X12_tallies q) (gdV tb_1468 tb_1469 tb_1470 tb_12 tb_1471) rfl (by decide +kernel) rfl (by decide) rfl (by decide) (by constructor <;> simp only [room_1] <;> omega) rfl (Nat.le_of_ble_eq_true rfl) dL_law_1329 (fun p197 hf => ?_)
        refine g_icmpeq (tgt := 2138) X hf dL_law_1332 (by decide) (fun hf => ?_) (fun hf => ?_)
        · refine g_iinc (v := (x3 + 7)) (lv' := [(0, tR x0), (1, tR x1), (2, tR x2), (3, tI (x3 + 7))]) X dL_law_2138 3 rfl (by rfl) (by decide) (in_pick [1, 2, 3, 0] rfl) ?_
          refine g_goto (tgt := 18) X dL_law_2141 (by decide) ?_
          refine g_widen (k := (98011 - n * 163)) (n := (2189966 - n * 3633)) (by omega) (by omega) ?_
          exact ih (by omega) x0 x1 x2 (x3 + 7) p197.2 hB hf
        · refine g_iconst (v := 0) X dL_law_1335 (by decide) ?_
          exact g_zreturn X (zW hf) (by decide) (by omega) (by omega) dL_law_1336
      rw [if_neg hs28] at hf
      by_cases hs29 : (v2 &&& 63) = 29
      · rw [if_pos hs29] at hf
        refine g_tabIn (off := 1304) (tgt := 1337) X 29 hs29 dL_law_33 (by decide) (by decide) (by decide +kernel) (by decide) ?_
        refine g_aload_n X dL_law_1337 1 rfl ?_
        refine g_callV (n := 0) (av := []) (rest := []) (k := 11) X hf (fun p198 => (some (tI p198.1), p198.2)) (fun _ q => m_X11_send q) (gdV tb_865 tb_866 tb_867 tb_1 tb_868) rfl (by decide +kernel) rfl (by decide) rfl (by decide) (by constructor <;> simp only [room_1] <;> omega) rfl (Nat.le_of_ble_eq_true rfl) dL_law_1338 (fun p198 hf => ?_)
        refine g_aload_n X dL_law_1341 2 rfl ?_
        refine g_callV (n := 0) (av := []) (rest := [tI p198.1]) (k := 12) X hf (fun p199 => (some (tI p199.1), p199.2)) (fun _ q => m_X12_send q) (gdV tb_1472 tb_1473 tb_1474 tb_12 tb_1475) rfl (by decide +kernel) rfl (by decide) rfl (by decide) (by constructor <;> simp only [room_1] <;> omega) rfl (Nat.le_of_ble_eq_true rfl) dL_law_1342 (fun p199 hf => ?_)
        refine g_icmpeq (tgt := 2138) X hf dL_law_1345 (by decide) (fun hf => ?_) (fun hf => ?_)
        · refine g_iinc (v := (x3 + 7)) (lv' := [(0, tR x0), (1, tR x1), (2, tR x2), (3, tI (x3 + 7))]) X dL_law_2138 3 rfl (by rfl) (by decide) (in_pick [1, 2, 3, 0] rfl) ?_
          refine g_goto (tgt := 18) X dL_law_2141 (by decide) ?_
          refine g_widen (k := (98011 - n * 163)) (n := (2189966 - n * 3633)) (by omega) (by omega) ?_
          exact ih (by omega) x0 x1 x2 (x3 + 7) p199.2 hB hf
        · refine g_iconst (v := 0) X dL_law_1348 (by decide) ?_
          exact g_zreturn X (zW hf) (by decide) (by omega) (by omega) dL_law_1349
      rw [if_neg hs29] at hf
      by_cases hs30 : (v2 &&& 63) = 30
      · rw [if_pos hs30] at hf
        refine g_tabIn (off := 1317) (tgt := 1350) X 30 hs30 dL_law_33 (by decide) (by decide) (by decide +kernel) (by decide) ?_
        refine g_aload_n X dL_law_1350 1 rfl ?_
        refine g_aload_n X dL_law_1351 0 rfl ?_
        refine g_iload_n X dL_law_1352 3 rfl ?_
        refine g_iconst (v := 1) X dL_law_1353 (by decide) ?_
        refine g_iadd X dL_law_1354 ?_
        refine g_sload X hB hf dL_law_1355 (fun v200 hf => ?_)
        refine g_aload_n X dL_law_1356 0 rfl ?_
        refine g_iload_n X dL_law_1357 3 rfl ?_
        refine g_iconst (v := 2) X dL_law_1358 (by decide) ?_
        refine g_iadd X dL_law_1359 ?_
        refine g_sload X hB hf dL_law_1360 (fun v201 hf => ?_)
        refine g_aload_n X dL_law_1361 0 rfl ?_
        refine g_iload_n X dL_law_1362 3 rfl ?_
        refine g_iconst (v := 3) X dL_law_1363 (by decide) ?_
        refine g_iadd X dL_law_1364 ?_
        refine g_sload X hB hf dL_law_1365 (fun v202 hf => ?_)
        refine g_callV (n := 3) (av := [tI v200, tI v201, tI v202]) (rest := []) (k := 11) X hf (fun p203 => (some (tI p203.1), p203.2)) (fun _ q => m_X11_recall q) (gdV tb_869 tb_870 tb_871 tb_1 tb_872) rfl (by decide +kernel) rfl (by decide) rfl (by decide) (by constructor <;> simp only [room_1] <;> omega) rfl (Nat.le_of_ble_eq_true rfl) dL_law_1366 (fun p203 hf => ?_)
        refine g_aload_n X dL_law_1369 2 rfl ?_
        refine g_aload_n X dL_law_1370 0 rfl ?_
        refine g_iload_n X dL_law_1371 3 rfl ?_
        refine g_iconst (v := 1) X dL_law_1372 (by decide) ?_
        refine g_iadd X dL_law_1373 ?_
        refine g_sload X hB hf dL_law_1374 (fun v204 hf => ?_)
        refine g_aload_n X dL_law_1375 0 rfl ?_
        refine g_iload_n X dL_law_1376 3 rfl ?_
        refine g_iconst (v := 2) X dL_law_1377 (by decide) ?_
        refine g_iadd X dL_law_1378 ?_
        refine g_sload X hB hf dL_law_1379 (fun v205 hf => ?_)
        refine g_aload_n X dL_law_1380 0 rfl ?_
        refine g_iload_n X dL_law_1381 3 rfl ?_
        refine g_iconst (v := 3) X dL_law_1382 (by decide) ?_
        refine g_iadd X dL_law_1383 ?_
        refine g_sload X hB hf dL_law_1384 (fun v206 hf => ?_)
        refine g_callV (n := 3) (av := [tI v204, tI v205, tI v206]) (rest := [tI p203.1]) (k := 12) X hf (fun p207 => (some (tI p207.1), p207.2)) (fun _ q => m_X12_recall q) (gdV tb_1476 tb_1477 tb_1478 tb_12 tb_1479) rfl (by decide +kernel) rfl (by decide) rfl (by decide) (by constructor <;> simp only [room_1] <;> omega) rfl (Nat.le_of_ble_eq_true rfl) dL_law_1385 (fun p207 hf => ?_)
        refine g_icmpeq (tgt := 2138) X hf dL_law_1388 (by decide) (fun hf => ?_) (fun hf => ?_)
        · refine g_iinc (v := (x3 + 7)) (lv' := [(0, tR x0), (1, tR x1), (2, tR x2), (3, tI (x3 + 7))]) X dL_law_2138 3 rfl (by rfl) (by decide) (in_pick [1, 2, 3, 0] rfl) ?_
          refine g_goto (tgt := 18) X dL_law_2141 (by decide) ?_
          refine g_widen (k := (98011 - n * 163)) (n := (2189966 - n * 3633)) (by omega) (by omega) ?_
          exact ih (by omega) x0 x1 x2 (x3 + 7) p207.2 hB hf
        · refine g_iconst (v := 0) X dL_law_1391 (by decide) ?_
          exact g_zreturn X (zW hf) (by decide) (by omega) (by omega) dL_law_1392
      rw [if_neg hs30] at hf
      by_cases hs31 : (v2 &&& 63) = 31
      · rw [if_pos hs31] at hf
        refine g_tabIn (off := 1360) (tgt := 1393) X 31 hs31 dL_law_33 (by decide) (by decide) (by decide +kernel) (by decide) ?_
        refine g_aload_n X dL_law_1393 1 rfl ?_
        refine g_aload_n X dL_law_1394 0 rfl ?_
        refine g_iload_n X dL_law_1395 3 rfl ?_
        refine g_iconst (v := 1) X dL_law_1396 (by decide) ?_
        refine g_iadd X dL_law_1397 ?_
        refine g_sload X hB hf dL_law_1398 (fun v208 hf => ?_)
        refine g_aload_n X dL_law_1399 0 rfl ?_
        refine g_iload_n X dL_law_1400 3 rfl ?_
        refine g_iconst (v := 2) X dL_law_1401 (by decide) ?_
        refine g_iadd X dL_law_1402 ?_
        refine g_sload X hB hf dL_law_1403 (fun v209 hf => ?_)
        refine g_callV (n := 2) (av := [tI v208, tI v209]) (rest := []) (k := 11) X hf (fun p210 => (some (tI p210.1), p210.2)) (fun _ q => m_X11_may q) (gdV tb_877 tb_878 tb_879 tb_1 tb_880) rfl (by decide +kernel) rfl (by decide) rfl (by decide) (by constructor <;> simp only [room_1] <;> omega) rfl (Nat.le_of_ble_eq_true rfl) dL_law_1404 (fun p210 hf => ?_)
        refine g_aload_n X dL_law_1407 2 rfl ?_
        refine g_aload_n X dL_law_1408 0 rfl ?_
        refine g_iload_n X dL_law_1409 3 rfl ?_
        refine g_iconst (v := 1) X dL_law_1410 (by decide) ?_
        refine g_iadd X dL_law_1411 ?_
        refine g_sload X hB hf dL_law_1412 (fun v211 hf => ?_)
        refine g_aload_n X dL_law_1413 0 rfl ?_
        refine g_iload_n X dL_law_1414 3 rfl ?_
        refine g_iconst (v := 2) X dL_law_1415 (by decide) ?_
        refine g_iadd X dL_law_1416 ?_
        refine g_sload X hB hf dL_law_1417 (fun v212 hf => ?_)
        refine g_callV (n := 2) (av := [tI v211, tI v212]) (rest := [tI p210.1]) (k := 12) X hf (fun p213 => (some (tI p213.1), p213.2)) (fun _ q => m_X12_may q) (gdV tb_1480 tb_1481 tb_1482 tb_12 tb_1483) rfl (by decide +kernel) rfl (by decide) rfl (by decide) (by constructor <;> simp only [room_1] <;> omega) rfl (Nat.le_of_ble_eq_true rfl) dL_law_1418 (fun p213 hf => ?_)
        refine g_icmpeq (tgt := 2138) X hf dL_law_1421 (by decide) (fun hf => ?_) (fun hf => ?_)
        · refine g_iinc (v := (x3 + 7)) (lv' := [(0, tR x0), (1, tR x1), (2, tR x2), (3, tI (x3 + 7))]) X dL_law_2138 3 rfl (by rfl) (by decide) (in_pick [1, 2, 3, 0] rfl) ?_
          refine g_goto (tgt := 18) X dL_law_2141 (by decide) ?_
          refine g_widen (k := (98011 - n * 163)) (n := (2189966 - n * 3633)) (by omega) (by omega) ?_
          exact ih (by omega) x0 x1 x2 (x3 + 7) p213.2 hB hf
        · refine g_iconst (v := 0) X dL_law_1424 (by decide) ?_
          exact g_zreturn X (zW hf) (by decide) (by omega) (by omega) dL_law_1425
      rw [if_neg hs31] at hf
      by_cases hs32 : (v2 &&& 63) = 32
      · rw [if_pos hs32] at hf
        refine g_tabIn (off := 1393) (tgt := 1426) X 32 hs32 dL_law_33 (by decide) (by decide) (by decide +kernel) (by decide) ?_
        refine g_aload_n X dL_law_1426 1 rfl ?_
        refine g_aload_n X dL_law_1427 0 rfl ?_
        refine g_iload_n X dL_law_1428 3 rfl ?_
        refine g_iconst (v := 1) X dL_law_1429 (by decide) ?_
        refine g_iadd X dL_law_1430 ?_
        refine g_sload X hB hf dL_law_1431 (fun v214 hf => ?_)
        refine g_aload_n X dL_law_1432 0 rfl ?_
        refine g_iload_n X dL_law_1433 3 rfl ?_
        refine g_iconst (v := 2) X dL_law_1434 (by decide) ?_
        refine g_iadd X dL_law_1435 ?_
        refine g_sload X hB hf dL_law_1436 (fun v215 hf => ?_)
        refine g_callV (n := 2) (av := [tI v214, tI v215]) (rest := []) (k := 11) X hf (fun p216 => (some (tI p216.1), p216.2)) (fun _ q => m_X11_beside q) (gdV tb_885 tb_886 tb_887 tb_1 tb_888) rfl (by decide +kernel) rfl (by decide) rfl (by decide) (by constructor <;> simp only [room_1] <;> omega) rfl (Nat.le_of_ble_eq_true rfl) dL_law_1437 (fun p216 hf => ?_)
        refine g_aload_n X dL_law_1440 2 rfl ?_
        refine g_aload_n X dL_law_1441 0 rfl ?_
        refine g_iload_n X dL_law_1442 3 rfl ?_
        refine g_iconst (v := 1) X dL_law_1443 (by decide) ?_
        refine g_iadd X dL_law_1444 ?_
        refine g_sload X hB hf dL_law_1445 (fun v217 hf => ?_)
        refine g_aload_n X dL_law_1446 0 rfl ?_
        refine g_iload_n X dL_law_1447 3 rfl ?_
        refine g_iconst (v := 2) X dL_law_1448 (by decide) ?_
        refine g_iadd X dL_law_1449 ?_
        refine g_sload X hB hf dL_law_1450 (fun v218 hf => ?_)
        refine g_callV (n := 2) (av := [tI v217, tI v218]) (rest := [tI p216.1]) (k := 12) X hf (fun p219 => (some (tI p219.1), p219.2)) (fun _ q => m_X12_beside q) (gdV tb_1484 tb_1485 tb_1486 tb_12 tb_1487) rfl (by decide +kernel) rfl (by decide) rfl (by decide) (by constructor <;> simp only [room_1] <;> omega) rfl (Nat.le_of_ble_eq_true rfl) dL_law_1451 (fun p219 hf => ?_)
        refine g_icmpeq (tgt := 2138) X hf dL_law_1454 (by decide) (fun hf => ?_) (fun hf => ?_)
        · refine g_iinc (v := (x3 + 7)) (lv' := [(0, tR x0), (1, tR x1), (2, tR x2), (3, tI (x3 + 7))]) X dL_law_2138 3 rfl (by rfl) (by decide) (in_pick [1, 2, 3, 0] rfl) ?_
          refine g_goto (tgt := 18) X dL_law_2141 (by decide) ?_
          refine g_widen (k := (98011 - n * 163)) (n := (2189966 - n * 3633)) (by omega) (by omega) ?_
          exact ih (by omega) x0 x1 x2 (x3 + 7) p219.2 hB hf
        · refine g_iconst (v := 0) X dL_law_1457 (by decide) ?_
          exact g_zreturn X (zW hf) (by decide) (by omega) (by omega) dL_law_1458
      rw [if_neg hs32] at hf
      by_cases hs33 : (v2 &&& 63) = 33
      · rw [if_pos hs33] at hf
        refine g_tabIn (off := 1426) (tgt := 1459) X 33 hs33 dL_law_33 (by decide) (by decide) (by decide +kernel) (by decide) ?_
        refine g_aload_n X dL_law_1459 1 rfl ?_
        refine g_aload_n X dL_law_1460 0 rfl ?_
        refine g_iload_n X dL_law_1461 3 rfl ?_
        refine g_iconst (v := 1) X dL_law_1462 (by decide) ?_
        refine g_iadd X dL_law_1463 ?_
        refine g_sload X hB hf dL_law_1464 (fun v220 hf => ?_)
        refine g_callV (n := 1) (av := [tI v220]) (rest := []) (k := 11) X hf (fun p221 => (some (tI p221.1), p221.2)) (fun _ q => m_X11_keptBy q) (gdV tb_897 tb_898 tb_899 tb_1 tb_900) rfl (by decide +kernel) rfl (by decide) rfl (by decide) (by constructor <;> simp only [room_1] <;> omega) rfl (Nat.le_of_ble_eq_true rfl) dL_law_1465 (fun p221 hf => ?_)
        refine g_aload_n X dL_law_1468 2 rfl ?_
        refine g_aload_n X dL_law_1469 0 rfl ?_
        refine g_iload_n X dL_law_1470 3 rfl ?_
        refine g_iconst (v := 1) X dL_law_1471 (by decide) ?_
        refine g_iadd X dL_law_1472 ?_
        refine g_sload X hB hf dL_law_1473 (fun v222 hf => ?_)
        refine g_callV (n := 1) (av := [tI v222]) (rest := [tI p221.1]) (k := 12) X hf (fun p223 => (some (tI p223.1), p223.2)) (fun _ q => m_X12_keptBy q) (gdV tb_1494 tb_1495 tb_1496 tb_12 tb_1497) rfl (by decide +kernel) rfl (by decide) rfl (by decide) (by constructor <;> simp only [room_1] <;> omega) rfl (Nat.le_of_ble_eq_true rfl) dL_law_1474 (fun p223 hf => ?_)
        refine g_icmpeq (tgt := 2138) X hf dL_law_1477 (by decide) (fun hf => ?_) (fun hf => ?_)
        · refine g_iinc (v := (x3 + 7)) (lv' := [(0, tR x0), (1, tR x1), (2, tR x2), (3, tI (x3 + 7))]) X dL_law_2138 3 rfl (by rfl) (by decide) (in_pick [1, 2, 3, 0] rfl) ?_
          refine g_goto (tgt := 18) X dL_law_2141 (by decide) ?_
          refine g_widen (k := (98011 - n * 163)) (n := (2189966 - n * 3633)) (by omega) (by omega) ?_
          exact ih (by omega) x0 x1 x2 (x3 + 7) p223.2 hB hf
        · refine g_iconst (v := 0) X dL_law_1480 (by decide) ?_
          exact g_zreturn X (zW hf) (by decide) (by omega) (by omega) dL_law_1481
      rw [if_neg hs33] at hf
      by_cases hs34 : (v2 &&& 63) = 34
      · rw [if_pos hs34] at hf
        refine g_tabIn (off := 1449) (tgt := 1482) X 34 hs34 dL_law_33 (by decide) (by decide) (by decide +kernel) (by decide) ?_
        refine g_aload_n X dL_law_1482 1 rfl ?_
        refine g_aload_n X dL_law_1483 0 rfl ?_
        refine g_iload_n X dL_law_1484 3 rfl ?_
        refine g_iconst (v := 1) X dL_law_1485 (by decide) ?_
        refine g_iadd X dL_law_1486 ?_
        refine g_sload X hB hf dL_law_1487 (fun v224 hf => ?_)
        refine g_aload_n X dL_law_1488 0 rfl ?_
        refine g_iload_n X dL_law_1489 3 rfl ?_
        refine g_iconst (v := 2) X dL_law_1490 (by decide) ?_
        refine g_iadd X dL_law_1491 ?_
        refine g_sload X hB hf dL_law_1492 (fun v225 hf => ?_)
        refine g_callV (n := 2) (av := [tI v224, tI v225]) (rest := []) (k := 11) X hf (fun p226 => (some (tI p226.1), p226.2)) (fun _ q => m_X11_broken q) (gdV tb_901 tb_902 tb_903 tb_1 tb_904) rfl (by decide +kernel) rfl (by decide) rfl (by decide) (by constructor <;> simp only [room_1] <;> omega) rfl (Nat.le_of_ble_eq_true rfl) dL_law_1493 (fun p226 hf => ?_)
        refine g_aload_n X dL_law_1496 2 rfl ?_
        refine g_aload_n X dL_law_1497 0 rfl ?_
        refine g_iload_n X dL_law_1498 3 rfl ?_
        refine g_iconst (v := 1) X dL_law_1499 (by decide) ?_
        refine g_iadd X dL_law_1500 ?_
        refine g_sload X hB hf dL_law_1501 (fun v227 hf => ?_)
        refine g_aload_n X dL_law_1502 0 rfl ?_
        refine g_iload_n X dL_law_1503 3 rfl ?_
        refine g_iconst (v := 2) X dL_law_1504 (by decide) ?_
        refine g_iadd X dL_law_1505 ?_
        refine g_sload X hB hf dL_law_1506 (fun v228 hf => ?_)
        refine g_callV (n := 2) (av := [tI v227, tI v228]) (rest := [tI p226.1]) (k := 12) X hf (fun p229 => (some (tI p229.1), p229.2)) (fun _ q => m_X12_broken q) (gdV tb_1498 tb_1499 tb_1500 tb_12 tb_1501) rfl (by decide +kernel) rfl (by decide) rfl (by decide) (by constructor <;> simp only [room_1] <;> omega) rfl (Nat.le_of_ble_eq_true rfl) dL_law_1507 (fun p229 hf => ?_)
        refine g_icmpeq (tgt := 2138) X hf dL_law_1510 (by decide) (fun hf => ?_) (fun hf => ?_)
        · refine g_iinc (v := (x3 + 7)) (lv' := [(0, tR x0), (1, tR x1), (2, tR x2), (3, tI (x3 + 7))]) X dL_law_2138 3 rfl (by rfl) (by decide) (in_pick [1, 2, 3, 0] rfl) ?_
          refine g_goto (tgt := 18) X dL_law_2141 (by decide) ?_
          refine g_widen (k := (98011 - n * 163)) (n := (2189966 - n * 3633)) (by omega) (by omega) ?_
          exact ih (by omega) x0 x1 x2 (x3 + 7) p229.2 hB hf
        · refine g_iconst (v := 0) X dL_law_1513 (by decide) ?_
          exact g_zreturn X (zW hf) (by decide) (by omega) (by omega) dL_law_1514
      rw [if_neg hs34] at hf
      by_cases hs35 : (v2 &&& 63) = 35
      · rw [if_pos hs35] at hf
        refine g_tabIn (off := 1482) (tgt := 1515) X 35 hs35 dL_law_33 (by decide) (by decide) (by decide +kernel) (by decide) ?_
        refine g_aload_n X dL_law_1515 1 rfl ?_
        refine g_aload_n X dL_law_1516 0 rfl ?_
        refine g_iload_n X dL_law_1517 3 rfl ?_
        refine g_iconst (v := 1) X dL_law_1518 (by decide) ?_
        refine g_iadd X dL_law_1519 ?_
        refine g_sload X hB hf dL_law_1520 (fun v230 hf => ?_)
        refine g_aload_n X dL_law_1521 0 rfl ?_
        refine g_iload_n X dL_law_1522 3 rfl ?_
        refine g_iconst (v := 2) X dL_law_1523 (by decide) ?_
        refine g_iadd X dL_law_1524 ?_
        refine g_sload X hB hf dL_law_1525 (fun v231 hf => ?_)
        refine g_callV (n := 2) (av := [tI v230, tI v231]) (rest := []) (k := 11) X hf (fun p232 => (some (tI p232.1), p232.2)) (fun _ q => m_X11_turn q) (gdV tb_905 tb_906 tb_907 tb_1 tb_908) rfl (by decide +kernel) rfl (by decide) rfl (by decide) (by constructor <;> simp only [room_1] <;> omega) rfl (Nat.le_of_ble_eq_true rfl) dL_law_1526 (fun p232 hf => ?_)
        refine g_aload_n X dL_law_1529 2 rfl ?_
        refine g_aload_n X dL_law_1530 0 rfl ?_
        refine g_iload_n X dL_law_1531 3 rfl ?_
        refine g_iconst (v := 1) X dL_law_1532 (by decide) ?_
        refine g_iadd X dL_law_1533 ?_
        refine g_sload X hB hf dL_law_1534 (fun v233 hf => ?_)
        refine g_aload_n X dL_law_1535 0 rfl ?_
        refine g_iload_n X dL_law_1536 3 rfl ?_
        refine g_iconst (v := 2) X dL_law_1537 (by decide) ?_
        refine g_iadd X dL_law_1538 ?_
        refine g_sload X hB hf dL_law_1539 (fun v234 hf => ?_)
        refine g_callV (n := 2) (av := [tI v233, tI v234]) (rest := [tI p232.1]) (k := 12) X hf (fun p235 => (some (tI p235.1), p235.2)) (fun _ q => m_X12_turn q) (gdV tb_1502 tb_1503 tb_1504 tb_12 tb_1505) rfl (by decide +kernel) rfl (by decide) rfl (by decide) (by constructor <;> simp only [room_1] <;> omega) rfl (Nat.le_of_ble_eq_true rfl) dL_law_1540 (fun p235 hf => ?_)
        refine g_icmpeq (tgt := 2138) X hf dL_law_1543 (by decide) (fun hf => ?_) (fun hf => ?_)
        · refine g_iinc (v := (x3 + 7)) (lv' := [(0, tR x0), (1, tR x1), (2, tR x2), (3, tI (x3 + 7))]) X dL_law_2138 3 rfl (by rfl) (by decide) (in_pick [1, 2, 3, 0] rfl) ?_
          refine g_goto (tgt := 18) X dL_law_2141 (by decide) ?_
          refine g_widen (k := (98011 - n * 163)) (n := (2189966 - n * 3633)) (by omega) (by omega) ?_
          exact ih (by omega) x0 x1 x2 (x3 + 7) p235.2 hB hf
        · refine g_iconst (v := 0) X dL_law_1546 (by decide) ?_
          exact g_zreturn X (zW hf) (by decide) (by omega) (by omega) dL_law_1547
      rw [if_neg hs35] at hf
      by_cases hs36 : (v2 &&& 63) = 36
      · rw [if_pos hs36] at hf
        refine g_tabIn (off := 1515) (tgt := 1548) X 36 hs36 dL_law_33 (by decide) (by decide) (by decide +kernel) (by decide) ?_
        refine g_aload_n X dL_law_1548 1 rfl ?_
        refine g_aload_n X dL_law_1549 0 rfl ?_
        refine g_iload_n X dL_law_1550 3 rfl ?_
        refine g_iconst (v := 1) X dL_law_1551 (by decide) ?_
        refine g_iadd X dL_law_1552 ?_
        refine g_sload X hB hf dL_law_1553 (fun v236 hf => ?_)
        refine g_callV (n := 1) (av := [tI v236]) (rest := []) (k := 11) X hf (fun p237 => (some (tI p237.1), p237.2)) (fun _ q => m_X11_prove q) (gdV tb_919 tb_920 tb_921 tb_1 tb_922) rfl (by decide +kernel) rfl (by decide) rfl (by decide) (by constructor <;> simp only [room_1] <;> omega) rfl (Nat.le_of_ble_eq_true rfl) dL_law_1554 (fun p237 hf => ?_)
        refine g_aload_n X dL_law_1557 2 rfl ?_
        refine g_aload_n X dL_law_1558 0 rfl ?_
        refine g_iload_n X dL_law_1559 3 rfl ?_
        refine g_iconst (v := 1) X dL_law_1560 (by decide) ?_
        refine g_iadd X dL_law_1561 ?_
        refine g_sload X hB hf dL_law_1562 (fun v238 hf => ?_)
        refine g_callV (n := 1) (av := [tI v238]) (rest := [tI p237.1]) (k := 12) X hf (fun p239 => (some (tI p239.1), p239.2)) (fun _ q => m_X12_prove q) (gdV tb_1509 tb_1510 tb_1511 tb_12 tb_1512) rfl (by decide +kernel) rfl (by decide) rfl (by decide) (by constructor <;> simp only [room_1] <;> omega) rfl (Nat.le_of_ble_eq_true rfl) dL_law_1563 (fun p239 hf => ?_)
        refine g_icmpeq (tgt := 2138) X hf dL_law_1566 (by decide) (fun hf => ?_) (fun hf => ?_)
        · refine g_iinc (v := (x3 + 7)) (lv' := [(0, tR x0), (1, tR x1), (2, tR x2), (3, tI (x3 + 7))]) X dL_law_2138 3 rfl (by rfl) (by decide) (in_pick [1, 2, 3, 0] rfl) ?_
          refine g_goto (tgt := 18) X dL_law_2141 (by decide) ?_
          refine g_widen (k := (98011 - n * 163)) (n := (2189966 - n * 3633)) (by omega) (by omega) ?_
          exact ih (by omega) x0 x1 x2 (x3 + 7) p239.2 hB hf
        · refine g_iconst (v := 0) X dL_law_1569 (by decide) ?_
          exact g_zreturn X (zW hf) (by decide) (by omega) (by omega) dL_law_1570
      rw [if_neg hs36] at hf
      by_cases hs37 : (v2 &&& 63) = 37
      · rw [if_pos hs37] at hf
        refine g_tabIn (off := 1538) (tgt := 1571) X 37 hs37 dL_law_33 (by decide) (by decide) (by decide +kernel) (by decide) ?_
        refine g_aload_n X dL_law_1571 1 rfl ?_
        refine g_aload_n X dL_law_1572 0 rfl ?_
        refine g_iload_n X dL_law_1573 3 rfl ?_
        refine g_iconst (v := 1) X dL_law_1574 (by decide) ?_
        refine g_iadd X dL_law_1575 ?_
        refine g_sload X hB hf dL_law_1576 (fun v240 hf => ?_)
        refine g_aload_n X dL_law_1577 0 rfl ?_
        refine g_iload_n X dL_law_1578 3 rfl ?_
        refine g_iconst (v := 2) X dL_law_1579 (by decide) ?_
        refine g_iadd X dL_law_1580 ?_
        refine g_sload X hB hf dL_law_1581 (fun v241 hf => ?_)
        refine g_callV (n := 2) (av := [tI v240, tI v241]) (rest := []) (k := 11) X hf (fun v242 => (some (tI v242), h)) (fun _ q => m_X11_row q) (gdV tb_927 tb_928 tb_929 tb_1 tb_930) rfl (by decide +kernel) rfl (by decide) rfl (by decide) (by constructor <;> simp only [room_1] <;> omega) rfl (Nat.le_of_ble_eq_true rfl) dL_law_1582 (fun v242 hf => ?_)
        refine g_aload_n X dL_law_1585 2 rfl ?_
        refine g_aload_n X dL_law_1586 0 rfl ?_
        refine g_iload_n X dL_law_1587 3 rfl ?_
        refine g_iconst (v := 1) X dL_law_1588 (by decide) ?_
        refine g_iadd X dL_law_1589 ?_
        refine g_sload X hB hf dL_law_1590 (fun v243 hf => ?_)
        refine g_aload_n X dL_law_1591 0 rfl ?_
        refine g_iload_n X dL_law_1592 3 rfl ?_
        refine g_iconst (v := 2) X dL_law_1593 (by decide) ?_
        refine g_iadd X dL_law_1594 ?_
        refine g_sload X hB hf dL_law_1595 (fun v244 hf => ?_)
        refine g_callV (n := 2) (av := [tI v243, tI v244]) (rest := [tI v242]) (k := 12) X hf (fun v245 => (some (tI v245), h)) (fun _ q => m_X12_row q) (gdV tb_1516 tb_1517 tb_1518 tb_12 tb_1519) rfl (by decide +kernel) rfl (by decide) rfl (by decide) (by constructor <;> simp only [room_1] <;> omega) rfl (Nat.le_of_ble_eq_true rfl) dL_law_1596 (fun v245 hf => ?_)
        refine g_icmpeq (tgt := 2138) X hf dL_law_1599 (by decide) (fun hf => ?_) (fun hf => ?_)
        · refine g_iinc (v := (x3 + 7)) (lv' := [(0, tR x0), (1, tR x1), (2, tR x2), (3, tI (x3 + 7))]) X dL_law_2138 3 rfl (by rfl) (by decide) (in_pick [1, 2, 3, 0] rfl) ?_
          refine g_goto (tgt := 18) X dL_law_2141 (by decide) ?_
          refine g_widen (k := (98011 - n * 163)) (n := (2189966 - n * 3633)) (by omega) (by omega) ?_
          exact ih (by omega) x0 x1 x2 (x3 + 7) h hB hf
        · refine g_iconst (v := 0) X dL_law_1602 (by decide) ?_
          exact g_zreturn X (zW hf) (by decide) (by omega) (by omega) dL_law_1603
      rw [if_neg hs37] at hf
      by_cases hs38 : (v2 &&& 63) = 38
      · rw [if_pos hs38] at hf
        refine g_tabIn (off := 1571) (tgt := 1604) X 38 hs38 dL_law_33 (by decide) (by decide) (by decide +kernel) (by decide) ?_
        refine g_aload_n X dL_law_1604 1 rfl ?_
        refine g_aload_n X dL_law_1605 0 rfl ?_
        refine g_iload_n X dL_law_1606 3 rfl ?_
        refine g_iconst (v := 1) X dL_law_1607 (by decide) ?_
        refine g_iadd X dL_law_1608 ?_
        refine g_sload X hB hf dL_law_1609 (fun v246 hf => ?_)
        refine g_aload_n X dL_law_1610 0 rfl ?_
        refine g_iload_n X dL_law_1611 3 rfl ?_
        refine g_iconst (v := 2) X dL_law_1612 (by decide) ?_
        refine g_iadd X dL_law_1613 ?_
        refine g_sload X hB hf dL_law_1614 (fun v247 hf => ?_)
        refine g_aload_n X dL_law_1615 0 rfl ?_
        refine g_iload_n X dL_law_1616 3 rfl ?_
        refine g_iconst (v := 3) X dL_law_1617 (by decide) ?_
        refine g_iadd X dL_law_1618 ?_
        refine g_sload X hB hf dL_law_1619 (fun v248 hf => ?_)
        refine g_callV (n := 3) (av := [tI v246, tI v247, tI v248]) (rest := []) (k := 11) X hf (fun p249 => (some (tI p249.1), p249.2)) (fun _ q => m_X11_alterRow q) (gdV tb_931 tb_932 tb_933 tb_1 tb_934) rfl (by decide +kernel) rfl (by decide) rfl (by decide) (by constructor <;> simp only [room_1] <;> omega) rfl (Nat.le_of_ble_eq_true rfl) dL_law_1620 (fun p249 hf => ?_)
        refine g_aload_n X dL_law_1623 2 rfl ?_
        refine g_aload_n X dL_law_1624 0 rfl ?_
        refine g_iload_n X dL_law_1625 3 rfl ?_
        refine g_iconst (v := 1) X dL_law_1626 (by decide) ?_
        refine g_iadd X dL_law_1627 ?_
        refine g_sload X hB hf dL_law_1628 (fun v250 hf => ?_)
        refine g_aload_n X dL_law_1629 0 rfl ?_
        refine g_iload_n X dL_law_1630 3 rfl ?_
        refine g_iconst (v := 2) X dL_law_1631 (by decide) ?_
        refine g_iadd X dL_law_1632 ?_
        refine g_sload X hB hf dL_law_1633 (fun v251 hf => ?_)
        refine g_aload_n X dL_law_1634 0 rfl ?_
        refine g_iload_n X dL_law_1635 3 rfl ?_
        refine g_iconst (v := 3) X dL_law_1636 (by decide) ?_
        refine g_iadd X dL_law_1637 ?_
        refine g_sload X hB hf dL_law_1638 (fun v252 hf => ?_)
        refine g_callV (n := 3) (av := [tI v250, tI v251, tI v252]) (rest := [tI p249.1]) (k := 12) X hf (fun p253 => (some (tI p253.1), p253.2)) (fun _ q => m_X12_alterRow q) (gdV tb_1520 tb_1521 tb_1522 tb_12 tb_1523) rfl (by decide +kernel) rfl (by decide) rfl (by decide) (by constructor <;> simp only [room_1] <;> omega) rfl (Nat.le_of_ble_eq_true rfl) dL_law_1639 (fun p253 hf => ?_)
        refine g_icmpeq (tgt := 2138) X hf dL_law_1642 (by decide) (fun hf => ?_) (fun hf => ?_)
        · refine g_iinc (v := (x3 + 7)) (lv' := [(0, tR x0), (1, tR x1), (2, tR x2), (3, tI (x3 + 7))]) X dL_law_2138 3 rfl (by rfl) (by decide) (in_pick [1, 2, 3, 0] rfl) ?_
          refine g_goto (tgt := 18) X dL_law_2141 (by decide) ?_
          refine g_widen (k := (98011 - n * 163)) (n := (2189966 - n * 3633)) (by omega) (by omega) ?_
          exact ih (by omega) x0 x1 x2 (x3 + 7) p253.2 hB hf
        · refine g_iconst (v := 0) X dL_law_1645 (by decide) ?_
          exact g_zreturn X (zW hf) (by decide) (by omega) (by omega) dL_law_1646
      rw [if_neg hs38] at hf
      by_cases hs39 : (v2 &&& 63) = 39
      · rw [if_pos hs39] at hf
        refine g_tabIn (off := 1614) (tgt := 1647) X 39 hs39 dL_law_33 (by decide) (by decide) (by decide +kernel) (by decide) ?_
        refine g_aload_n X dL_law_1647 1 rfl ?_
        refine g_aload_n X dL_law_1648 0 rfl ?_
        refine g_iload_n X dL_law_1649 3 rfl ?_
        refine g_iconst (v := 1) X dL_law_1650 (by decide) ?_
        refine g_iadd X dL_law_1651 ?_
        refine g_sload X hB hf dL_law_1652 (fun v254 hf => ?_)
        refine g_callV (n := 1) (av := [tI v254]) (rest := []) (k := 11) X hf (fun p255 => (some (tI p255.1), p255.2)) (fun _ q => m_X11_judge q) (gdV tb_935 tb_936 tb_937 tb_1 tb_938) rfl (by decide +kernel) rfl (by decide) rfl (by decide) (by constructor <;> simp only [room_1] <;> omega) rfl (Nat.le_of_ble_eq_true rfl) dL_law_1653 (fun p255 hf => ?_)
        refine g_aload_n X dL_law_1656 2 rfl ?_
        refine g_aload_n X dL_law_1657 0 rfl ?_
        refine g_iload_n X dL_law_1658 3 rfl ?_
        refine g_iconst (v := 1) X dL_law_1659 (by decide) ?_
        refine g_iadd X dL_law_1660 ?_
        refine g_sload X hB hf dL_law_1661 (fun v256 hf => ?_)
        refine g_callV (n := 1) (av := [tI v256]) (rest := [tI p255.1]) (k := 12) X hf (fun p257 => (some (tI p257.1), p257.2)) (fun _ q => m_X12_judge q) (gdV tb_1524 tb_1525 tb_1526 tb_12 tb_1527) rfl (by decide +kernel) rfl (by decide) rfl (by decide) (by constructor <;> simp only [room_1] <;> omega) rfl (Nat.le_of_ble_eq_true rfl) dL_law_1662 (fun p257 hf => ?_)
        refine g_icmpeq (tgt := 2138) X hf dL_law_1665 (by decide) (fun hf => ?_) (fun hf => ?_)
        · refine g_iinc (v := (x3 + 7)) (lv' := [(0, tR x0), (1, tR x1), (2, tR x2), (3, tI (x3 + 7))]) X dL_law_2138 3 rfl (by rfl) (by decide) (in_pick [1, 2, 3, 0] rfl) ?_
          refine g_goto (tgt := 18) X dL_law_2141 (by decide) ?_
          refine g_widen (k := (98011 - n * 163)) (n := (2189966 - n * 3633)) (by omega) (by omega) ?_
          exact ih (by omega) x0 x1 x2 (x3 + 7) p257.2 hB hf
        · refine g_iconst (v := 0) X dL_law_1668 (by decide) ?_
          exact g_zreturn X (zW hf) (by decide) (by omega) (by omega) dL_law_1669
      rw [if_neg hs39] at hf
      by_cases hs40 : (v2 &&& 63) = 40
      · rw [if_pos hs40] at hf
        refine g_tabIn (off := 1637) (tgt := 1670) X 40 hs40 dL_law_33 (by decide) (by decide) (by decide +kernel) (by decide) ?_
        refine g_aload_n X dL_law_1670 1 rfl ?_
        refine g_aload_n X dL_law_1671 0 rfl ?_
        refine g_iload_n X dL_law_1672 3 rfl ?_
        refine g_iconst (v := 1) X dL_law_1673 (by decide) ?_
        refine g_iadd X dL_law_1674 ?_
        refine g_sload X hB hf dL_law_1675 (fun v258 hf => ?_)
        refine g_callV (n := 1) (av := [tI v258]) (rest := []) (k := 11) X hf (fun p259 => (some (tI p259.1), p259.2)) (fun _ q => m_X11_best q) (gdV tb_939 tb_940 tb_941 tb_1 tb_942) rfl (by decide +kernel) rfl (by decide) rfl (by decide) (by constructor <;> simp only [room_1] <;> omega) rfl (Nat.le_of_ble_eq_true rfl) dL_law_1676 (fun p259 hf => ?_)
        refine g_aload_n X dL_law_1679 2 rfl ?_
        refine g_aload_n X dL_law_1680 0 rfl ?_
        refine g_iload_n X dL_law_1681 3 rfl ?_
        refine g_iconst (v := 1) X dL_law_1682 (by decide) ?_
        refine g_iadd X dL_law_1683 ?_
        refine g_sload X hB hf dL_law_1684 (fun v260 hf => ?_)
        refine g_callV (n := 1) (av := [tI v260]) (rest := [tI p259.1]) (k := 12) X hf (fun p261 => (some (tI p261.1), p261.2)) (fun _ q => m_X12_best q) (gdV tb_1528 tb_1529 tb_1530 tb_12 tb_1531) rfl (by decide +kernel) rfl (by decide) rfl (by decide) (by constructor <;> simp only [room_1] <;> omega) rfl (Nat.le_of_ble_eq_true rfl) dL_law_1685 (fun p261 hf => ?_)
        refine g_icmpeq (tgt := 2138) X hf dL_law_1688 (by decide) (fun hf => ?_) (fun hf => ?_)
        · refine g_iinc (v := (x3 + 7)) (lv' := [(0, tR x0), (1, tR x1), (2, tR x2), (3, tI (x3 + 7))]) X dL_law_2138 3 rfl (by rfl) (by decide) (in_pick [1, 2, 3, 0] rfl) ?_
          refine g_goto (tgt := 18) X dL_law_2141 (by decide) ?_
          refine g_widen (k := (98011 - n * 163)) (n := (2189966 - n * 3633)) (by omega) (by omega) ?_
          exact ih (by omega) x0 x1 x2 (x3 + 7) p261.2 hB hf
        · refine g_iconst (v := 0) X dL_law_1691 (by decide) ?_
          exact g_zreturn X (zW hf) (by decide) (by omega) (by omega) dL_law_1692
      rw [if_neg hs40] at hf
      by_cases hs41 : (v2 &&& 63) = 41
      · rw [if_pos hs41] at hf
        refine g_tabIn (off := 1660) (tgt := 1693) X 41 hs41 dL_law_33 (by decide) (by decide) (by decide +kernel) (by decide) ?_
        refine g_aload_n X dL_law_1693 1 rfl ?_
        refine g_aload_n X dL_law_1694 0 rfl ?_
        refine g_iload_n X dL_law_1695 3 rfl ?_
        refine g_iconst (v := 1) X dL_law_1696 (by decide) ?_
        refine g_iadd X dL_law_1697 ?_
        refine g_sload X hB hf dL_law_1698 (fun v262 hf => ?_)
        refine g_callV (n := 1) (av := [tI v262]) (rest := []) (k := 11) X hf (fun p263 => (some (tI p263.1), p263.2)) (fun _ q => m_X11_heap q) (gdV tb_946 tb_947 tb_948 tb_1 tb_949) rfl (by decide +kernel) rfl (by decide) rfl (by decide) (by constructor <;> simp only [room_1] <;> omega) rfl (Nat.le_of_ble_eq_true rfl) dL_law_1699 (fun p263 hf => ?_)
        refine g_aload_n X dL_law_1702 2 rfl ?_
        refine g_aload_n X dL_law_1703 0 rfl ?_
        refine g_iload_n X dL_law_1704 3 rfl ?_
        refine g_iconst (v := 1) X dL_law_1705 (by decide) ?_
        refine g_iadd X dL_law_1706 ?_
        refine g_sload X hB hf dL_law_1707 (fun v264 hf => ?_)
        refine g_callV (n := 1) (av := [tI v264]) (rest := [tI p263.1]) (k := 12) X hf (fun p265 => (some (tI p265.1), p265.2)) (fun _ q => m_X12_heap q) (gdV tb_1532 tb_1533 tb_1534 tb_12 tb_1535) rfl (by decide +kernel) rfl (by decide) rfl (by decide) (by constructor <;> simp only [room_1] <;> omega) rfl (Nat.le_of_ble_eq_true rfl) dL_law_1708 (fun p265 hf => ?_)
        refine g_icmpeq (tgt := 2138) X hf dL_law_1711 (by decide) (fun hf => ?_) (fun hf => ?_)
        · refine g_iinc (v := (x3 + 7)) (lv' := [(0, tR x0), (1, tR x1), (2, tR x2), (3, tI (x3 + 7))]) X dL_law_2138 3 rfl (by rfl) (by decide) (in_pick [1, 2, 3, 0] rfl) ?_
          refine g_goto (tgt := 18) X dL_law_2141 (by decide) ?_
          refine g_widen (k := (98011 - n * 163)) (n := (2189966 - n * 3633)) (by omega) (by omega) ?_
          exact ih (by omega) x0 x1 x2 (x3 + 7) p265.2 hB hf
        · refine g_iconst (v := 0) X dL_law_1714 (by decide) ?_
          exact g_zreturn X (zW hf) (by decide) (by omega) (by omega) dL_law_1715
      rw [if_neg hs41] at hf
      by_cases hs42 : (v2 &&& 63) = 42
      · rw [if_pos hs42] at hf
        refine g_tabIn (off := 1683) (tgt := 1716) X 42 hs42 dL_law_33 (by decide) (by decide) (by decide +kernel) (by decide) ?_
        refine g_aload_n X dL_law_1716 1 rfl ?_
        refine g_callV (n := 0) (av := []) (rest := []) (k := 11) X hf (fun p266 => (some (tI p266.1), p266.2)) (fun _ q => m_X11_clear q) (gdV tb_950 tb_951 tb_952 tb_1 tb_953) rfl (by decide +kernel) rfl (by decide) rfl (by decide) (by constructor <;> simp only [room_1] <;> omega) rfl (Nat.le_of_ble_eq_true rfl) dL_law_1717 (fun p266 hf => ?_)
        refine g_aload_n X dL_law_1720 2 rfl ?_
        refine g_callV (n := 0) (av := []) (rest := [tI p266.1]) (k := 12) X hf (fun p267 => (some (tI p267.1), p267.2)) (fun _ q => m_X12_clear q) (gdV tb_1536 tb_1537 tb_1538 tb_12 tb_1539) rfl (by decide +kernel) rfl (by decide) rfl (by decide) (by constructor <;> simp only [room_1] <;> omega) rfl (Nat.le_of_ble_eq_true rfl) dL_law_1721 (fun p267 hf => ?_)
        refine g_icmpeq (tgt := 2138) X hf dL_law_1724 (by decide) (fun hf => ?_) (fun hf => ?_)
        · refine g_iinc (v := (x3 + 7)) (lv' := [(0, tR x0), (1, tR x1), (2, tR x2), (3, tI (x3 + 7))]) X dL_law_2138 3 rfl (by rfl) (by decide) (in_pick [1, 2, 3, 0] rfl) ?_
          refine g_goto (tgt := 18) X dL_law_2141 (by decide) ?_
          refine g_widen (k := (98011 - n * 163)) (n := (2189966 - n * 3633)) (by omega) (by omega) ?_
          exact ih (by omega) x0 x1 x2 (x3 + 7) p267.2 hB hf
        · refine g_iconst (v := 0) X dL_law_1727 (by decide) ?_
          exact g_zreturn X (zW hf) (by decide) (by omega) (by omega) dL_law_1728
      rw [if_neg hs42] at hf
      by_cases hs43 : (v2 &&& 63) = 43
      · rw [if_pos hs43] at hf
        refine g_tabIn (off := 1696) (tgt := 1729) X 43 hs43 dL_law_33 (by decide) (by decide) (by decide +kernel) (by decide) ?_
        refine g_aload_n X dL_law_1729 1 rfl ?_
        refine g_aload_n X dL_law_1730 0 rfl ?_
        refine g_iload_n X dL_law_1731 3 rfl ?_
        refine g_iconst (v := 1) X dL_law_1732 (by decide) ?_
        refine g_iadd X dL_law_1733 ?_
        refine g_sload X hB hf dL_law_1734 (fun v268 hf => ?_)
        refine g_aload_n X dL_law_1735 0 rfl ?_
        refine g_iload_n X dL_law_1736 3 rfl ?_
        refine g_iconst (v := 2) X dL_law_1737 (by decide) ?_
        refine g_iadd X dL_law_1738 ?_
        refine g_sload X hB hf dL_law_1739 (fun v269 hf => ?_)
        refine g_callV (n := 2) (av := [tI v268, tI v269]) (rest := []) (k := 11) X hf (fun v270 => (some (tI v270), h)) (fun _ q => m_X11_alike q) (gdV tb_954 tb_955 tb_956 tb_1 tb_957) rfl (by decide +kernel) rfl (by decide) rfl (by decide) (by constructor <;> simp only [room_1] <;> omega) rfl (Nat.le_of_ble_eq_true rfl) dL_law_1740 (fun v270 hf => ?_)
        refine g_aload_n X dL_law_1743 2 rfl ?_
        refine g_aload_n X dL_law_1744 0 rfl ?_
        refine g_iload_n X dL_law_1745 3 rfl ?_
        refine g_iconst (v := 1) X dL_law_1746 (by decide) ?_
        refine g_iadd X dL_law_1747 ?_
        refine g_sload X hB hf dL_law_1748 (fun v271 hf => ?_)
        refine g_aload_n X dL_law_1749 0 rfl ?_
        refine g_iload_n X dL_law_1750 3 rfl ?_
        refine g_iconst (v := 2) X dL_law_1751 (by decide) ?_
        refine g_iadd X dL_law_1752 ?_
        refine g_sload X hB hf dL_law_1753 (fun v272 hf => ?_)
        refine g_callV (n := 2) (av := [tI v271, tI v272]) (rest := [tI v270]) (k := 12) X hf (fun v273 => (some (tI v273), h)) (fun _ q => m_X12_alike q) (gdV tb_1540 tb_1541 tb_1542 tb_12 tb_1543) rfl (by decide +kernel) rfl (by decide) rfl (by decide) (by constructor <;> simp only [room_1] <;> omega) rfl (Nat.le_of_ble_eq_true rfl) dL_law_1754 (fun v273 hf => ?_)
        refine g_icmpeq (tgt := 2138) X hf dL_law_1757 (by decide) (fun hf => ?_) (fun hf => ?_)
        · refine g_iinc (v := (x3 + 7)) (lv' := [(0, tR x0), (1, tR x1), (2, tR x2), (3, tI (x3 + 7))]) X dL_law_2138 3 rfl (by rfl) (by decide) (in_pick [1, 2, 3, 0] rfl) ?_
          refine g_goto (tgt := 18) X dL_law_2141 (by decide) ?_
          refine g_widen (k := (98011 - n * 163)) (n := (2189966 - n * 3633)) (by omega) (by omega) ?_
          exact ih (by omega) x0 x1 x2 (x3 + 7) h hB hf
        · refine g_iconst (v := 0) X dL_law_1760 (by decide) ?_
          exact g_zreturn X (zW hf) (by decide) (by omega) (by omega) dL_law_1761
      rw [if_neg hs43] at hf
      by_cases hs44 : (v2 &&& 63) = 44
      · rw [if_pos hs44] at hf
        refine g_tabIn (off := 1729) (tgt := 1762) X 44 hs44 dL_law_33 (by decide) (by decide) (by decide +kernel) (by decide) ?_
        refine g_aload_n X dL_law_1762 1 rfl ?_
        refine g_aload_n X dL_law_1763 0 rfl ?_
        refine g_iload_n X dL_law_1764 3 rfl ?_
        refine g_iconst (v := 1) X dL_law_1765 (by decide) ?_
        refine g_iadd X dL_law_1766 ?_
        refine g_sload X hB hf dL_law_1767 (fun v274 hf => ?_)
        refine g_callV (n := 1) (av := [tI v274]) (rest := []) (k := 11) X hf (fun p275 => (some (tI p275.1), p275.2)) (fun _ q => m_X11_hands q) (gdV tb_962 tb_963 tb_964 tb_1 tb_965) rfl (by decide +kernel) rfl (by decide) rfl (by decide) (by constructor <;> simp only [room_1] <;> omega) rfl (Nat.le_of_ble_eq_true rfl) dL_law_1768 (fun p275 hf => ?_)
        refine g_aload_n X dL_law_1771 2 rfl ?_
        refine g_aload_n X dL_law_1772 0 rfl ?_
        refine g_iload_n X dL_law_1773 3 rfl ?_
        refine g_iconst (v := 1) X dL_law_1774 (by decide) ?_
        refine g_iadd X dL_law_1775 ?_
        refine g_sload X hB hf dL_law_1776 (fun v276 hf => ?_)
        refine g_callV (n := 1) (av := [tI v276]) (rest := [tI p275.1]) (k := 12) X hf (fun p277 => (some (tI p277.1), p277.2)) (fun _ q => m_X12_hands q) (gdV tb_1547 tb_1548 tb_1549 tb_12 tb_1550) rfl (by decide +kernel) rfl (by decide) rfl (by decide) (by constructor <;> simp only [room_1] <;> omega) rfl (Nat.le_of_ble_eq_true rfl) dL_law_1777 (fun p277 hf => ?_)
        refine g_icmpeq (tgt := 2138) X hf dL_law_1780 (by decide) (fun hf => ?_) (fun hf => ?_)
        · refine g_iinc (v := (x3 + 7)) (lv' := [(0, tR x0), (1, tR x1), (2, tR x2), (3, tI (x3 + 7))]) X dL_law_2138 3 rfl (by rfl) (by decide) (in_pick [1, 2, 3, 0] rfl) ?_
          refine g_goto (tgt := 18) X dL_law_2141 (by decide) ?_
          refine g_widen (k := (98011 - n * 163)) (n := (2189966 - n * 3633)) (by omega) (by omega) ?_
          exact ih (by omega) x0 x1 x2 (x3 + 7) p277.2 hB hf
        · refine g_iconst (v := 0) X dL_law_1783 (by decide) ?_
          exact g_zreturn X (zW hf) (by decide) (by omega) (by omega) dL_law_1784
      rw [if_neg hs44] at hf
      by_cases hs45 : (v2 &&& 63) = 45
      · rw [if_pos hs45] at hf
        refine g_tabIn (off := 1752) (tgt := 1785) X 45 hs45 dL_law_33 (by decide) (by decide) (by decide +kernel) (by decide) ?_
        refine g_aload_n X dL_law_1785 1 rfl ?_
        refine g_aload_n X dL_law_1786 0 rfl ?_
        refine g_iload_n X dL_law_1787 3 rfl ?_
        refine g_iconst (v := 1) X dL_law_1788 (by decide) ?_
        refine g_iadd X dL_law_1789 ?_
        refine g_sload X hB hf dL_law_1790 (fun v278 hf => ?_)
        refine g_aload_n X dL_law_1791 0 rfl ?_
        refine g_iload_n X dL_law_1792 3 rfl ?_
        refine g_iconst (v := 2) X dL_law_1793 (by decide) ?_
        refine g_iadd X dL_law_1794 ?_
        refine g_sload X hB hf dL_law_1795 (fun v279 hf => ?_)
        refine g_aload_n X dL_law_1796 0 rfl ?_
        refine g_iload_n X dL_law_1797 3 rfl ?_
        refine g_iconst (v := 3) X dL_law_1798 (by decide) ?_
        refine g_iadd X dL_law_1799 ?_
        refine g_sload X hB hf dL_law_1800 (fun v280 hf => ?_)
        refine g_callV (n := 3) (av := [tI v278, tI v279, tI v280]) (rest := []) (k := 11) X hf (fun p281 => (some (tI p281.1), p281.2)) (fun _ q => m_X11_sheet q) (gdV tb_977 tb_978 tb_979 tb_1 tb_980) rfl (by decide +kernel) rfl (by decide) rfl (by decide) (by constructor <;> simp only [room_1] <;> omega) rfl (Nat.le_of_ble_eq_true rfl) dL_law_1801 (fun p281 hf => ?_)
        refine g_aload_n X dL_law_1804 2 rfl ?_
        refine g_aload_n X dL_law_1805 0 rfl ?_
        refine g_iload_n X dL_law_1806 3 rfl ?_
        refine g_iconst (v := 1) X dL_law_1807 (by decide) ?_
        refine g_iadd X dL_law_1808 ?_
        refine g_sload X hB hf dL_law_1809 (fun v282 hf => ?_)
        refine g_aload_n X dL_law_1810 0 rfl ?_
        refine g_iload_n X dL_law_1811 3 rfl ?_
        refine g_iconst (v := 2) X dL_law_1812 (by decide) ?_
        refine g_iadd X dL_law_1813 ?_
        refine g_sload X hB hf dL_law_1814 (fun v283 hf => ?_)
        refine g_aload_n X dL_law_1815 0 rfl ?_
        refine g_iload_n X dL_law_1816 3 rfl ?_
        refine g_iconst (v := 3) X dL_law_1817 (by decide) ?_
        refine g_iadd X dL_law_1818 ?_
        refine g_sload X hB hf dL_law_1819 (fun v284 hf => ?_)
        refine g_callV (n := 3) (av := [tI v282, tI v283, tI v284]) (rest := [tI p281.1]) (k := 12) X hf (fun p285 => (some (tI p285.1), p285.2)) (fun _ q => m_X12_sheet q) (gdV tb_1557 tb_1558 tb_1559 tb_12 tb_1560) rfl (by decide +kernel) rfl (by decide) rfl (by decide) (by constructor <;> simp only [room_1] <;> omega) rfl (Nat.le_of_ble_eq_true rfl) dL_law_1820 (fun p285 hf => ?_)
        refine g_icmpeq (tgt := 2138) X hf dL_law_1823 (by decide) (fun hf => ?_) (fun hf => ?_)
        · refine g_iinc (v := (x3 + 7)) (lv' := [(0, tR x0), (1, tR x1), (2, tR x2), (3, tI (x3 + 7))]) X dL_law_2138 3 rfl (by rfl) (by decide) (in_pick [1, 2, 3, 0] rfl) ?_
          refine g_goto (tgt := 18) X dL_law_2141 (by decide) ?_
          refine g_widen (k := (98011 - n * 163)) (n := (2189966 - n * 3633)) (by omega) (by omega) ?_
          exact ih (by omega) x0 x1 x2 (x3 + 7) p285.2 hB hf
        · refine g_iconst (v := 0) X dL_law_1826 (by decide) ?_
          exact g_zreturn X (zW hf) (by decide) (by omega) (by omega) dL_law_1827
      rw [if_neg hs45] at hf
      by_cases hs46 : (v2 &&& 63) = 46
      · rw [if_pos hs46] at hf
        refine g_tabIn (off := 1795) (tgt := 1828) X 46 hs46 dL_law_33 (by decide) (by decide) (by decide +kernel) (by decide) ?_
        refine g_aload_n X dL_law_1828 1 rfl ?_
        refine g_aload_n X dL_law_1829 0 rfl ?_
        refine g_iload_n X dL_law_1830 3 rfl ?_
        refine g_iconst (v := 1) X dL_law_1831 (by decide) ?_
        refine g_iadd X dL_law_1832 ?_
        refine g_sload X hB hf dL_law_1833 (fun v286 hf => ?_)
        refine g_aload_n X dL_law_1834 0 rfl ?_
        refine g_iload_n X dL_law_1835 3 rfl ?_
        refine g_iconst (v := 2) X dL_law_1836 (by decide) ?_
        refine g_iadd X dL_law_1837 ?_
        refine g_sload X hB hf dL_law_1838 (fun v287 hf => ?_)
        refine g_aload_n X dL_law_1839 0 rfl ?_
        refine g_iload_n X dL_law_1840 3 rfl ?_
        refine g_iconst (v := 3) X dL_law_1841 (by decide) ?_
        refine g_iadd X dL_law_1842 ?_
        refine g_sload X hB hf dL_law_1843 (fun v288 hf => ?_)
        refine g_callV (n := 3) (av := [tI v286, tI v287, tI v288]) (rest := []) (k := 11) X hf (fun p289 => (some (tI p289.1), p289.2)) (fun _ q => m_X11_put q) (gdV tb_992 tb_993 tb_994 tb_1 tb_995) rfl (by decide +kernel) rfl (by decide) rfl (by decide) (by constructor <;> simp only [room_1] <;> omega) rfl (Nat.le_of_ble_eq_true rfl) dL_law_1844 (fun p289 hf => ?_)
        refine g_aload_n X dL_law_1847 2 rfl ?_
        refine g_aload_n X dL_law_1848 0 rfl ?_
        refine g_iload_n X dL_law_1849 3 rfl ?_
        refine g_iconst (v := 1) X dL_law_1850 (by decide) ?_
        refine g_iadd X dL_law_1851 ?_
        refine g_sload X hB hf dL_law_1852 (fun v290 hf => ?_)
        refine g_aload_n X dL_law_1853 0 rfl ?_
        refine g_iload_n X dL_law_1854 3 rfl ?_
        refine g_iconst (v := 2) X dL_law_1855 (by decide) ?_
        refine g_iadd X dL_law_1856 ?_
        refine g_sload X hB hf dL_law_1857 (fun v291 hf => ?_)
        refine g_aload_n X dL_law_1858 0 rfl ?_
        refine g_iload_n X dL_law_1859 3 rfl ?_
        refine g_iconst (v := 3) X dL_law_1860 (by decide) ?_
        refine g_iadd X dL_law_1861 ?_
        refine g_sload X hB hf dL_law_1862 (fun v292 hf => ?_)
        refine g_callV (n := 3) (av := [tI v290, tI v291, tI v292]) (rest := [tI p289.1]) (k := 12) X hf (fun p293 => (some (tI p293.1), p293.2)) (fun _ q => m_X12_put q) (gdV tb_1567 tb_1568 tb_1569 tb_12 tb_1570) rfl (by decide +kernel) rfl (by decide) rfl (by decide) (by constructor <;> simp only [room_1] <;> omega) rfl (Nat.le_of_ble_eq_true rfl) dL_law_1863 (fun p293 hf => ?_)
        refine g_icmpeq (tgt := 2138) X hf dL_law_1866 (by decide) (fun hf => ?_) (fun hf => ?_)
        · refine g_iinc (v := (x3 + 7)) (lv' := [(0, tR x0), (1, tR x1), (2, tR x2), (3, tI (x3 + 7))]) X dL_law_2138 3 rfl (by rfl) (by decide) (in_pick [1, 2, 3, 0] rfl) ?_
          refine g_goto (tgt := 18) X dL_law_2141 (by decide) ?_
          refine g_widen (k := (98011 - n * 163)) (n := (2189966 - n * 3633)) (by omega) (by omega) ?_
          exact ih (by omega) x0 x1 x2 (x3 + 7) p293.2 hB hf
        · refine g_iconst (v := 0) X dL_law_1869 (by decide) ?_
          exact g_zreturn X (zW hf) (by decide) (by omega) (by omega) dL_law_1870
      rw [if_neg hs46] at hf
      by_cases hs47 : (v2 &&& 63) = 47
      · rw [if_pos hs47] at hf
        refine g_tabIn (off := 1838) (tgt := 1871) X 47 hs47 dL_law_33 (by decide) (by decide) (by decide +kernel) (by decide) ?_
        refine g_aload_n X dL_law_1871 1 rfl ?_
        refine g_aload_n X dL_law_1872 0 rfl ?_
        refine g_iload_n X dL_law_1873 3 rfl ?_
        refine g_iconst (v := 1) X dL_law_1874 (by decide) ?_
        refine g_iadd X dL_law_1875 ?_
        refine g_sload X hB hf dL_law_1876 (fun v294 hf => ?_)
        refine g_aload_n X dL_law_1877 0 rfl ?_
        refine g_iload_n X dL_law_1878 3 rfl ?_
        refine g_iconst (v := 2) X dL_law_1879 (by decide) ?_
        refine g_iadd X dL_law_1880 ?_
        refine g_sload X hB hf dL_law_1881 (fun v295 hf => ?_)
        refine g_aload_n X dL_law_1882 0 rfl ?_
        refine g_iload_n X dL_law_1883 3 rfl ?_
        refine g_iconst (v := 3) X dL_law_1884 (by decide) ?_
        refine g_iadd X dL_law_1885 ?_
        refine g_sload X hB hf dL_law_1886 (fun v296 hf => ?_)
        refine g_callV (n := 3) (av := [tI v294, tI v295, tI v296]) (rest := []) (k := 11) X hf (fun v297 => (some (tI v297), h)) (fun _ q => m_X11_item q) (gdV tb_1000 tb_1001 tb_1002 tb_1 tb_1003) rfl (by decide +kernel) rfl (by decide) rfl (by decide) (by constructor <;> simp only [room_1] <;> omega) rfl (Nat.le_of_ble_eq_true rfl) dL_law_1887 (fun v297 hf => ?_)
        refine g_aload_n X dL_law_1890 2 rfl ?_
        refine g_aload_n X dL_law_1891 0 rfl ?_
        refine g_iload_n X dL_law_1892 3 rfl ?_
        refine g_iconst (v := 1) X dL_law_1893 (by decide) ?_
        refine g_iadd X dL_law_1894 ?_
        refine g_sload X hB hf dL_law_1895 (fun v298 hf => ?_)
        refine g_aload_n X dL_law_1896 0 rfl ?_
        refine g_iload_n X dL_law_1897 3 rfl ?_
        refine g_iconst (v := 2) X dL_law_1898 (by decide) ?_
        refine g_iadd X dL_law_1899 ?_
        refine g_sload X hB hf dL_law_1900 (fun v299 hf => ?_)
        refine g_aload_n X dL_law_1901 0 rfl ?_
        refine g_iload_n X dL_law_1902 3 rfl ?_
        refine g_iconst (v := 3) X dL_law_1903 (by decide) ?_
        refine g_iadd X dL_law_1904 ?_
        refine g_sload X hB hf dL_law_1905 (fun v300 hf => ?_)
        refine g_callV (n := 3) (av := [tI v298, tI v299, tI v300]) (rest := [tI v297]) (k := 12) X hf (fun v301 => (some (tI v301), h)) (fun _ q => m_X12_item q) (gdV tb_1571 tb_1572 tb_1573 tb_12 tb_1574) rfl (by decide +kernel) rfl (by decide) rfl (by decide) (by constructor <;> simp only [room_1] <;> omega) rfl (Nat.le_of_ble_eq_true rfl) dL_law_1906 (fun v301 hf => ?_)
        refine g_icmpeq (tgt := 2138) X hf dL_law_1909 (by decide) (fun hf => ?_) (fun hf => ?_)
        · refine g_iinc (v := (x3 + 7)) (lv' := [(0, tR x0), (1, tR x1), (2, tR x2), (3, tI (x3 + 7))]) X dL_law_2138 3 rfl (by rfl) (by decide) (in_pick [1, 2, 3, 0] rfl) ?_
          refine g_goto (tgt := 18) X dL_law_2141 (by decide) ?_
          refine g_widen (k := (98011 - n * 163)) (n := (2189966 - n * 3633)) (by omega) (by omega) ?_
          exact ih (by omega) x0 x1 x2 (x3 + 7) h hB hf
        · refine g_iconst (v := 0) X dL_law_1912 (by decide) ?_
          exact g_zreturn X (zW hf) (by decide) (by omega) (by omega) dL_law_1913
      rw [if_neg hs47] at hf
      by_cases hs48 : (v2 &&& 63) = 48
      · rw [if_pos hs48] at hf
        refine g_tabIn (off := 1881) (tgt := 1914) X 48 hs48 dL_law_33 (by decide) (by decide) (by decide +kernel) (by decide) ?_
        refine g_aload_n X dL_law_1914 1 rfl ?_
        refine g_aload_n X dL_law_1915 0 rfl ?_
        refine g_iload_n X dL_law_1916 3 rfl ?_
        refine g_iconst (v := 1) X dL_law_1917 (by decide) ?_
        refine g_iadd X dL_law_1918 ?_
        refine g_sload X hB hf dL_law_1919 (fun v302 hf => ?_)
        refine g_aload_n X dL_law_1920 0 rfl ?_
        refine g_iload_n X dL_law_1921 3 rfl ?_
        refine g_iconst (v := 2) X dL_law_1922 (by decide) ?_
        refine g_iadd X dL_law_1923 ?_
        refine g_sload X hB hf dL_law_1924 (fun v303 hf => ?_)
        refine g_callV (n := 2) (av := [tI v302, tI v303]) (rest := []) (k := 11) X hf (fun p304 => (some (tI p304.1), p304.2)) (fun _ q => m_X11_comesFrom q) (gdV tb_1004 tb_1005 tb_1006 tb_1 tb_1007) rfl (by decide +kernel) rfl (by decide) rfl (by decide) (by constructor <;> simp only [room_1] <;> omega) rfl (Nat.le_of_ble_eq_true rfl) dL_law_1925 (fun p304 hf => ?_)
        refine g_aload_n X dL_law_1928 2 rfl ?_
        refine g_aload_n X dL_law_1929 0 rfl ?_
        refine g_iload_n X dL_law_1930 3 rfl ?_
        refine g_iconst (v := 1) X dL_law_1931 (by decide) ?_
        refine g_iadd X dL_law_1932 ?_
        refine g_sload X hB hf dL_law_1933 (fun v305 hf => ?_)
        refine g_aload_n X dL_law_1934 0 rfl ?_
        refine g_iload_n X dL_law_1935 3 rfl ?_
        refine g_iconst (v := 2) X dL_law_1936 (by decide) ?_
        refine g_iadd X dL_law_1937 ?_
        refine g_sload X hB hf dL_law_1938 (fun v306 hf => ?_)
        refine g_callV (n := 2) (av := [tI v305, tI v306]) (rest := [tI p304.1]) (k := 12) X hf (fun p307 => (some (tI p307.1), p307.2)) (fun _ q => m_X12_comesFrom q) (gdV tb_1575 tb_1576 tb_1577 tb_12 tb_1578) rfl (by decide +kernel) rfl (by decide) rfl (by decide) (by constructor <;> simp only [room_1] <;> omega) rfl (Nat.le_of_ble_eq_true rfl) dL_law_1939 (fun p307 hf => ?_)
        refine g_icmpeq (tgt := 2138) X hf dL_law_1942 (by decide) (fun hf => ?_) (fun hf => ?_)
        · refine g_iinc (v := (x3 + 7)) (lv' := [(0, tR x0), (1, tR x1), (2, tR x2), (3, tI (x3 + 7))]) X dL_law_2138 3 rfl (by rfl) (by decide) (in_pick [1, 2, 3, 0] rfl) ?_
          refine g_goto (tgt := 18) X dL_law_2141 (by decide) ?_
          refine g_widen (k := (98011 - n * 163)) (n := (2189966 - n * 3633)) (by omega) (by omega) ?_
          exact ih (by omega) x0 x1 x2 (x3 + 7) p307.2 hB hf
        · refine g_iconst (v := 0) X dL_law_1945 (by decide) ?_
          exact g_zreturn X (zW hf) (by decide) (by omega) (by omega) dL_law_1946
      rw [if_neg hs48] at hf
      by_cases hs49 : (v2 &&& 63) = 49
      · rw [if_pos hs49] at hf
        refine g_tabIn (off := 1914) (tgt := 1947) X 49 hs49 dL_law_33 (by decide) (by decide) (by decide +kernel) (by decide) ?_
        refine g_aload_n X dL_law_1947 1 rfl ?_
        refine g_aload_n X dL_law_1948 0 rfl ?_
        refine g_iload_n X dL_law_1949 3 rfl ?_
        refine g_iconst (v := 1) X dL_law_1950 (by decide) ?_
        refine g_iadd X dL_law_1951 ?_
        refine g_sload X hB hf dL_law_1952 (fun v308 hf => ?_)
        refine g_aload_n X dL_law_1953 0 rfl ?_
        refine g_iload_n X dL_law_1954 3 rfl ?_
        refine g_iconst (v := 2) X dL_law_1955 (by decide) ?_
        refine g_iadd X dL_law_1956 ?_
        refine g_sload X hB hf dL_law_1957 (fun v309 hf => ?_)
        refine g_aload_n X dL_law_1958 0 rfl ?_
        refine g_iload_n X dL_law_1959 3 rfl ?_
        refine g_iconst (v := 3) X dL_law_1960 (by decide) ?_
        refine g_iadd X dL_law_1961 ?_
        refine g_sload X hB hf dL_law_1962 (fun v310 hf => ?_)
        refine g_callV (n := 3) (av := [tI v308, tI v309, tI v310]) (rest := []) (k := 11) X hf (fun p311 => (some (tI p311.1), p311.2)) (fun _ q => m_X11_shelf q) (gdV tb_1009 tb_1010 tb_1011 tb_1 tb_1012) rfl (by decide +kernel) rfl (by decide) rfl (by decide) (by constructor <;> simp only [room_1] <;> omega) rfl (Nat.le_of_ble_eq_true rfl) dL_law_1963 (fun p311 hf => ?_)
        refine g_aload_n X dL_law_1966 2 rfl ?_
        refine g_aload_n X dL_law_1967 0 rfl ?_
        refine g_iload_n X dL_law_1968 3 rfl ?_
        refine g_iconst (v := 1) X dL_law_1969 (by decide) ?_
        refine g_iadd X dL_law_1970 ?_
        refine g_sload X hB hf dL_law_1971 (fun v312 hf => ?_)
        refine g_aload_n X dL_law_1972 0 rfl ?_
        refine g_iload_n X dL_law_1973 3 rfl ?_
        refine g_iconst (v := 2) X dL_law_1974 (by decide) ?_
        refine g_iadd X dL_law_1975 ?_
        refine g_sload X hB hf dL_law_1976 (fun v313 hf => ?_)
        refine g_aload_n X dL_law_1977 0 rfl ?_
        refine g_iload_n X dL_law_1978 3 rfl ?_
        refine g_iconst (v := 3) X dL_law_1979 (by decide) ?_
        refine g_iadd X dL_law_1980 ?_
        refine g_sload X hB hf dL_law_1981 (fun v314 hf => ?_)
        refine g_callV (n := 3) (av := [tI v312, tI v313, tI v314]) (rest := [tI p311.1]) (k := 12) X hf (fun p315 => (some (tI p315.1), p315.2)) (fun _ q => m_X12_shelf q) (gdV tb_1580 tb_1581 tb_1582 tb_12 tb_1583) rfl (by decide +kernel) rfl (by decide) rfl (by decide) (by constructor <;> simp only [room_1] <;> omega) rfl (Nat.le_of_ble_eq_true rfl) dL_law_1982 (fun p315 hf => ?_)
        refine g_icmpeq (tgt := 2138) X hf dL_law_1985 (by decide) (fun hf => ?_) (fun hf => ?_)
        · refine g_iinc (v := (x3 + 7)) (lv' := [(0, tR x0), (1, tR x1), (2, tR x2), (3, tI (x3 + 7))]) X dL_law_2138 3 rfl (by rfl) (by decide) (in_pick [1, 2, 3, 0] rfl) ?_
          refine g_goto (tgt := 18) X dL_law_2141 (by decide) ?_
          refine g_widen (k := (98011 - n * 163)) (n := (2189966 - n * 3633)) (by omega) (by omega) ?_
          exact ih (by omega) x0 x1 x2 (x3 + 7) p315.2 hB hf
        · refine g_iconst (v := 0) X dL_law_1988 (by decide) ?_
          exact g_zreturn X (zW hf) (by decide) (by omega) (by omega) dL_law_1989
      rw [if_neg hs49] at hf
      by_cases hs50 : (v2 &&& 63) = 50
      · rw [if_pos hs50] at hf
        refine g_tabIn (off := 1957) (tgt := 1990) X 50 hs50 dL_law_33 (by decide) (by decide) (by decide +kernel) (by decide) ?_
        refine g_aload_n X dL_law_1990 1 rfl ?_
        refine g_aload_n X dL_law_1991 0 rfl ?_
        refine g_iload_n X dL_law_1992 3 rfl ?_
        refine g_iconst (v := 1) X dL_law_1993 (by decide) ?_
        refine g_iadd X dL_law_1994 ?_
        refine g_sload X hB hf dL_law_1995 (fun v316 hf => ?_)
        refine g_aload_n X dL_law_1996 0 rfl ?_
        refine g_iload_n X dL_law_1997 3 rfl ?_
        refine g_iconst (v := 2) X dL_law_1998 (by decide) ?_
        refine g_iadd X dL_law_1999 ?_
        refine g_sload X hB hf dL_law_2000 (fun v317 hf => ?_)
        refine g_callV (n := 2) (av := [tI v316, tI v317]) (rest := []) (k := 11) X hf (fun v318 => (some (tI v318), h)) (fun _ q => m_X11_taken q) (gdV tb_1020 tb_1021 tb_1022 tb_1 tb_1023) rfl (by decide +kernel) rfl (by decide) rfl (by decide) (by constructor <;> simp only [room_1] <;> omega) rfl (Nat.le_of_ble_eq_true rfl) dL_law_2001 (fun v318 hf => ?_)
        refine g_aload_n X dL_law_2004 2 rfl ?_
        refine g_aload_n X dL_law_2005 0 rfl ?_
        refine g_iload_n X dL_law_2006 3 rfl ?_
        refine g_iconst (v := 1) X dL_law_2007 (by decide) ?_
        refine g_iadd X dL_law_2008 ?_
        refine g_sload X hB hf dL_law_2009 (fun v319 hf => ?_)
        refine g_aload_n X dL_law_2010 0 rfl ?_
        refine g_iload_n X dL_law_2011 3 rfl ?_
        refine g_iconst (v := 2) X dL_law_2012 (by decide) ?_
        refine g_iadd X dL_law_2013 ?_
        refine g_sload X hB hf dL_law_2014 (fun v320 hf => ?_)
        refine g_callV (n := 2) (av := [tI v319, tI v320]) (rest := [tI v318]) (k := 12) X hf (fun p321 => (some (tI p321.1), p321.2)) (fun _ q => m_X12_taken q) (gdV tb_1584 tb_1585 tb_1586 tb_12 tb_1587) rfl (by decide +kernel) rfl (by decide) rfl (by decide) (by constructor <;> simp only [room_1] <;> omega) rfl (Nat.le_of_ble_eq_true rfl) dL_law_2015 (fun p321 hf => ?_)
        refine g_icmpeq (tgt := 2138) X hf dL_law_2018 (by decide) (fun hf => ?_) (fun hf => ?_)
        · refine g_iinc (v := (x3 + 7)) (lv' := [(0, tR x0), (1, tR x1), (2, tR x2), (3, tI (x3 + 7))]) X dL_law_2138 3 rfl (by rfl) (by decide) (in_pick [1, 2, 3, 0] rfl) ?_
          refine g_goto (tgt := 18) X dL_law_2141 (by decide) ?_
          refine g_widen (k := (98011 - n * 163)) (n := (2189966 - n * 3633)) (by omega) (by omega) ?_
          exact ih (by omega) x0 x1 x2 (x3 + 7) p321.2 hB hf
        · refine g_iconst (v := 0) X dL_law_2021 (by decide) ?_
          exact g_zreturn X (zW hf) (by decide) (by omega) (by omega) dL_law_2022
      rw [if_neg hs50] at hf
      by_cases hs51 : (v2 &&& 63) = 51
      · rw [if_pos hs51] at hf
        refine g_tabIn (off := 1990) (tgt := 2023) X 51 hs51 dL_law_33 (by decide) (by decide) (by decide +kernel) (by decide) ?_
        refine g_aload_n X dL_law_2023 1 rfl ?_
        refine g_aload_n X dL_law_2024 0 rfl ?_
        refine g_iload_n X dL_law_2025 3 rfl ?_
        refine g_iconst (v := 1) X dL_law_2026 (by decide) ?_
        refine g_iadd X dL_law_2027 ?_
        refine g_sload X hB hf dL_law_2028 (fun v322 hf => ?_)
        refine g_aload_n X dL_law_2029 0 rfl ?_
        refine g_iload_n X dL_law_2030 3 rfl ?_
        refine g_iconst (v := 2) X dL_law_2031 (by decide) ?_
        refine g_iadd X dL_law_2032 ?_
        refine g_sload X hB hf dL_law_2033 (fun v323 hf => ?_)
        refine g_aload_n X dL_law_2034 0 rfl ?_
        refine g_iload_n X dL_law_2035 3 rfl ?_
        refine g_iconst (v := 3) X dL_law_2036 (by decide) ?_
        refine g_iadd X dL_law_2037 ?_
        refine g_sload X hB hf dL_law_2038 (fun v324 hf => ?_)
        refine g_callV (n := 3) (av := [tI v322, tI v323, tI v324]) (rest := []) (k := 11) X hf (fun p325 => (some (tI p325.1), p325.2)) (fun _ q => m_X11_act q) (gdV tb_1040 tb_1041 tb_1042 tb_1 tb_1043) rfl (by decide +kernel) rfl (by decide) rfl (by decide) (by constructor <;> simp only [room_1] <;> omega) rfl (Nat.le_of_ble_eq_true rfl) dL_law_2039 (fun p325 hf => ?_)
        refine g_aload_n X dL_law_2042 2 rfl ?_
        refine g_aload_n X dL_law_2043 0 rfl ?_
        refine g_iload_n X dL_law_2044 3 rfl ?_
        refine g_iconst (v := 1) X dL_law_2045 (by decide) ?_
        refine g_iadd X dL_law_2046 ?_
        refine g_sload X hB hf dL_law_2047 (fun v326 hf => ?_)
        refine g_aload_n X dL_law_2048 0 rfl ?_
        refine g_iload_n X dL_law_2049 3 rfl ?_
        refine g_iconst (v := 2) X dL_law_2050 (by decide) ?_
        refine g_iadd X dL_law_2051 ?_
        refine g_sload X hB hf dL_law_2052 (fun v327 hf => ?_)
        refine g_aload_n X dL_law_2053 0 rfl ?_
        refine g_iload_n X dL_law_2054 3 rfl ?_
        refine g_iconst (v := 3) X dL_law_2055 (by decide) ?_
        refine g_iadd X dL_law_2056 ?_
        refine g_sload X hB hf dL_law_2057 (fun v328 hf => ?_)
        refine g_callV (n := 3) (av := [tI v326, tI v327, tI v328]) (rest := [tI p325.1]) (k := 12) X hf (fun p329 => (some (tI p329.1), p329.2)) (fun _ q => m_X12_act q) (gdV tb_1591 tb_1592 tb_1593 tb_12 tb_1594) rfl (by decide +kernel) rfl (by decide) rfl (by decide) (by constructor <;> simp only [room_1] <;> omega) rfl (Nat.le_of_ble_eq_true rfl) dL_law_2058 (fun p329 hf => ?_)
        refine g_icmpeq (tgt := 2138) X hf dL_law_2061 (by decide) (fun hf => ?_) (fun hf => ?_)
        · refine g_iinc (v := (x3 + 7)) (lv' := [(0, tR x0), (1, tR x1), (2, tR x2), (3, tI (x3 + 7))]) X dL_law_2138 3 rfl (by rfl) (by decide) (in_pick [1, 2, 3, 0] rfl) ?_
          refine g_goto (tgt := 18) X dL_law_2141 (by decide) ?_
          refine g_widen (k := (98011 - n * 163)) (n := (2189966 - n * 3633)) (by omega) (by omega) ?_
          exact ih (by omega) x0 x1 x2 (x3 + 7) p329.2 hB hf
        · refine g_iconst (v := 0) X dL_law_2064 (by decide) ?_
          exact g_zreturn X (zW hf) (by decide) (by omega) (by omega) dL_law_2065
      rw [if_neg hs51] at hf
      by_cases hs52 : (v2 &&& 63) = 52
      · rw [if_pos hs52] at hf
        refine g_tabIn (off := 2033) (tgt := 2066) X 52 hs52 dL_law_33 (by decide) (by decide) (by decide +kernel) (by decide) ?_
        refine g_aload_n X dL_law_2066 1 rfl ?_
        refine g_aload_n X dL_law_2067 0 rfl ?_
        refine g_iload_n X dL_law_2068 3 rfl ?_
        refine g_iconst (v := 1) X dL_law_2069 (by decide) ?_
        refine g_iadd X dL_law_2070 ?_
        refine g_sload X hB hf dL_law_2071 (fun v330 hf => ?_)
        refine g_callV (n := 1) (av := [tI v330]) (rest := []) (k := 11) X hf (fun v331 => (some (tI v331), h)) (fun _ q => m_X11_trace q) (gdV tb_1073 tb_1074 tb_1075 tb_1 tb_1076) rfl (by decide +kernel) rfl (by decide) rfl (by decide) (by constructor <;> simp only [room_1] <;> omega) rfl (Nat.le_of_ble_eq_true rfl) dL_law_2072 (fun v331 hf => ?_)
        refine g_aload_n X dL_law_2075 2 rfl ?_
        refine g_aload_n X dL_law_2076 0 rfl ?_
        refine g_iload_n X dL_law_2077 3 rfl ?_
        refine g_iconst (v := 1) X dL_law_2078 (by decide) ?_
        refine g_iadd X dL_law_2079 ?_
        refine g_sload X hB hf dL_law_2080 (fun v332 hf => ?_)
        refine g_callV (n := 1) (av := [tI v332]) (rest := [tI v331]) (k := 12) X hf (fun v333 => (some (tI v333), h)) (fun _ q => m_X12_trace q) (gdV tb_1628 tb_1629 tb_1630 tb_12 tb_1631) rfl (by decide +kernel) rfl (by decide) rfl (by decide) (by constructor <;> simp only [room_1] <;> omega) rfl (Nat.le_of_ble_eq_true rfl) dL_law_2081 (fun v333 hf => ?_)
        refine g_icmpeq (tgt := 2138) X hf dL_law_2084 (by decide) (fun hf => ?_) (fun hf => ?_)
        · refine g_iinc (v := (x3 + 7)) (lv' := [(0, tR x0), (1, tR x1), (2, tR x2), (3, tI (x3 + 7))]) X dL_law_2138 3 rfl (by rfl) (by decide) (in_pick [1, 2, 3, 0] rfl) ?_
          refine g_goto (tgt := 18) X dL_law_2141 (by decide) ?_
          refine g_widen (k := (98011 - n * 163)) (n := (2189966 - n * 3633)) (by omega) (by omega) ?_
          exact ih (by omega) x0 x1 x2 (x3 + 7) h hB hf
        · refine g_iconst (v := 0) X dL_law_2087 (by decide) ?_
          exact g_zreturn X (zW hf) (by decide) (by omega) (by omega) dL_law_2088
      rw [if_neg hs52] at hf
      by_cases hs53 : (v2 &&& 63) = 53
      · rw [if_pos hs53] at hf
        refine g_tabIn (off := 2056) (tgt := 2089) X 53 hs53 dL_law_33 (by decide) (by decide) (by decide +kernel) (by decide) ?_
        refine g_aload_n X dL_law_2089 1 rfl ?_
        refine g_aload_n X dL_law_2090 0 rfl ?_
        refine g_iload_n X dL_law_2091 3 rfl ?_
        refine g_iconst (v := 1) X dL_law_2092 (by decide) ?_
        refine g_iadd X dL_law_2093 ?_
        refine g_sload X hB hf dL_law_2094 (fun v334 hf => ?_)
        refine g_callV (n := 1) (av := [tI v334]) (rest := []) (k := 11) X hf (fun v335 => (some (tI v335), h)) (fun _ q => m_X11_many q) (gdV tb_1077 tb_1078 tb_1079 tb_1 tb_1080) rfl (by decide +kernel) rfl (by decide) rfl (by decide) (by constructor <;> simp only [room_1] <;> omega) rfl (Nat.le_of_ble_eq_true rfl) dL_law_2095 (fun v335 hf => ?_)
        refine g_aload_n X dL_law_2098 2 rfl ?_
        refine g_aload_n X dL_law_2099 0 rfl ?_
        refine g_iload_n X dL_law_2100 3 rfl ?_
        refine g_iconst (v := 1) X dL_law_2101 (by decide) ?_
        refine g_iadd X dL_law_2102 ?_
        refine g_sload X hB hf dL_law_2103 (fun v336 hf => ?_)
        refine g_callV (n := 1) (av := [tI v336]) (rest := [tI v335]) (k := 12) X hf (fun v337 => (some (tI v337), h)) (fun _ q => m_X12_many q) (gdV tb_1632 tb_1633 tb_1634 tb_12 tb_1635) rfl (by decide +kernel) rfl (by decide) rfl (by decide) (by constructor <;> simp only [room_1] <;> omega) rfl (Nat.le_of_ble_eq_true rfl) dL_law_2104 (fun v337 hf => ?_)
        refine g_icmpeq (tgt := 2138) X hf dL_law_2107 (by decide) (fun hf => ?_) (fun hf => ?_)
        · refine g_iinc (v := (x3 + 7)) (lv' := [(0, tR x0), (1, tR x1), (2, tR x2), (3, tI (x3 + 7))]) X dL_law_2138 3 rfl (by rfl) (by decide) (in_pick [1, 2, 3, 0] rfl) ?_
          refine g_goto (tgt := 18) X dL_law_2141 (by decide) ?_
          refine g_widen (k := (98011 - n * 163)) (n := (2189966 - n * 3633)) (by omega) (by omega) ?_
          exact ih (by omega) x0 x1 x2 (x3 + 7) h hB hf
        · refine g_iconst (v := 0) X dL_law_2110 (by decide) ?_
          exact g_zreturn X (zW hf) (by decide) (by omega) (by omega) dL_law_2111
      rw [if_neg hs53] at hf
      by_cases hs54 : (v2 &&& 63) = 54
      · rw [if_pos hs54] at hf
        refine g_tabIn (off := 2079) (tgt := 2112) X 54 hs54 dL_law_33 (by decide) (by decide) (by decide +kernel) (by decide) ?_
        refine g_aload_n X dL_law_2112 1 rfl ?_
        refine g_callV (n := 0) (av := []) (rest := []) (k := 11) X hf (fun p338 => (some (tI p338.1), p338.2)) (fun _ q => m_X11_keep q) (gdV tb_1090 tb_1091 tb_1092 tb_1 tb_1093) rfl (by decide +kernel) rfl (by decide) rfl (by decide) (by constructor <;> simp only [room_1] <;> omega) rfl (Nat.le_of_ble_eq_true rfl) dL_law_2113 (fun p338 hf => ?_)
        refine g_aload_n X dL_law_2116 2 rfl ?_
        refine g_callV (n := 0) (av := []) (rest := [tI p338.1]) (k := 12) X hf (fun p339 => (some (tI p339.1), p339.2)) (fun _ q => m_X12_keep q) (gdV tb_1636 tb_1637 tb_1638 tb_12 tb_1639) rfl (by decide +kernel) rfl (by decide) rfl (by decide) (by constructor <;> simp only [room_1] <;> omega) rfl (Nat.le_of_ble_eq_true rfl) dL_law_2117 (fun p339 hf => ?_)
        refine g_icmpeq (tgt := 2138) X hf dL_law_2120 (by decide) (fun hf => ?_) (fun hf => ?_)
        · refine g_iinc (v := (x3 + 7)) (lv' := [(0, tR x0), (1, tR x1), (2, tR x2), (3, tI (x3 + 7))]) X dL_law_2138 3 rfl (by rfl) (by decide) (in_pick [1, 2, 3, 0] rfl) ?_
          refine g_goto (tgt := 18) X dL_law_2141 (by decide) ?_
          refine g_widen (k := (98011 - n * 163)) (n := (2189966 - n * 3633)) (by omega) (by omega) ?_
          exact ih (by omega) x0 x1 x2 (x3 + 7) p339.2 hB hf
        · refine g_iconst (v := 0) X dL_law_2123 (by decide) ?_
          exact g_zreturn X (zW hf) (by decide) (by omega) (by omega) dL_law_2124
      rw [if_neg hs54] at hf
      by_cases hs55 : (v2 &&& 63) = 55
      · rw [if_pos hs55] at hf
        refine g_tabIn (off := 2092) (tgt := 2125) X 55 hs55 dL_law_33 (by decide) (by decide) (by decide +kernel) (by decide) ?_
        refine g_aload_n X dL_law_2125 1 rfl ?_
        refine g_callV (n := 0) (av := []) (rest := []) (k := 11) X hf (fun p340 => (some (tI p340.1), p340.2)) (fun _ q => m_X11_again q) (gdV tb_1125 tb_1126 tb_1127 tb_1 tb_1128) rfl (by decide +kernel) rfl (by decide) rfl (by decide) (by constructor <;> simp only [room_1] <;> omega) rfl (Nat.le_of_ble_eq_true rfl) dL_law_2126 (fun p340 hf => ?_)
        refine g_aload_n X dL_law_2129 2 rfl ?_
        refine g_callV (n := 0) (av := []) (rest := [tI p340.1]) (k := 12) X hf (fun p341 => (some (tI p341.1), p341.2)) (fun _ q => m_X12_again q) (gdV tb_1640 tb_1641 tb_1642 tb_12 tb_1643) rfl (by decide +kernel) rfl (by decide) rfl (by decide) (by constructor <;> simp only [room_1] <;> omega) rfl (Nat.le_of_ble_eq_true rfl) dL_law_2130 (fun p341 hf => ?_)
        refine g_icmpeq (tgt := 2138) X hf dL_law_2133 (by decide) (fun hf => ?_) (fun hf => ?_)
        · refine g_iinc (v := (x3 + 7)) (lv' := [(0, tR x0), (1, tR x1), (2, tR x2), (3, tI (x3 + 7))]) X dL_law_2138 3 rfl (by rfl) (by decide) (in_pick [1, 2, 3, 0] rfl) ?_
          refine g_goto (tgt := 18) X dL_law_2141 (by decide) ?_
          refine g_widen (k := (98011 - n * 163)) (n := (2189966 - n * 3633)) (by omega) (by omega) ?_
          exact ih (by omega) x0 x1 x2 (x3 + 7) p341.2 hB hf
        · refine g_iconst (v := 0) X dL_law_2136 (by decide) ?_
          exact g_zreturn X (zW hf) (by decide) (by omega) (by omega) dL_law_2137
      rw [if_neg hs55] at hf
      cases hf
def g_L_law (L : Nat) (xs : Nat → Int32) (a0 : Option Nat) (h : AH) : Option (Int32 × AH) :=
  (nO 11 17 tyX11 h).bind fun h1 =>
  (f_X11_init h.1 h1).bind fun h2 =>
  (nO 12 43 tyX12 h2).bind fun h3 =>
  (f_X12_init h2.1 h3).bind fun h4 =>
  c_L_law_18 L xs 600 a0 (some h.1) (some h2.1) 0 h4
set_option maxRecDepth 20000 in
theorem nL_law {K : KT} {nm : String} {L : Nat} {xs : Nat → Int32} {a0 : Option Nat} {h : AH} {w : (Int32 × AH)} (X : CX K cL_law RL TB (some .boolean) nm room_1 4 600000 7302250) (hB : SB K a0 L xs) (hf : g_L_law L xs a0 h = some w) : GG K (some (tI w.1), w.2) 0 0 0 [(0, tR a0)] [] h := by
  unfold g_L_law at hf
  refine g_new X hf (T := TX11) rfl (by decide) in_RX11 tyX11_ok tb_21 tb_22 tb_1 (by decide) dL_law_0 (fun h1 hf => ?_)
  refine g_dup X dL_law_3 rfl ?_
  refine g_callI (n := 0) (av := []) (rest := [tR (some h.1)]) X hf (fun _ q => m_X11_init q) (gd0 tb_25) rfl tb_23 tb_1 rfl tb_24 (by decide +kernel) rfl (by decide) (by decide) rfl (Nat.le_of_ble_eq_true rfl) dL_law_4 (fun h2 hf => ?_)
  refine g_astore_n (lv' := [(0, tR a0), (1, tR (some h.1))]) X dL_law_7 (by decide) (in_pick [1, 0] rfl) ?_
  refine g_new X hf (T := TX12) rfl (by decide) in_RX12 tyX12_ok tb_1129 tb_1130 tb_12 (by decide) dL_law_8 (fun h3 hf => ?_)
  refine g_dup X dL_law_11 rfl ?_
  refine g_callI (n := 0) (av := []) (rest := [tR (some h2.1)]) X hf (fun _ q => m_X12_init q) (gd0 tb_1133) rfl tb_1131 tb_12 rfl tb_1132 (by decide +kernel) rfl (by decide) (by decide) rfl (Nat.le_of_ble_eq_true rfl) dL_law_12 (fun h4 hf => ?_)
  refine g_astore_n (lv' := [(0, tR a0), (1, tR (some h.1)), (2, tR (some h2.1))]) X dL_law_15 (by decide) (in_pick [1, 2, 0] rfl) ?_
  refine g_iconst (v := 0) X dL_law_16 (by decide) ?_
  refine g_istore_n (lv' := [(0, tR a0), (1, tR (some h.1)), (2, tR (some h2.1)), (3, tI 0)]) X dL_law_17 (by decide) (in_pick [1, 2, 3, 0] rfl) ?_
  refine g_widen (k := (98011 - 600 * 163)) (n := (2189966 - 600 * 3633)) (by decide) (by decide) ?_
  exact y_L_law_18 X 600 (by decide) a0 (some h.1) (some h2.1) 0 h4 hB hf
