/-! THE LAW'S LOOP -/
def xget (sc : Nat → Int32) (Ln : Nat) (i : Int32) : Option Int32 := if i < 0 ∨ Ln ≤ i.toNatClampNeg then none else some (sc i.toNatClampNeg)
def KX (E : EX) (X : CX) (b Ln : Nat) (sc : Nat → Int32) : Prop := va_X b Ln sc (xs X) (xs X).heap ∧ b < (xs X).heap.size ∧ ¬ AE E b
def QW (X : CX) : Int32 → State → Prop := fun r t => r = 1 → lw_Z (xb X) (xa X) (xs X) t
abbrev retL : Option FieldType := ret
section LAW
variable {ρ : Type} {l : Launch} {E : EX} {X : CX} {cc : ByteArray} {nL kk : Nat} {own : String} {ret : Option FieldType} {Q : ρ → State → Prop} {bo : Option ρ} {σ : Sg} {lv : List (Nat × Value)} {st : List Value} {pc pc' b Ln : Nat} {sc : Nat → Int32}
theorem MF.xald {i : Int32} {kb : Int32 → Option ρ} (C : CxOK l E X cc nL own ret kk) (K : KX E X b Ln sc) (d : Dc cc pc .iaload 1 pc') (k : ∀ v : Int32, MF l E X Q (kb v) σ pc' lv (.int v :: st)) : MF l E X Q ((xget sc Ln i).bind kb) σ pc lv (.int i :: .ref b :: st) := by
  intro r hr H locs ls hP hS hl
  obtain ⟨d1, rfl⟩ := d
  unfold xget at hr
  by_cases h : i < 0 ∨ Ln ≤ i.toNatClampNeg
  · rw [if_pos h] at hr; cases hr
  · rw [if_neg h] at hr
    exact va_sld C.1.1 C.1.2.1 K.1 K.2.1 K.2.2 hS h d1 (k _ r hr H locs ls hP hS hl)
theorem MF.xlen (C : CxOK l E X cc nL own ret kk) (K : KX E X b Ln sc) (d : Dc cc pc .arraylength 1 pc') (k : MF l E X Q bo σ pc' lv (.int (nI Ln) :: st)) : MF l E X Q bo σ pc lv (.ref b :: st) := by
  intro r hr H locs ls hP hS hl
  obtain ⟨d1, rfl⟩ := d
  exact va_slen C.1.1 C.1.2.1 K.1 K.2.1 K.2.2 hS d1 (k r hr H locs ls hP hS hl)
theorem MF.lend0 : MF l E X (QW X) (some (0 : Int32)) σ pc lv st := by
  intro r hr H locs ls hP hS hl
  cases hr
  exact fun T hT X' => ⟨_, Steps.refl _, fun h => absurd h (by decide)⟩
theorem MF.lend1 {p : Program} {e : Env} {s : State} {m : MethodId} {below : List Frame} {meth : Method} {c : Code} (C : CxOK l E (p, e, room_1, s, m, #[Value.ref b], below, meth, c, 600000, 7302250) code 4 own retL kk) (hfr : ∀ q, AE E q → s.heap.size ≤ q) (d : decode code pc = .ok (.ireturn, 1)) : MF l E (p, e, room_1, s, m, #[Value.ref b], below, meth, c, 600000, 7302250) (QW (p, e, room_1, s, m, #[Value.ref b], below, meth, c, 600000, 7302250)) (some (1 : Int32)) σ pc lv [.int 1] := by
  intro r hr H locs ls hP hS hl T hT X'
  cases hr
  obtain ⟨t, a1, a2⟩ := va_forget (fun q hq => hfr _ (hS.2.2 q hq)) (lw_ret (ls := ls) C.1.1 C.1.2.1 C.2.2.2.2.2.2.1 C.2.2.2.2.2.2.2 d) T hT X'
  exact ⟨t, a1, fun _ => a2⟩
end LAW

theorem k_L_13 : Cond.methodLink RL 13 yX7_town ∈ Gw := Gw_in (List.mem_of_getElem? (i := 315) (by decide +kernel)) rfl
theorem k_L_17 : Cond.methodLink RL 17 yX8_town ∈ Gw := Gw_in (List.mem_of_getElem? (i := 1043) (by decide +kernel)) rfl
theorem k_L_18 : Cond.methodLink RL 18 yX7_street ∈ Gw := Gw_in (List.mem_of_getElem? (i := 396) (by decide +kernel)) rfl
theorem k_L_22 : Cond.methodLink RL 22 yX8_street ∈ Gw := Gw_in (List.mem_of_getElem? (i := 1062) (by decide +kernel)) rfl
theorem k_L_23 : Cond.methodLink RL 23 yX7_event ∈ Gw := Gw_in (List.mem_of_getElem? (i := 400) (by decide +kernel)) rfl
theorem k_L_27 : Cond.methodLink RL 27 yX8_event ∈ Gw := Gw_in (List.mem_of_getElem? (i := 1079) (by decide +kernel)) rfl
theorem k_L_28 : Cond.methodLink RL 28 yX7_back ∈ Gw := Gw_in (List.mem_of_getElem? (i := 404) (by decide +kernel)) rfl
theorem k_L_31 : Cond.methodLink RL 31 yX8_back ∈ Gw := Gw_in (List.mem_of_getElem? (i := 1103) (by decide +kernel)) rfl
theorem k_L_32 : Cond.methodLink RL 32 yX7_law ∈ Gw := Gw_in (List.mem_of_getElem? (i := 414) (by decide +kernel)) rfl
theorem k_L_35 : Cond.methodLink RL 35 yX8_law ∈ Gw := Gw_in (List.mem_of_getElem? (i := 1111) (by decide +kernel)) rfl
theorem k_L_36 : Cond.methodLink RL 36 yX7_undo ∈ Gw := Gw_in (List.mem_of_getElem? (i := 423) (by decide +kernel)) rfl
theorem k_L_40 : Cond.methodLink RL 40 yX8_undo ∈ Gw := Gw_in (List.mem_of_getElem? (i := 1115) (by decide +kernel)) rfl
theorem k_L_41 : Cond.methodLink RL 41 yX7_rent ∈ Gw := Gw_in (List.mem_of_getElem? (i := 435) (by decide +kernel)) rfl
theorem k_L_45 : Cond.methodLink RL 45 yX8_rent ∈ Gw := Gw_in (List.mem_of_getElem? (i := 1123) (by decide +kernel)) rfl
theorem k_L_46 : Cond.methodLink RL 46 yX7_type ∈ Gw := Gw_in (List.mem_of_getElem? (i := 439) (by decide +kernel)) rfl
theorem k_L_49 : Cond.methodLink RL 49 yX8_type ∈ Gw := Gw_in (List.mem_of_getElem? (i := 1295) (by decide +kernel)) rfl
theorem k_L_50 : Cond.methodLink RL 50 yX7_clear ∈ Gw := Gw_in (List.mem_of_getElem? (i := 456) (by decide +kernel)) rfl
theorem k_L_53 : Cond.methodLink RL 53 yX8_clear ∈ Gw := Gw_in (List.mem_of_getElem? (i := 1300) (by decide +kernel)) rfl
theorem k_L_54 : Cond.methodLink RL 54 yX7_read ∈ Gw := Gw_in (List.mem_of_getElem? (i := 464) (by decide +kernel)) rfl
theorem k_L_57 : Cond.methodLink RL 57 yX8_read ∈ Gw := Gw_in (List.mem_of_getElem? (i := 1304) (by decide +kernel)) rfl
theorem k_L_58 : Cond.methodLink RL 58 yX7_of ∈ Gw := Gw_in (List.mem_of_getElem? (i := 575) (by decide +kernel)) rfl
theorem k_L_61 : Cond.methodLink RL 61 yX8_of ∈ Gw := Gw_in (List.mem_of_getElem? (i := 1128) (by decide +kernel)) rfl
theorem k_L_62 : Cond.methodLink RL 62 yX7_name ∈ Gw := Gw_in (List.mem_of_getElem? (i := 613) (by decide +kernel)) rfl
theorem k_L_65 : Cond.methodLink RL 65 yX8_name ∈ Gw := Gw_in (List.mem_of_getElem? (i := 1157) (by decide +kernel)) rfl
theorem k_L_66 : Cond.methodLink RL 66 yX7_changes ∈ Gw := Gw_in (List.mem_of_getElem? (i := 694) (by decide +kernel)) rfl
theorem k_L_69 : Cond.methodLink RL 69 yX8_changes ∈ Gw := Gw_in (List.mem_of_getElem? (i := 1185) (by decide +kernel)) rfl
theorem k_L_70 : Cond.methodLink RL 70 yX7_which ∈ Gw := Gw_in (List.mem_of_getElem? (i := 707) (by decide +kernel)) rfl
theorem k_L_74 : Cond.methodLink RL 74 yX8_which ∈ Gw := Gw_in (List.mem_of_getElem? (i := 1189) (by decide +kernel)) rfl
theorem k_L_75 : Cond.methodLink RL 75 yX7_letter ∈ Gw := Gw_in (List.mem_of_getElem? (i := 716) (by decide +kernel)) rfl
theorem k_L_78 : Cond.methodLink RL 78 yX8_letter ∈ Gw := Gw_in (List.mem_of_getElem? (i := 1197) (by decide +kernel)) rfl
theorem k_L_79 : Cond.methodLink RL 79 yX7_cab ∈ Gw := Gw_in (List.mem_of_getElem? (i := 724) (by decide +kernel)) rfl
theorem k_L_82 : Cond.methodLink RL 82 yX8_cab ∈ Gw := Gw_in (List.mem_of_getElem? (i := 1204) (by decide +kernel)) rfl
theorem k_L_83 : Cond.methodLink RL 83 yX7_find ∈ Gw := Gw_in (List.mem_of_getElem? (i := 731) (by decide +kernel)) rfl
theorem k_L_86 : Cond.methodLink RL 86 yX8_find ∈ Gw := Gw_in (List.mem_of_getElem? (i := 1208) (by decide +kernel)) rfl
theorem k_L_87 : Cond.methodLink RL 87 yX7_stage ∈ Gw := Gw_in (List.mem_of_getElem? (i := 752) (by decide +kernel)) rfl
theorem k_L_90 : Cond.methodLink RL 90 yX8_stage ∈ Gw := Gw_in (List.mem_of_getElem? (i := 1220) (by decide +kernel)) rfl
theorem k_L_91 : Cond.methodLink RL 91 yX7_forbid ∈ Gw := Gw_in (List.mem_of_getElem? (i := 783) (by decide +kernel)) rfl
theorem k_L_94 : Cond.methodLink RL 94 yX8_forbid ∈ Gw := Gw_in (List.mem_of_getElem? (i := 1236) (by decide +kernel)) rfl
theorem k_L_95 : Cond.methodLink RL 95 yX7_rents ∈ Gw := Gw_in (List.mem_of_getElem? (i := 797) (by decide +kernel)) rfl
theorem k_L_98 : Cond.methodLink RL 98 yX8_rents ∈ Gw := Gw_in (List.mem_of_getElem? (i := 1240) (by decide +kernel)) rfl
theorem k_L_99 : Cond.methodLink RL 99 yX7_landlords ∈ Gw := Gw_in (List.mem_of_getElem? (i := 809) (by decide +kernel)) rfl
theorem k_L_102 : Cond.methodLink RL 102 yX8_landlords ∈ Gw := Gw_in (List.mem_of_getElem? (i := 1248) (by decide +kernel)) rfl
theorem k_L_103 : Cond.methodLink RL 103 yX7_round ∈ Gw := Gw_in (List.mem_of_getElem? (i := 827) (by decide +kernel)) rfl
theorem k_L_106 : Cond.methodLink RL 106 yX8_round ∈ Gw := Gw_in (List.mem_of_getElem? (i := 1260) (by decide +kernel)) rfl
theorem k_L_107 : Cond.methodLink RL 107 yX7_reading ∈ Gw := Gw_in (List.mem_of_getElem? (i := 863) (by decide +kernel)) rfl
theorem k_L_110 : Cond.methodLink RL 110 yX8_reading ∈ Gw := Gw_in (List.mem_of_getElem? (i := 1268) (by decide +kernel)) rfl
theorem k_L_111 : Cond.methodLink RL 111 yX7_burn ∈ Gw := Gw_in (List.mem_of_getElem? (i := 869) (by decide +kernel)) rfl
theorem k_L_114 : Cond.methodLink RL 114 yX8_burn ∈ Gw := Gw_in (List.mem_of_getElem? (i := 1272) (by decide +kernel)) rfl
theorem k_L_115 : Cond.methodLink RL 115 yX7_truly ∈ Gw := Gw_in (List.mem_of_getElem? (i := 874) (by decide +kernel)) rfl
theorem k_L_118 : Cond.methodLink RL 118 yX8_truly ∈ Gw := Gw_in (List.mem_of_getElem? (i := 1276) (by decide +kernel)) rfl
theorem k_L_119 : Cond.methodLink RL 119 yX7_drawn ∈ Gw := Gw_in (List.mem_of_getElem? (i := 891) (by decide +kernel)) rfl
theorem k_L_122 : Cond.methodLink RL 122 yX8_drawn ∈ Gw := Gw_in (List.mem_of_getElem? (i := 1284) (by decide +kernel)) rfl
theorem k_L_123 : Cond.methodLink RL 123 yX7_image ∈ Gw := Gw_in (List.mem_of_getElem? (i := 907) (by decide +kernel)) rfl
theorem k_L_126 : Cond.methodLink RL 126 yX8_image ∈ Gw := Gw_in (List.mem_of_getElem? (i := 1354) (by decide +kernel)) rfl
theorem k_L_127 : Cond.methodLink RL 127 yX7_from ∈ Gw := Gw_in (List.mem_of_getElem? (i := 915) (by decide +kernel)) rfl
theorem k_L_130 : Cond.methodLink RL 130 yX8_from ∈ Gw := Gw_in (List.mem_of_getElem? (i := 1358) (by decide +kernel)) rfl
theorem k_L_131 : Cond.methodLink RL 131 yX7_status ∈ Gw := Gw_in (List.mem_of_getElem? (i := 920) (by decide +kernel)) rfl
theorem k_L_134 : Cond.methodLink RL 134 yX8_status ∈ Gw := Gw_in (List.mem_of_getElem? (i := 1362) (by decide +kernel)) rfl
theorem k_L_135 : Cond.methodLink RL 135 yX7_count ∈ Gw := Gw_in (List.mem_of_getElem? (i := 924) (by decide +kernel)) rfl
theorem k_L_138 : Cond.methodLink RL 138 yX8_count ∈ Gw := Gw_in (List.mem_of_getElem? (i := 1366) (by decide +kernel)) rfl
theorem k_L_139 : Cond.methodLink RL 139 yX7_digest ∈ Gw := Gw_in (List.mem_of_getElem? (i := 932) (by decide +kernel)) rfl
theorem k_L_143 : Cond.methodLink RL 143 yX8_digest ∈ Gw := Gw_in (List.mem_of_getElem? (i := 1374) (by decide +kernel)) rfl
def b_L_law_18 (Ln : Nat) (sc : Nat → Int32) (self3 : Int32 → Sg → Option Int32) (i1 : Int32) (s2 : Sg) : Option Int32 :=
  if ((nI Ln) - (nI 7)) < i1 then
    some (nI 1)
  else
    (xget sc Ln i1).bind fun (v4 : Int32) =>
    nm_ (fun (s5 : Sg) =>
      self3 (i1 + (nI 7)) s5) fun j6 =>
    if (v4 &&& (nI 31)) = (nI 0) then
      (xget sc Ln (i1 + (nI 1))).bind fun (v7 : Int32) =>
      ob2 (f_X7_town v7 s2) fun (v8 : Int32) (s9 : Sg) =>
      (xget sc Ln (i1 + (nI 1))).bind fun (v10 : Int32) =>
      ob2 (f_X8_town v10 s9) fun (v11 : Int32) (s12 : Sg) =>
      if v8 = v11 then
        j6 s12
      else
        some (nI 0)
    else
      if (v4 &&& (nI 31)) = (nI 1) then
        (xget sc Ln (i1 + (nI 1))).bind fun (v13 : Int32) =>
        (xget sc Ln (i1 + (nI 2))).bind fun (v14 : Int32) =>
        (xget sc Ln (i1 + (nI 3))).bind fun (v15 : Int32) =>
        (xget sc Ln (i1 + (nI 4))).bind fun (v16 : Int32) =>
        ob2 (f_X7_street v13 v14 v15 v16 s2) fun (v17 : Int32) (s18 : Sg) =>
        (xget sc Ln (i1 + (nI 1))).bind fun (v19 : Int32) =>
        (xget sc Ln (i1 + (nI 2))).bind fun (v20 : Int32) =>
        (xget sc Ln (i1 + (nI 3))).bind fun (v21 : Int32) =>
        (xget sc Ln (i1 + (nI 4))).bind fun (v22 : Int32) =>
        ob2 (f_X8_street v19 v20 v21 v22 s18) fun (v23 : Int32) (s24 : Sg) =>
        if v17 = v23 then
          j6 s24
        else
          some (nI 0)
      else
        if (v4 &&& (nI 31)) = (nI 2) then
          (xget sc Ln (i1 + (nI 1))).bind fun (v25 : Int32) =>
          (xget sc Ln (i1 + (nI 2))).bind fun (v26 : Int32) =>
          (xget sc Ln (i1 + (nI 3))).bind fun (v27 : Int32) =>
          (xget sc Ln (i1 + (nI 4))).bind fun (v28 : Int32) =>
          (xget sc Ln (i1 + (nI 5))).bind fun (v29 : Int32) =>
          (xget sc Ln (i1 + (nI 6))).bind fun (v30 : Int32) =>
          ob2 (f_X7_event v25 v26 v27 v28 v29 v30 s2) fun (v31 : Int32) (s32 : Sg) =>
          (xget sc Ln (i1 + (nI 1))).bind fun (v33 : Int32) =>
          (xget sc Ln (i1 + (nI 2))).bind fun (v34 : Int32) =>
          (xget sc Ln (i1 + (nI 3))).bind fun (v35 : Int32) =>
          (xget sc Ln (i1 + (nI 4))).bind fun (v36 : Int32) =>
          (xget sc Ln (i1 + (nI 5))).bind fun (v37 : Int32) =>
          (xget sc Ln (i1 + (nI 6))).bind fun (v38 : Int32) =>
          ob2 (f_X8_event v33 v34 v35 v36 v37 v38 s32) fun (v39 : Int32) (s40 : Sg) =>
          if v31 = v39 then
            j6 s40
          else
            some (nI 0)
        else
          if (v4 &&& (nI 31)) = (nI 3) then
            (xget sc Ln (i1 + (nI 1))).bind fun (v41 : Int32) =>
            ob2 (f_X7_back v41 s2) fun (v42 : Int32) (s43 : Sg) =>
            (xget sc Ln (i1 + (nI 1))).bind fun (v44 : Int32) =>
            ob2 (f_X8_back v44 s43) fun (v45 : Int32) (s46 : Sg) =>
            if v42 = v45 then
              j6 s46
            else
              some (nI 0)
          else
            if (v4 &&& (nI 31)) = (nI 4) then
              (xget sc Ln (i1 + (nI 1))).bind fun (v47 : Int32) =>
              ob2 (f_X7_law v47 s2) fun (v48 : Int32) (s49 : Sg) =>
              (xget sc Ln (i1 + (nI 1))).bind fun (v50 : Int32) =>
              ob2 (f_X8_law v50 s49) fun (v51 : Int32) (s52 : Sg) =>
              if v48 = v51 then
                j6 s52
              else
                some (nI 0)
            else
              if (v4 &&& (nI 31)) = (nI 5) then
                ob2 (f_X7_undo s2) fun (v53 : Int32) (s54 : Sg) =>
                ob2 (f_X8_undo s54) fun (v55 : Int32) (s56 : Sg) =>
                if v53 = v55 then
                  j6 s56
                else
                  some (nI 0)
              else
                if (v4 &&& (nI 31)) = (nI 6) then
                  (xget sc Ln (i1 + (nI 1))).bind fun (v57 : Int32) =>
                  (xget sc Ln (i1 + (nI 2))).bind fun (v58 : Int32) =>
                  ob2 (f_X7_rent v57 v58 s2) fun (v59 : Int32) (s60 : Sg) =>
                  (xget sc Ln (i1 + (nI 1))).bind fun (v61 : Int32) =>
                  (xget sc Ln (i1 + (nI 2))).bind fun (v62 : Int32) =>
                  ob2 (f_X8_rent v61 v62 s60) fun (v63 : Int32) (s64 : Sg) =>
                  if v59 = v63 then
                    j6 s64
                  else
                    some (nI 0)
                else
                  if (v4 &&& (nI 31)) = (nI 7) then
                    (xget sc Ln (i1 + (nI 1))).bind fun (v65 : Int32) =>
                    ob2 (f_X7_type v65 s2) fun (v66 : Int32) (s67 : Sg) =>
                    (xget sc Ln (i1 + (nI 1))).bind fun (v68 : Int32) =>
                    ob2 (f_X8_type v68 s67) fun (v69 : Int32) (s70 : Sg) =>
                    if v66 = v69 then
                      j6 s70
                    else
                      some (nI 0)
                  else
                    if (v4 &&& (nI 31)) = (nI 8) then
                      ob2 (f_X7_clear s2) fun (v71 : Int32) (s72 : Sg) =>
                      ob2 (f_X8_clear s72) fun (v73 : Int32) (s74 : Sg) =>
                      if v71 = v73 then
                        j6 s74
                      else
                        some (nI 0)
                    else
                      if (v4 &&& (nI 31)) = (nI 9) then
                        ob2 (f_X7_read s2) fun (v75 : Int32) (s76 : Sg) =>
                        ob2 (f_X8_read s76) fun (v77 : Int32) (s78 : Sg) =>
                        if v75 = v77 then
                          j6 s78
                        else
                          some (nI 0)
                      else
                        if (v4 &&& (nI 31)) = (nI 10) then
                          (xget sc Ln (i1 + (nI 1))).bind fun (v79 : Int32) =>
                          (xget sc Ln (i1 + (nI 2))).bind fun (v80 : Int32) =>
                          ob2 (f_X7_of v79 v80 s2) fun (v81 : Int32) (s82 : Sg) =>
                          (xget sc Ln (i1 + (nI 1))).bind fun (v83 : Int32) =>
                          (xget sc Ln (i1 + (nI 2))).bind fun (v84 : Int32) =>
                          ob2 (f_X8_of v83 v84 s82) fun (v85 : Int32) (s86 : Sg) =>
                          if v81 = v85 then
                            j6 s86
                          else
                            some (nI 0)
                        else
                          if (v4 &&& (nI 31)) = (nI 11) then
                            (xget sc Ln (i1 + (nI 1))).bind fun (v87 : Int32) =>
                            (xget sc Ln (i1 + (nI 2))).bind fun (v88 : Int32) =>
                            ob2 (f_X7_name v87 v88 s2) fun (v89 : Int32) (s90 : Sg) =>
                            (xget sc Ln (i1 + (nI 1))).bind fun (v91 : Int32) =>
                            (xget sc Ln (i1 + (nI 2))).bind fun (v92 : Int32) =>
                            ob2 (f_X8_name v91 v92 s90) fun (v93 : Int32) (s94 : Sg) =>
                            if v89 = v93 then
                              j6 s94
                            else
                              some (nI 0)
                          else
                            if (v4 &&& (nI 31)) = (nI 12) then
                              (xget sc Ln (i1 + (nI 1))).bind fun (v95 : Int32) =>
                              ob2 (f_X7_changes v95 s2) fun (v96 : Int32) (s97 : Sg) =>
                              (xget sc Ln (i1 + (nI 1))).bind fun (v98 : Int32) =>
                              ob2 (f_X8_changes v98 s97) fun (v99 : Int32) (s100 : Sg) =>
                              if v96 = v99 then
                                j6 s100
                              else
                                some (nI 0)
                            else
                              if (v4 &&& (nI 31)) = (nI 13) then
                                (xget sc Ln (i1 + (nI 1))).bind fun (v101 : Int32) =>
                                (xget sc Ln (i1 + (nI 2))).bind fun (v102 : Int32) =>
                                (xget sc Ln (i1 + (nI 3))).bind fun (v103 : Int32) =>
                                ob2 (f_X7_which v101 v102 v103 s2) fun (v104 : Int32) (s105 : Sg) =>
                                (xget sc Ln (i1 + (nI 1))).bind fun (v106 : Int32) =>
                                (xget sc Ln (i1 + (nI 2))).bind fun (v107 : Int32) =>
                                (xget sc Ln (i1 + (nI 3))).bind fun (v108 : Int32) =>
                                ob2 (f_X8_which v106 v107 v108 s105) fun (v109 : Int32) (s110 : Sg) =>
                                if v104 = v109 then
                                  j6 s110
                                else
                                  some (nI 0)
                              else
                                if (v4 &&& (nI 31)) = (nI 14) then
                                  (xget sc Ln (i1 + (nI 1))).bind fun (v111 : Int32) =>
                                  (xget sc Ln (i1 + (nI 2))).bind fun (v112 : Int32) =>
                                  (xget sc Ln (i1 + (nI 3))).bind fun (v113 : Int32) =>
                                  ob2 (f_X7_letter v111 v112 v113 s2) fun (v114 : Int32) (s115 : Sg) =>
                                  (xget sc Ln (i1 + (nI 1))).bind fun (v116 : Int32) =>
                                  (xget sc Ln (i1 + (nI 2))).bind fun (v117 : Int32) =>
                                  (xget sc Ln (i1 + (nI 3))).bind fun (v118 : Int32) =>
                                  ob2 (f_X8_letter v116 v117 v118 s115) fun (v119 : Int32) (s120 : Sg) =>
                                  if v114 = v119 then
                                    j6 s120
                                  else
                                    some (nI 0)
                                else
                                  if (v4 &&& (nI 31)) = (nI 15) then
                                    (xget sc Ln (i1 + (nI 1))).bind fun (v121 : Int32) =>
                                    (xget sc Ln (i1 + (nI 2))).bind fun (v122 : Int32) =>
                                    (xget sc Ln (i1 + (nI 3))).bind fun (v123 : Int32) =>
                                    ob2 (f_X7_cab v121 v122 v123 s2) fun (v124 : Int32) (s125 : Sg) =>
                                    (xget sc Ln (i1 + (nI 1))).bind fun (v126 : Int32) =>
                                    (xget sc Ln (i1 + (nI 2))).bind fun (v127 : Int32) =>
                                    (xget sc Ln (i1 + (nI 3))).bind fun (v128 : Int32) =>
                                    ob2 (f_X8_cab v126 v127 v128 s125) fun (v129 : Int32) (s130 : Sg) =>
                                    if v124 = v129 then
                                      j6 s130
                                    else
                                      some (nI 0)
                                  else
                                    if (v4 &&& (nI 31)) = (nI 16) then
                                      (xget sc Ln (i1 + (nI 1))).bind fun (v131 : Int32) =>
                                      (xget sc Ln (i1 + (nI 2))).bind fun (v132 : Int32) =>
                                      ob2 (f_X7_find v131 v132 s2) fun (v133 : Int32) (s134 : Sg) =>
                                      (xget sc Ln (i1 + (nI 1))).bind fun (v135 : Int32) =>
                                      (xget sc Ln (i1 + (nI 2))).bind fun (v136 : Int32) =>
                                      ob2 (f_X8_find v135 v136 s134) fun (v137 : Int32) (s138 : Sg) =>
                                      if v133 = v137 then
                                        j6 s138
                                      else
                                        some (nI 0)
                                    else
                                      if (v4 &&& (nI 31)) = (nI 17) then
                                        (xget sc Ln (i1 + (nI 1))).bind fun (v139 : Int32) =>
                                        (xget sc Ln (i1 + (nI 2))).bind fun (v140 : Int32) =>
                                        (xget sc Ln (i1 + (nI 3))).bind fun (v141 : Int32) =>
                                        (xget sc Ln (i1 + (nI 4))).bind fun (v142 : Int32) =>
                                        ob2 (f_X7_stage v139 v140 v141 v142 s2) fun (v143 : Int32) (s144 : Sg) =>
                                        (xget sc Ln (i1 + (nI 1))).bind fun (v145 : Int32) =>
                                        (xget sc Ln (i1 + (nI 2))).bind fun (v146 : Int32) =>
                                        (xget sc Ln (i1 + (nI 3))).bind fun (v147 : Int32) =>
                                        (xget sc Ln (i1 + (nI 4))).bind fun (v148 : Int32) =>
                                        ob2 (f_X8_stage v145 v146 v147 v148 s144) fun (v149 : Int32) (s150 : Sg) =>
                                        if v143 = v149 then
                                          j6 s150
                                        else
                                          some (nI 0)
                                      else
                                        if (v4 &&& (nI 31)) = (nI 18) then
                                          (xget sc Ln (i1 + (nI 1))).bind fun (v151 : Int32) =>
                                          ob2 (f_X7_forbid v151 s2) fun (v152 : Int32) (s153 : Sg) =>
                                          (xget sc Ln (i1 + (nI 1))).bind fun (v154 : Int32) =>
                                          ob2 (f_X8_forbid v154 s153) fun (v155 : Int32) (s156 : Sg) =>
                                          if v152 = v155 then
                                            j6 s156
                                          else
                                            some (nI 0)
                                        else
                                          if (v4 &&& (nI 31)) = (nI 19) then
                                            (xget sc Ln (i1 + (nI 1))).bind fun (v157 : Int32) =>
                                            ob2 (f_X7_rents v157 s2) fun (v158 : Int32) (s159 : Sg) =>
                                            (xget sc Ln (i1 + (nI 1))).bind fun (v160 : Int32) =>
                                            ob2 (f_X8_rents v160 s159) fun (v161 : Int32) (s162 : Sg) =>
                                            if v158 = v161 then
                                              j6 s162
                                            else
                                              some (nI 0)
                                          else
                                            if (v4 &&& (nI 31)) = (nI 20) then
                                              (xget sc Ln (i1 + (nI 1))).bind fun (v163 : Int32) =>
                                              (xget sc Ln (i1 + (nI 2))).bind fun (v164 : Int32) =>
                                              (xget sc Ln (i1 + (nI 3))).bind fun (v165 : Int32) =>
                                              (xget sc Ln (i1 + (nI 4))).bind fun (v166 : Int32) =>
                                              ob2 (f_X7_landlords v163 v164 v165 v166 s2) fun (v167 : Int32) (s168 : Sg) =>
                                              (xget sc Ln (i1 + (nI 1))).bind fun (v169 : Int32) =>
                                              (xget sc Ln (i1 + (nI 2))).bind fun (v170 : Int32) =>
                                              (xget sc Ln (i1 + (nI 3))).bind fun (v171 : Int32) =>
                                              (xget sc Ln (i1 + (nI 4))).bind fun (v172 : Int32) =>
                                              ob2 (f_X8_landlords v169 v170 v171 v172 s168) fun (v173 : Int32) (s174 : Sg) =>
                                              if v167 = v173 then
                                                j6 s174
                                              else
                                                some (nI 0)
                                            else
                                              if (v4 &&& (nI 31)) = (nI 21) then
                                                (xget sc Ln (i1 + (nI 1))).bind fun (v175 : Int32) =>
                                                (xget sc Ln (i1 + (nI 2))).bind fun (v176 : Int32) =>
                                                ob2 (f_X7_round v175 v176 s2) fun (v177 : Int32) (s178 : Sg) =>
                                                (xget sc Ln (i1 + (nI 1))).bind fun (v179 : Int32) =>
                                                (xget sc Ln (i1 + (nI 2))).bind fun (v180 : Int32) =>
                                                ob2 (f_X8_round v179 v180 s178) fun (v181 : Int32) (s182 : Sg) =>
                                                if v177 = v181 then
                                                  j6 s182
                                                else
                                                  some (nI 0)
                                              else
                                                if (v4 &&& (nI 31)) = (nI 22) then
                                                  (xget sc Ln (i1 + (nI 1))).bind fun (v183 : Int32) =>
                                                  (xget sc Ln (i1 + (nI 2))).bind fun (v184 : Int32) =>
                                                  (xget sc Ln (i1 + (nI 3))).bind fun (v185 : Int32) =>
                                                  ob2 (f_X7_reading v183 v184 v185 s2) fun (v186 : Int32) (s187 : Sg) =>
                                                  (xget sc Ln (i1 + (nI 1))).bind fun (v188 : Int32) =>
                                                  (xget sc Ln (i1 + (nI 2))).bind fun (v189 : Int32) =>
                                                  (xget sc Ln (i1 + (nI 3))).bind fun (v190 : Int32) =>
                                                  ob2 (f_X8_reading v188 v189 v190 s187) fun (v191 : Int32) (s192 : Sg) =>
                                                  if v186 = v191 then
                                                    j6 s192
                                                  else
                                                    some (nI 0)
                                                else
                                                  if (v4 &&& (nI 31)) = (nI 23) then
                                                    ob2 (f_X7_burn s2) fun (v193 : Int32) (s194 : Sg) =>
                                                    ob2 (f_X8_burn s194) fun (v195 : Int32) (s196 : Sg) =>
                                                    if v193 = v195 then
                                                      j6 s196
                                                    else
                                                      some (nI 0)
                                                  else
                                                    if (v4 &&& (nI 31)) = (nI 24) then
                                                      (xget sc Ln (i1 + (nI 1))).bind fun (v197 : Int32) =>
                                                      ob2 (f_X7_truly v197 s2) fun (v198 : Int32) (s199 : Sg) =>
                                                      (xget sc Ln (i1 + (nI 1))).bind fun (v200 : Int32) =>
                                                      ob2 (f_X8_truly v200 s199) fun (v201 : Int32) (s202 : Sg) =>
                                                      if v198 = v201 then
                                                        j6 s202
                                                      else
                                                        some (nI 0)
                                                    else
                                                      if (v4 &&& (nI 31)) = (nI 25) then
                                                        (xget sc Ln (i1 + (nI 1))).bind fun (v203 : Int32) =>
                                                        (xget sc Ln (i1 + (nI 2))).bind fun (v204 : Int32) =>
                                                        (xget sc Ln (i1 + (nI 3))).bind fun (v205 : Int32) =>
                                                        ob2 (f_X7_drawn v203 v204 v205 s2) fun (v206 : Int32) (s207 : Sg) =>
                                                        (xget sc Ln (i1 + (nI 1))).bind fun (v208 : Int32) =>
                                                        (xget sc Ln (i1 + (nI 2))).bind fun (v209 : Int32) =>
                                                        (xget sc Ln (i1 + (nI 3))).bind fun (v210 : Int32) =>
                                                        ob2 (f_X8_drawn v208 v209 v210 s207) fun (v211 : Int32) (s212 : Sg) =>
                                                        if v206 = v211 then
                                                          j6 s212
                                                        else
                                                          some (nI 0)
                                                      else
                                                        if (v4 &&& (nI 31)) = (nI 26) then
                                                          (xget sc Ln (i1 + (nI 1))).bind fun (v213 : Int32) =>
                                                          ob2 (f_X7_image v213 s2) fun (v214 : Int32) (s215 : Sg) =>
                                                          (xget sc Ln (i1 + (nI 1))).bind fun (v216 : Int32) =>
                                                          ob2 (f_X8_image v216 s215) fun (v217 : Int32) (s218 : Sg) =>
                                                          if v214 = v217 then
                                                            j6 s218
                                                          else
                                                            some (nI 0)
                                                        else
                                                          if (v4 &&& (nI 31)) = (nI 27) then
                                                            (xget sc Ln (i1 + (nI 1))).bind fun (v219 : Int32) =>
                                                            ob2 (f_X7_from v219 s2) fun (v220 : Int32) (s221 : Sg) =>
                                                            (xget sc Ln (i1 + (nI 1))).bind fun (v222 : Int32) =>
                                                            ob2 (f_X8_from v222 s221) fun (v223 : Int32) (s224 : Sg) =>
                                                            if v220 = v223 then
                                                              j6 s224
                                                            else
                                                              some (nI 0)
                                                          else
                                                            if (v4 &&& (nI 31)) = (nI 28) then
                                                              (xget sc Ln (i1 + (nI 1))).bind fun (v225 : Int32) =>
                                                              ob2 (f_X7_status v225 s2) fun (v226 : Int32) (s227 : Sg) =>
                                                              (xget sc Ln (i1 + (nI 1))).bind fun (v228 : Int32) =>
                                                              ob2 (f_X8_status v228 s227) fun (v229 : Int32) (s230 : Sg) =>
                                                              if v226 = v229 then
                                                                j6 s230
                                                              else
                                                                some (nI 0)
                                                            else
                                                              if (v4 &&& (nI 31)) = (nI 29) then
                                                                (xget sc Ln (i1 + (nI 1))).bind fun (v231 : Int32) =>
                                                                ob2 (f_X7_count v231 s2) fun (v232 : Int32) (s233 : Sg) =>
                                                                (xget sc Ln (i1 + (nI 1))).bind fun (v234 : Int32) =>
                                                                ob2 (f_X8_count v234 s233) fun (v235 : Int32) (s236 : Sg) =>
                                                                if v232 = v235 then
                                                                  j6 s236
                                                                else
                                                                  some (nI 0)
                                                              else
                                                                if (v4 &&& (nI 31)) = (nI 30) then
                                                                  (f_X7_digest s2).bind fun (v237 : Int64) =>
                                                                  (f_X8_digest s2).bind fun (v238 : Int64) =>
                                                                  if (lg_cmp v237 v238) = 0 then
                                                                    j6 s2
                                                                  else
                                                                    some (nI 0)
                                                                else
                                                                  j6 s2
section LWK
variable {l : Launch} {E : EX}
theorem e_L_law_18 : Dc cL_law 18 (.iload_n 3) 1 19 := ⟨by decide +kernel, rfl⟩
theorem e_L_law_19 : Dc cL_law 19 (.aload_n 0) 1 20 := ⟨by decide +kernel, rfl⟩
theorem e_L_law_20 : Dc cL_law 20 (.arraylength) 1 21 := ⟨by decide +kernel, rfl⟩
theorem e_L_law_21 : Dc cL_law 21 (.bipush 7) 2 23 := ⟨by decide +kernel, rfl⟩
theorem e_L_law_23 : Dc cL_law 23 (.isub) 1 24 := ⟨by decide +kernel, rfl⟩
theorem e_L_law_24 : Dc cL_law 24 (.if_icmp .gt 1110) 3 27 := ⟨by decide +kernel, rfl⟩
theorem e_L_law_27 : Dc cL_law 27 (.aload_n 0) 1 28 := ⟨by decide +kernel, rfl⟩
theorem e_L_law_28 : Dc cL_law 28 (.iload_n 3) 1 29 := ⟨by decide +kernel, rfl⟩
theorem e_L_law_29 : Dc cL_law 29 (.iaload) 1 30 := ⟨by decide +kernel, rfl⟩
theorem e_L_law_30 : Dc cL_law 30 (.bipush 31) 2 32 := ⟨by decide +kernel, rfl⟩
theorem e_L_law_32 : Dc cL_law 32 (.iand) 1 33 := ⟨by decide +kernel, rfl⟩
theorem e_L_law_33 : Dc cL_law 33 (.tableswitch 1095 0 30 #[139, 162, 215, 290, 313, 336, 349, 382, 405, 418, 431, 464, 497, 520, 563, 606, 649, 682, 735, 758, 781, 834, 867, 910, 923, 946, 989, 1012, 1035, 1058, 1081]) 139 172 := ⟨by decide +kernel, rfl⟩
theorem e_L_law_172 : Dc cL_law 172 (.aload_n 1) 1 173 := ⟨by decide +kernel, rfl⟩
theorem e_L_law_173 : Dc cL_law 173 (.aload_n 0) 1 174 := ⟨by decide +kernel, rfl⟩
theorem e_L_law_174 : Dc cL_law 174 (.iload_n 3) 1 175 := ⟨by decide +kernel, rfl⟩
theorem e_L_law_175 : Dc cL_law 175 (.iconst 1) 1 176 := ⟨by decide +kernel, rfl⟩
theorem e_L_law_176 : Dc cL_law 176 (.iadd) 1 177 := ⟨by decide +kernel, rfl⟩
theorem e_L_law_177 : Dc cL_law 177 (.iaload) 1 178 := ⟨by decide +kernel, rfl⟩
theorem e_L_law_178 : Dc cL_law 178 (.invokevirtual 13) 3 181 := ⟨by decide +kernel, rfl⟩
theorem e_L_law_181 : Dc cL_law 181 (.aload_n 2) 1 182 := ⟨by decide +kernel, rfl⟩
theorem e_L_law_182 : Dc cL_law 182 (.aload_n 0) 1 183 := ⟨by decide +kernel, rfl⟩
theorem e_L_law_183 : Dc cL_law 183 (.iload_n 3) 1 184 := ⟨by decide +kernel, rfl⟩
theorem e_L_law_184 : Dc cL_law 184 (.iconst 1) 1 185 := ⟨by decide +kernel, rfl⟩
theorem e_L_law_185 : Dc cL_law 185 (.iadd) 1 186 := ⟨by decide +kernel, rfl⟩
theorem e_L_law_186 : Dc cL_law 186 (.iaload) 1 187 := ⟨by decide +kernel, rfl⟩
theorem e_L_law_187 : Dc cL_law 187 (.invokevirtual 17) 3 190 := ⟨by decide +kernel, rfl⟩
theorem e_L_law_190 : Dc cL_law 190 (.if_icmp .eq 938) 3 193 := ⟨by decide +kernel, rfl⟩
theorem e_L_law_193 : Dc cL_law 193 (.iconst 0) 1 194 := ⟨by decide +kernel, rfl⟩
theorem e_L_law_194 : Dc cL_law 194 (.ireturn) 1 195 := ⟨by decide +kernel, rfl⟩
theorem e_L_law_195 : Dc cL_law 195 (.aload_n 1) 1 196 := ⟨by decide +kernel, rfl⟩
theorem e_L_law_196 : Dc cL_law 196 (.aload_n 0) 1 197 := ⟨by decide +kernel, rfl⟩
theorem e_L_law_197 : Dc cL_law 197 (.iload_n 3) 1 198 := ⟨by decide +kernel, rfl⟩
theorem e_L_law_198 : Dc cL_law 198 (.iconst 1) 1 199 := ⟨by decide +kernel, rfl⟩
theorem e_L_law_199 : Dc cL_law 199 (.iadd) 1 200 := ⟨by decide +kernel, rfl⟩
theorem e_L_law_200 : Dc cL_law 200 (.iaload) 1 201 := ⟨by decide +kernel, rfl⟩
theorem e_L_law_201 : Dc cL_law 201 (.aload_n 0) 1 202 := ⟨by decide +kernel, rfl⟩
theorem e_L_law_202 : Dc cL_law 202 (.iload_n 3) 1 203 := ⟨by decide +kernel, rfl⟩
theorem e_L_law_203 : Dc cL_law 203 (.iconst 2) 1 204 := ⟨by decide +kernel, rfl⟩
theorem e_L_law_204 : Dc cL_law 204 (.iadd) 1 205 := ⟨by decide +kernel, rfl⟩
theorem e_L_law_205 : Dc cL_law 205 (.iaload) 1 206 := ⟨by decide +kernel, rfl⟩
theorem e_L_law_206 : Dc cL_law 206 (.aload_n 0) 1 207 := ⟨by decide +kernel, rfl⟩
theorem e_L_law_207 : Dc cL_law 207 (.iload_n 3) 1 208 := ⟨by decide +kernel, rfl⟩
theorem e_L_law_208 : Dc cL_law 208 (.iconst 3) 1 209 := ⟨by decide +kernel, rfl⟩
theorem e_L_law_209 : Dc cL_law 209 (.iadd) 1 210 := ⟨by decide +kernel, rfl⟩
theorem e_L_law_210 : Dc cL_law 210 (.iaload) 1 211 := ⟨by decide +kernel, rfl⟩
theorem e_L_law_211 : Dc cL_law 211 (.aload_n 0) 1 212 := ⟨by decide +kernel, rfl⟩
theorem e_L_law_212 : Dc cL_law 212 (.iload_n 3) 1 213 := ⟨by decide +kernel, rfl⟩
theorem e_L_law_213 : Dc cL_law 213 (.iconst 4) 1 214 := ⟨by decide +kernel, rfl⟩
theorem e_L_law_214 : Dc cL_law 214 (.iadd) 1 215 := ⟨by decide +kernel, rfl⟩
theorem e_L_law_215 : Dc cL_law 215 (.iaload) 1 216 := ⟨by decide +kernel, rfl⟩
theorem e_L_law_216 : Dc cL_law 216 (.invokevirtual 18) 3 219 := ⟨by decide +kernel, rfl⟩
theorem e_L_law_219 : Dc cL_law 219 (.aload_n 2) 1 220 := ⟨by decide +kernel, rfl⟩
theorem e_L_law_220 : Dc cL_law 220 (.aload_n 0) 1 221 := ⟨by decide +kernel, rfl⟩
theorem e_L_law_221 : Dc cL_law 221 (.iload_n 3) 1 222 := ⟨by decide +kernel, rfl⟩
theorem e_L_law_222 : Dc cL_law 222 (.iconst 1) 1 223 := ⟨by decide +kernel, rfl⟩
theorem e_L_law_223 : Dc cL_law 223 (.iadd) 1 224 := ⟨by decide +kernel, rfl⟩
theorem e_L_law_224 : Dc cL_law 224 (.iaload) 1 225 := ⟨by decide +kernel, rfl⟩
theorem e_L_law_225 : Dc cL_law 225 (.aload_n 0) 1 226 := ⟨by decide +kernel, rfl⟩
theorem e_L_law_226 : Dc cL_law 226 (.iload_n 3) 1 227 := ⟨by decide +kernel, rfl⟩
theorem e_L_law_227 : Dc cL_law 227 (.iconst 2) 1 228 := ⟨by decide +kernel, rfl⟩
theorem e_L_law_228 : Dc cL_law 228 (.iadd) 1 229 := ⟨by decide +kernel, rfl⟩
theorem e_L_law_229 : Dc cL_law 229 (.iaload) 1 230 := ⟨by decide +kernel, rfl⟩
theorem e_L_law_230 : Dc cL_law 230 (.aload_n 0) 1 231 := ⟨by decide +kernel, rfl⟩
theorem e_L_law_231 : Dc cL_law 231 (.iload_n 3) 1 232 := ⟨by decide +kernel, rfl⟩
theorem e_L_law_232 : Dc cL_law 232 (.iconst 3) 1 233 := ⟨by decide +kernel, rfl⟩
theorem e_L_law_233 : Dc cL_law 233 (.iadd) 1 234 := ⟨by decide +kernel, rfl⟩
theorem e_L_law_234 : Dc cL_law 234 (.iaload) 1 235 := ⟨by decide +kernel, rfl⟩
theorem e_L_law_235 : Dc cL_law 235 (.aload_n 0) 1 236 := ⟨by decide +kernel, rfl⟩
theorem e_L_law_236 : Dc cL_law 236 (.iload_n 3) 1 237 := ⟨by decide +kernel, rfl⟩
theorem e_L_law_237 : Dc cL_law 237 (.iconst 4) 1 238 := ⟨by decide +kernel, rfl⟩
theorem e_L_law_238 : Dc cL_law 238 (.iadd) 1 239 := ⟨by decide +kernel, rfl⟩
theorem e_L_law_239 : Dc cL_law 239 (.iaload) 1 240 := ⟨by decide +kernel, rfl⟩
theorem e_L_law_240 : Dc cL_law 240 (.invokevirtual 22) 3 243 := ⟨by decide +kernel, rfl⟩
theorem e_L_law_243 : Dc cL_law 243 (.if_icmp .eq 885) 3 246 := ⟨by decide +kernel, rfl⟩
theorem e_L_law_246 : Dc cL_law 246 (.iconst 0) 1 247 := ⟨by decide +kernel, rfl⟩
theorem e_L_law_247 : Dc cL_law 247 (.ireturn) 1 248 := ⟨by decide +kernel, rfl⟩
theorem e_L_law_248 : Dc cL_law 248 (.aload_n 1) 1 249 := ⟨by decide +kernel, rfl⟩
theorem e_L_law_249 : Dc cL_law 249 (.aload_n 0) 1 250 := ⟨by decide +kernel, rfl⟩
theorem e_L_law_250 : Dc cL_law 250 (.iload_n 3) 1 251 := ⟨by decide +kernel, rfl⟩
theorem e_L_law_251 : Dc cL_law 251 (.iconst 1) 1 252 := ⟨by decide +kernel, rfl⟩
theorem e_L_law_252 : Dc cL_law 252 (.iadd) 1 253 := ⟨by decide +kernel, rfl⟩
theorem e_L_law_253 : Dc cL_law 253 (.iaload) 1 254 := ⟨by decide +kernel, rfl⟩
theorem e_L_law_254 : Dc cL_law 254 (.aload_n 0) 1 255 := ⟨by decide +kernel, rfl⟩
theorem e_L_law_255 : Dc cL_law 255 (.iload_n 3) 1 256 := ⟨by decide +kernel, rfl⟩
theorem e_L_law_256 : Dc cL_law 256 (.iconst 2) 1 257 := ⟨by decide +kernel, rfl⟩
theorem e_L_law_257 : Dc cL_law 257 (.iadd) 1 258 := ⟨by decide +kernel, rfl⟩
theorem e_L_law_258 : Dc cL_law 258 (.iaload) 1 259 := ⟨by decide +kernel, rfl⟩
theorem e_L_law_259 : Dc cL_law 259 (.aload_n 0) 1 260 := ⟨by decide +kernel, rfl⟩
theorem e_L_law_260 : Dc cL_law 260 (.iload_n 3) 1 261 := ⟨by decide +kernel, rfl⟩
theorem e_L_law_261 : Dc cL_law 261 (.iconst 3) 1 262 := ⟨by decide +kernel, rfl⟩
theorem e_L_law_262 : Dc cL_law 262 (.iadd) 1 263 := ⟨by decide +kernel, rfl⟩
theorem e_L_law_263 : Dc cL_law 263 (.iaload) 1 264 := ⟨by decide +kernel, rfl⟩
theorem e_L_law_264 : Dc cL_law 264 (.aload_n 0) 1 265 := ⟨by decide +kernel, rfl⟩
theorem e_L_law_265 : Dc cL_law 265 (.iload_n 3) 1 266 := ⟨by decide +kernel, rfl⟩
theorem e_L_law_266 : Dc cL_law 266 (.iconst 4) 1 267 := ⟨by decide +kernel, rfl⟩
theorem e_L_law_267 : Dc cL_law 267 (.iadd) 1 268 := ⟨by decide +kernel, rfl⟩
theorem e_L_law_268 : Dc cL_law 268 (.iaload) 1 269 := ⟨by decide +kernel, rfl⟩
theorem e_L_law_269 : Dc cL_law 269 (.aload_n 0) 1 270 := ⟨by decide +kernel, rfl⟩
theorem e_L_law_270 : Dc cL_law 270 (.iload_n 3) 1 271 := ⟨by decide +kernel, rfl⟩
theorem e_L_law_271 : Dc cL_law 271 (.iconst 5) 1 272 := ⟨by decide +kernel, rfl⟩
theorem e_L_law_272 : Dc cL_law 272 (.iadd) 1 273 := ⟨by decide +kernel, rfl⟩
theorem e_L_law_273 : Dc cL_law 273 (.iaload) 1 274 := ⟨by decide +kernel, rfl⟩
theorem e_L_law_274 : Dc cL_law 274 (.aload_n 0) 1 275 := ⟨by decide +kernel, rfl⟩
theorem e_L_law_275 : Dc cL_law 275 (.iload_n 3) 1 276 := ⟨by decide +kernel, rfl⟩
theorem e_L_law_276 : Dc cL_law 276 (.bipush 6) 2 278 := ⟨by decide +kernel, rfl⟩
theorem e_L_law_278 : Dc cL_law 278 (.iadd) 1 279 := ⟨by decide +kernel, rfl⟩
theorem e_L_law_279 : Dc cL_law 279 (.iaload) 1 280 := ⟨by decide +kernel, rfl⟩
theorem e_L_law_280 : Dc cL_law 280 (.invokevirtual 23) 3 283 := ⟨by decide +kernel, rfl⟩
theorem e_L_law_283 : Dc cL_law 283 (.aload_n 2) 1 284 := ⟨by decide +kernel, rfl⟩
theorem e_L_law_284 : Dc cL_law 284 (.aload_n 0) 1 285 := ⟨by decide +kernel, rfl⟩
theorem e_L_law_285 : Dc cL_law 285 (.iload_n 3) 1 286 := ⟨by decide +kernel, rfl⟩
theorem e_L_law_286 : Dc cL_law 286 (.iconst 1) 1 287 := ⟨by decide +kernel, rfl⟩
theorem e_L_law_287 : Dc cL_law 287 (.iadd) 1 288 := ⟨by decide +kernel, rfl⟩
theorem e_L_law_288 : Dc cL_law 288 (.iaload) 1 289 := ⟨by decide +kernel, rfl⟩
theorem e_L_law_289 : Dc cL_law 289 (.aload_n 0) 1 290 := ⟨by decide +kernel, rfl⟩
theorem e_L_law_290 : Dc cL_law 290 (.iload_n 3) 1 291 := ⟨by decide +kernel, rfl⟩
theorem e_L_law_291 : Dc cL_law 291 (.iconst 2) 1 292 := ⟨by decide +kernel, rfl⟩
theorem e_L_law_292 : Dc cL_law 292 (.iadd) 1 293 := ⟨by decide +kernel, rfl⟩
theorem e_L_law_293 : Dc cL_law 293 (.iaload) 1 294 := ⟨by decide +kernel, rfl⟩
theorem e_L_law_294 : Dc cL_law 294 (.aload_n 0) 1 295 := ⟨by decide +kernel, rfl⟩
theorem e_L_law_295 : Dc cL_law 295 (.iload_n 3) 1 296 := ⟨by decide +kernel, rfl⟩
theorem e_L_law_296 : Dc cL_law 296 (.iconst 3) 1 297 := ⟨by decide +kernel, rfl⟩
theorem e_L_law_297 : Dc cL_law 297 (.iadd) 1 298 := ⟨by decide +kernel, rfl⟩
theorem e_L_law_298 : Dc cL_law 298 (.iaload) 1 299 := ⟨by decide +kernel, rfl⟩
theorem e_L_law_299 : Dc cL_law 299 (.aload_n 0) 1 300 := ⟨by decide +kernel, rfl⟩
theorem e_L_law_300 : Dc cL_law 300 (.iload_n 3) 1 301 := ⟨by decide +kernel, rfl⟩
theorem e_L_law_301 : Dc cL_law 301 (.iconst 4) 1 302 := ⟨by decide +kernel, rfl⟩
theorem e_L_law_302 : Dc cL_law 302 (.iadd) 1 303 := ⟨by decide +kernel, rfl⟩
theorem e_L_law_303 : Dc cL_law 303 (.iaload) 1 304 := ⟨by decide +kernel, rfl⟩
theorem e_L_law_304 : Dc cL_law 304 (.aload_n 0) 1 305 := ⟨by decide +kernel, rfl⟩
theorem e_L_law_305 : Dc cL_law 305 (.iload_n 3) 1 306 := ⟨by decide +kernel, rfl⟩
theorem e_L_law_306 : Dc cL_law 306 (.iconst 5) 1 307 := ⟨by decide +kernel, rfl⟩
theorem e_L_law_307 : Dc cL_law 307 (.iadd) 1 308 := ⟨by decide +kernel, rfl⟩
theorem e_L_law_308 : Dc cL_law 308 (.iaload) 1 309 := ⟨by decide +kernel, rfl⟩
theorem e_L_law_309 : Dc cL_law 309 (.aload_n 0) 1 310 := ⟨by decide +kernel, rfl⟩
theorem e_L_law_310 : Dc cL_law 310 (.iload_n 3) 1 311 := ⟨by decide +kernel, rfl⟩
theorem e_L_law_311 : Dc cL_law 311 (.bipush 6) 2 313 := ⟨by decide +kernel, rfl⟩
theorem e_L_law_313 : Dc cL_law 313 (.iadd) 1 314 := ⟨by decide +kernel, rfl⟩
theorem e_L_law_314 : Dc cL_law 314 (.iaload) 1 315 := ⟨by decide +kernel, rfl⟩
theorem e_L_law_315 : Dc cL_law 315 (.invokevirtual 27) 3 318 := ⟨by decide +kernel, rfl⟩
theorem e_L_law_318 : Dc cL_law 318 (.if_icmp .eq 810) 3 321 := ⟨by decide +kernel, rfl⟩
theorem e_L_law_321 : Dc cL_law 321 (.iconst 0) 1 322 := ⟨by decide +kernel, rfl⟩
theorem e_L_law_322 : Dc cL_law 322 (.ireturn) 1 323 := ⟨by decide +kernel, rfl⟩
theorem e_L_law_323 : Dc cL_law 323 (.aload_n 1) 1 324 := ⟨by decide +kernel, rfl⟩
theorem e_L_law_324 : Dc cL_law 324 (.aload_n 0) 1 325 := ⟨by decide +kernel, rfl⟩
theorem e_L_law_325 : Dc cL_law 325 (.iload_n 3) 1 326 := ⟨by decide +kernel, rfl⟩
theorem e_L_law_326 : Dc cL_law 326 (.iconst 1) 1 327 := ⟨by decide +kernel, rfl⟩
theorem e_L_law_327 : Dc cL_law 327 (.iadd) 1 328 := ⟨by decide +kernel, rfl⟩
theorem e_L_law_328 : Dc cL_law 328 (.iaload) 1 329 := ⟨by decide +kernel, rfl⟩
theorem e_L_law_329 : Dc cL_law 329 (.invokevirtual 28) 3 332 := ⟨by decide +kernel, rfl⟩
theorem e_L_law_332 : Dc cL_law 332 (.aload_n 2) 1 333 := ⟨by decide +kernel, rfl⟩
theorem e_L_law_333 : Dc cL_law 333 (.aload_n 0) 1 334 := ⟨by decide +kernel, rfl⟩
theorem e_L_law_334 : Dc cL_law 334 (.iload_n 3) 1 335 := ⟨by decide +kernel, rfl⟩
theorem e_L_law_335 : Dc cL_law 335 (.iconst 1) 1 336 := ⟨by decide +kernel, rfl⟩
theorem e_L_law_336 : Dc cL_law 336 (.iadd) 1 337 := ⟨by decide +kernel, rfl⟩
theorem e_L_law_337 : Dc cL_law 337 (.iaload) 1 338 := ⟨by decide +kernel, rfl⟩
theorem e_L_law_338 : Dc cL_law 338 (.invokevirtual 31) 3 341 := ⟨by decide +kernel, rfl⟩
theorem e_L_law_341 : Dc cL_law 341 (.if_icmp .eq 787) 3 344 := ⟨by decide +kernel, rfl⟩
theorem e_L_law_344 : Dc cL_law 344 (.iconst 0) 1 345 := ⟨by decide +kernel, rfl⟩
theorem e_L_law_345 : Dc cL_law 345 (.ireturn) 1 346 := ⟨by decide +kernel, rfl⟩
theorem e_L_law_346 : Dc cL_law 346 (.aload_n 1) 1 347 := ⟨by decide +kernel, rfl⟩
theorem e_L_law_347 : Dc cL_law 347 (.aload_n 0) 1 348 := ⟨by decide +kernel, rfl⟩
theorem e_L_law_348 : Dc cL_law 348 (.iload_n 3) 1 349 := ⟨by decide +kernel, rfl⟩
theorem e_L_law_349 : Dc cL_law 349 (.iconst 1) 1 350 := ⟨by decide +kernel, rfl⟩
theorem e_L_law_350 : Dc cL_law 350 (.iadd) 1 351 := ⟨by decide +kernel, rfl⟩
theorem e_L_law_351 : Dc cL_law 351 (.iaload) 1 352 := ⟨by decide +kernel, rfl⟩
theorem e_L_law_352 : Dc cL_law 352 (.invokevirtual 32) 3 355 := ⟨by decide +kernel, rfl⟩
theorem e_L_law_355 : Dc cL_law 355 (.aload_n 2) 1 356 := ⟨by decide +kernel, rfl⟩
theorem e_L_law_356 : Dc cL_law 356 (.aload_n 0) 1 357 := ⟨by decide +kernel, rfl⟩
theorem e_L_law_357 : Dc cL_law 357 (.iload_n 3) 1 358 := ⟨by decide +kernel, rfl⟩
theorem e_L_law_358 : Dc cL_law 358 (.iconst 1) 1 359 := ⟨by decide +kernel, rfl⟩
theorem e_L_law_359 : Dc cL_law 359 (.iadd) 1 360 := ⟨by decide +kernel, rfl⟩
theorem e_L_law_360 : Dc cL_law 360 (.iaload) 1 361 := ⟨by decide +kernel, rfl⟩
theorem e_L_law_361 : Dc cL_law 361 (.invokevirtual 35) 3 364 := ⟨by decide +kernel, rfl⟩
theorem e_L_law_364 : Dc cL_law 364 (.if_icmp .eq 764) 3 367 := ⟨by decide +kernel, rfl⟩
theorem e_L_law_367 : Dc cL_law 367 (.iconst 0) 1 368 := ⟨by decide +kernel, rfl⟩
theorem e_L_law_368 : Dc cL_law 368 (.ireturn) 1 369 := ⟨by decide +kernel, rfl⟩
theorem e_L_law_369 : Dc cL_law 369 (.aload_n 1) 1 370 := ⟨by decide +kernel, rfl⟩
theorem e_L_law_370 : Dc cL_law 370 (.invokevirtual 36) 3 373 := ⟨by decide +kernel, rfl⟩
theorem e_L_law_373 : Dc cL_law 373 (.aload_n 2) 1 374 := ⟨by decide +kernel, rfl⟩
theorem e_L_law_374 : Dc cL_law 374 (.invokevirtual 40) 3 377 := ⟨by decide +kernel, rfl⟩
theorem e_L_law_377 : Dc cL_law 377 (.if_icmp .eq 751) 3 380 := ⟨by decide +kernel, rfl⟩
theorem e_L_law_380 : Dc cL_law 380 (.iconst 0) 1 381 := ⟨by decide +kernel, rfl⟩
theorem e_L_law_381 : Dc cL_law 381 (.ireturn) 1 382 := ⟨by decide +kernel, rfl⟩
theorem e_L_law_382 : Dc cL_law 382 (.aload_n 1) 1 383 := ⟨by decide +kernel, rfl⟩
theorem e_L_law_383 : Dc cL_law 383 (.aload_n 0) 1 384 := ⟨by decide +kernel, rfl⟩
theorem e_L_law_384 : Dc cL_law 384 (.iload_n 3) 1 385 := ⟨by decide +kernel, rfl⟩
theorem e_L_law_385 : Dc cL_law 385 (.iconst 1) 1 386 := ⟨by decide +kernel, rfl⟩
theorem e_L_law_386 : Dc cL_law 386 (.iadd) 1 387 := ⟨by decide +kernel, rfl⟩
theorem e_L_law_387 : Dc cL_law 387 (.iaload) 1 388 := ⟨by decide +kernel, rfl⟩
theorem e_L_law_388 : Dc cL_law 388 (.aload_n 0) 1 389 := ⟨by decide +kernel, rfl⟩
theorem e_L_law_389 : Dc cL_law 389 (.iload_n 3) 1 390 := ⟨by decide +kernel, rfl⟩
theorem e_L_law_390 : Dc cL_law 390 (.iconst 2) 1 391 := ⟨by decide +kernel, rfl⟩
theorem e_L_law_391 : Dc cL_law 391 (.iadd) 1 392 := ⟨by decide +kernel, rfl⟩
theorem e_L_law_392 : Dc cL_law 392 (.iaload) 1 393 := ⟨by decide +kernel, rfl⟩
theorem e_L_law_393 : Dc cL_law 393 (.invokevirtual 41) 3 396 := ⟨by decide +kernel, rfl⟩
theorem e_L_law_396 : Dc cL_law 396 (.aload_n 2) 1 397 := ⟨by decide +kernel, rfl⟩
theorem e_L_law_397 : Dc cL_law 397 (.aload_n 0) 1 398 := ⟨by decide +kernel, rfl⟩
theorem e_L_law_398 : Dc cL_law 398 (.iload_n 3) 1 399 := ⟨by decide +kernel, rfl⟩
theorem e_L_law_399 : Dc cL_law 399 (.iconst 1) 1 400 := ⟨by decide +kernel, rfl⟩
theorem e_L_law_400 : Dc cL_law 400 (.iadd) 1 401 := ⟨by decide +kernel, rfl⟩
theorem e_L_law_401 : Dc cL_law 401 (.iaload) 1 402 := ⟨by decide +kernel, rfl⟩
theorem e_L_law_402 : Dc cL_law 402 (.aload_n 0) 1 403 := ⟨by decide +kernel, rfl⟩
theorem e_L_law_403 : Dc cL_law 403 (.iload_n 3) 1 404 := ⟨by decide +kernel, rfl⟩
theorem e_L_law_404 : Dc cL_law 404 (.iconst 2) 1 405 := ⟨by decide +kernel, rfl⟩
theorem e_L_law_405 : Dc cL_law 405 (.iadd) 1 406 := ⟨by decide +kernel, rfl⟩
theorem e_L_law_406 : Dc cL_law 406 (.iaload) 1 407 := ⟨by decide +kernel, rfl⟩
theorem e_L_law_407 : Dc cL_law 407 (.invokevirtual 45) 3 410 := ⟨by decide +kernel, rfl⟩
theorem e_L_law_410 : Dc cL_law 410 (.if_icmp .eq 718) 3 413 := ⟨by decide +kernel, rfl⟩
theorem e_L_law_413 : Dc cL_law 413 (.iconst 0) 1 414 := ⟨by decide +kernel, rfl⟩
theorem e_L_law_414 : Dc cL_law 414 (.ireturn) 1 415 := ⟨by decide +kernel, rfl⟩
theorem e_L_law_415 : Dc cL_law 415 (.aload_n 1) 1 416 := ⟨by decide +kernel, rfl⟩
theorem e_L_law_416 : Dc cL_law 416 (.aload_n 0) 1 417 := ⟨by decide +kernel, rfl⟩
theorem e_L_law_417 : Dc cL_law 417 (.iload_n 3) 1 418 := ⟨by decide +kernel, rfl⟩
theorem e_L_law_418 : Dc cL_law 418 (.iconst 1) 1 419 := ⟨by decide +kernel, rfl⟩
theorem e_L_law_419 : Dc cL_law 419 (.iadd) 1 420 := ⟨by decide +kernel, rfl⟩
theorem e_L_law_420 : Dc cL_law 420 (.iaload) 1 421 := ⟨by decide +kernel, rfl⟩
theorem e_L_law_421 : Dc cL_law 421 (.invokevirtual 46) 3 424 := ⟨by decide +kernel, rfl⟩
theorem e_L_law_424 : Dc cL_law 424 (.aload_n 2) 1 425 := ⟨by decide +kernel, rfl⟩
theorem e_L_law_425 : Dc cL_law 425 (.aload_n 0) 1 426 := ⟨by decide +kernel, rfl⟩
theorem e_L_law_426 : Dc cL_law 426 (.iload_n 3) 1 427 := ⟨by decide +kernel, rfl⟩
theorem e_L_law_427 : Dc cL_law 427 (.iconst 1) 1 428 := ⟨by decide +kernel, rfl⟩
theorem e_L_law_428 : Dc cL_law 428 (.iadd) 1 429 := ⟨by decide +kernel, rfl⟩
theorem e_L_law_429 : Dc cL_law 429 (.iaload) 1 430 := ⟨by decide +kernel, rfl⟩
theorem e_L_law_430 : Dc cL_law 430 (.invokevirtual 49) 3 433 := ⟨by decide +kernel, rfl⟩
theorem e_L_law_433 : Dc cL_law 433 (.if_icmp .eq 695) 3 436 := ⟨by decide +kernel, rfl⟩
theorem e_L_law_436 : Dc cL_law 436 (.iconst 0) 1 437 := ⟨by decide +kernel, rfl⟩
theorem e_L_law_437 : Dc cL_law 437 (.ireturn) 1 438 := ⟨by decide +kernel, rfl⟩
theorem e_L_law_438 : Dc cL_law 438 (.aload_n 1) 1 439 := ⟨by decide +kernel, rfl⟩
theorem e_L_law_439 : Dc cL_law 439 (.invokevirtual 50) 3 442 := ⟨by decide +kernel, rfl⟩
theorem e_L_law_442 : Dc cL_law 442 (.aload_n 2) 1 443 := ⟨by decide +kernel, rfl⟩
theorem e_L_law_443 : Dc cL_law 443 (.invokevirtual 53) 3 446 := ⟨by decide +kernel, rfl⟩
theorem e_L_law_446 : Dc cL_law 446 (.if_icmp .eq 682) 3 449 := ⟨by decide +kernel, rfl⟩
theorem e_L_law_449 : Dc cL_law 449 (.iconst 0) 1 450 := ⟨by decide +kernel, rfl⟩
theorem e_L_law_450 : Dc cL_law 450 (.ireturn) 1 451 := ⟨by decide +kernel, rfl⟩
theorem e_L_law_451 : Dc cL_law 451 (.aload_n 1) 1 452 := ⟨by decide +kernel, rfl⟩
theorem e_L_law_452 : Dc cL_law 452 (.invokevirtual 54) 3 455 := ⟨by decide +kernel, rfl⟩
theorem e_L_law_455 : Dc cL_law 455 (.aload_n 2) 1 456 := ⟨by decide +kernel, rfl⟩
theorem e_L_law_456 : Dc cL_law 456 (.invokevirtual 57) 3 459 := ⟨by decide +kernel, rfl⟩
theorem e_L_law_459 : Dc cL_law 459 (.if_icmp .eq 669) 3 462 := ⟨by decide +kernel, rfl⟩
theorem e_L_law_462 : Dc cL_law 462 (.iconst 0) 1 463 := ⟨by decide +kernel, rfl⟩
theorem e_L_law_463 : Dc cL_law 463 (.ireturn) 1 464 := ⟨by decide +kernel, rfl⟩
theorem e_L_law_464 : Dc cL_law 464 (.aload_n 1) 1 465 := ⟨by decide +kernel, rfl⟩
theorem e_L_law_465 : Dc cL_law 465 (.aload_n 0) 1 466 := ⟨by decide +kernel, rfl⟩
theorem e_L_law_466 : Dc cL_law 466 (.iload_n 3) 1 467 := ⟨by decide +kernel, rfl⟩
theorem e_L_law_467 : Dc cL_law 467 (.iconst 1) 1 468 := ⟨by decide +kernel, rfl⟩
theorem e_L_law_468 : Dc cL_law 468 (.iadd) 1 469 := ⟨by decide +kernel, rfl⟩
theorem e_L_law_469 : Dc cL_law 469 (.iaload) 1 470 := ⟨by decide +kernel, rfl⟩
theorem e_L_law_470 : Dc cL_law 470 (.aload_n 0) 1 471 := ⟨by decide +kernel, rfl⟩
theorem e_L_law_471 : Dc cL_law 471 (.iload_n 3) 1 472 := ⟨by decide +kernel, rfl⟩
theorem e_L_law_472 : Dc cL_law 472 (.iconst 2) 1 473 := ⟨by decide +kernel, rfl⟩
theorem e_L_law_473 : Dc cL_law 473 (.iadd) 1 474 := ⟨by decide +kernel, rfl⟩
theorem e_L_law_474 : Dc cL_law 474 (.iaload) 1 475 := ⟨by decide +kernel, rfl⟩
theorem e_L_law_475 : Dc cL_law 475 (.invokevirtual 58) 3 478 := ⟨by decide +kernel, rfl⟩
theorem e_L_law_478 : Dc cL_law 478 (.aload_n 2) 1 479 := ⟨by decide +kernel, rfl⟩
theorem e_L_law_479 : Dc cL_law 479 (.aload_n 0) 1 480 := ⟨by decide +kernel, rfl⟩
theorem e_L_law_480 : Dc cL_law 480 (.iload_n 3) 1 481 := ⟨by decide +kernel, rfl⟩
theorem e_L_law_481 : Dc cL_law 481 (.iconst 1) 1 482 := ⟨by decide +kernel, rfl⟩
theorem e_L_law_482 : Dc cL_law 482 (.iadd) 1 483 := ⟨by decide +kernel, rfl⟩
theorem e_L_law_483 : Dc cL_law 483 (.iaload) 1 484 := ⟨by decide +kernel, rfl⟩
theorem e_L_law_484 : Dc cL_law 484 (.aload_n 0) 1 485 := ⟨by decide +kernel, rfl⟩
theorem e_L_law_485 : Dc cL_law 485 (.iload_n 3) 1 486 := ⟨by decide +kernel, rfl⟩
theorem e_L_law_486 : Dc cL_law 486 (.iconst 2) 1 487 := ⟨by decide +kernel, rfl⟩
theorem e_L_law_487 : Dc cL_law 487 (.iadd) 1 488 := ⟨by decide +kernel, rfl⟩
theorem e_L_law_488 : Dc cL_law 488 (.iaload) 1 489 := ⟨by decide +kernel, rfl⟩
theorem e_L_law_489 : Dc cL_law 489 (.invokevirtual 61) 3 492 := ⟨by decide +kernel, rfl⟩
theorem e_L_law_492 : Dc cL_law 492 (.if_icmp .eq 636) 3 495 := ⟨by decide +kernel, rfl⟩
theorem e_L_law_495 : Dc cL_law 495 (.iconst 0) 1 496 := ⟨by decide +kernel, rfl⟩
theorem e_L_law_496 : Dc cL_law 496 (.ireturn) 1 497 := ⟨by decide +kernel, rfl⟩
theorem e_L_law_497 : Dc cL_law 497 (.aload_n 1) 1 498 := ⟨by decide +kernel, rfl⟩
theorem e_L_law_498 : Dc cL_law 498 (.aload_n 0) 1 499 := ⟨by decide +kernel, rfl⟩
theorem e_L_law_499 : Dc cL_law 499 (.iload_n 3) 1 500 := ⟨by decide +kernel, rfl⟩
theorem e_L_law_500 : Dc cL_law 500 (.iconst 1) 1 501 := ⟨by decide +kernel, rfl⟩
theorem e_L_law_501 : Dc cL_law 501 (.iadd) 1 502 := ⟨by decide +kernel, rfl⟩
theorem e_L_law_502 : Dc cL_law 502 (.iaload) 1 503 := ⟨by decide +kernel, rfl⟩
theorem e_L_law_503 : Dc cL_law 503 (.aload_n 0) 1 504 := ⟨by decide +kernel, rfl⟩
theorem e_L_law_504 : Dc cL_law 504 (.iload_n 3) 1 505 := ⟨by decide +kernel, rfl⟩
theorem e_L_law_505 : Dc cL_law 505 (.iconst 2) 1 506 := ⟨by decide +kernel, rfl⟩
theorem e_L_law_506 : Dc cL_law 506 (.iadd) 1 507 := ⟨by decide +kernel, rfl⟩
theorem e_L_law_507 : Dc cL_law 507 (.iaload) 1 508 := ⟨by decide +kernel, rfl⟩
theorem e_L_law_508 : Dc cL_law 508 (.invokevirtual 62) 3 511 := ⟨by decide +kernel, rfl⟩
theorem e_L_law_511 : Dc cL_law 511 (.aload_n 2) 1 512 := ⟨by decide +kernel, rfl⟩
theorem e_L_law_512 : Dc cL_law 512 (.aload_n 0) 1 513 := ⟨by decide +kernel, rfl⟩
theorem e_L_law_513 : Dc cL_law 513 (.iload_n 3) 1 514 := ⟨by decide +kernel, rfl⟩
theorem e_L_law_514 : Dc cL_law 514 (.iconst 1) 1 515 := ⟨by decide +kernel, rfl⟩
theorem e_L_law_515 : Dc cL_law 515 (.iadd) 1 516 := ⟨by decide +kernel, rfl⟩
theorem e_L_law_516 : Dc cL_law 516 (.iaload) 1 517 := ⟨by decide +kernel, rfl⟩
theorem e_L_law_517 : Dc cL_law 517 (.aload_n 0) 1 518 := ⟨by decide +kernel, rfl⟩
theorem e_L_law_518 : Dc cL_law 518 (.iload_n 3) 1 519 := ⟨by decide +kernel, rfl⟩
theorem e_L_law_519 : Dc cL_law 519 (.iconst 2) 1 520 := ⟨by decide +kernel, rfl⟩
theorem e_L_law_520 : Dc cL_law 520 (.iadd) 1 521 := ⟨by decide +kernel, rfl⟩
theorem e_L_law_521 : Dc cL_law 521 (.iaload) 1 522 := ⟨by decide +kernel, rfl⟩
theorem e_L_law_522 : Dc cL_law 522 (.invokevirtual 65) 3 525 := ⟨by decide +kernel, rfl⟩
theorem e_L_law_525 : Dc cL_law 525 (.if_icmp .eq 603) 3 528 := ⟨by decide +kernel, rfl⟩
theorem e_L_law_528 : Dc cL_law 528 (.iconst 0) 1 529 := ⟨by decide +kernel, rfl⟩
theorem e_L_law_529 : Dc cL_law 529 (.ireturn) 1 530 := ⟨by decide +kernel, rfl⟩
theorem e_L_law_530 : Dc cL_law 530 (.aload_n 1) 1 531 := ⟨by decide +kernel, rfl⟩
theorem e_L_law_531 : Dc cL_law 531 (.aload_n 0) 1 532 := ⟨by decide +kernel, rfl⟩
theorem e_L_law_532 : Dc cL_law 532 (.iload_n 3) 1 533 := ⟨by decide +kernel, rfl⟩
theorem e_L_law_533 : Dc cL_law 533 (.iconst 1) 1 534 := ⟨by decide +kernel, rfl⟩
theorem e_L_law_534 : Dc cL_law 534 (.iadd) 1 535 := ⟨by decide +kernel, rfl⟩
theorem e_L_law_535 : Dc cL_law 535 (.iaload) 1 536 := ⟨by decide +kernel, rfl⟩
theorem e_L_law_536 : Dc cL_law 536 (.invokevirtual 66) 3 539 := ⟨by decide +kernel, rfl⟩
theorem e_L_law_539 : Dc cL_law 539 (.aload_n 2) 1 540 := ⟨by decide +kernel, rfl⟩
theorem e_L_law_540 : Dc cL_law 540 (.aload_n 0) 1 541 := ⟨by decide +kernel, rfl⟩
theorem e_L_law_541 : Dc cL_law 541 (.iload_n 3) 1 542 := ⟨by decide +kernel, rfl⟩
theorem e_L_law_542 : Dc cL_law 542 (.iconst 1) 1 543 := ⟨by decide +kernel, rfl⟩
theorem e_L_law_543 : Dc cL_law 543 (.iadd) 1 544 := ⟨by decide +kernel, rfl⟩
theorem e_L_law_544 : Dc cL_law 544 (.iaload) 1 545 := ⟨by decide +kernel, rfl⟩
theorem e_L_law_545 : Dc cL_law 545 (.invokevirtual 69) 3 548 := ⟨by decide +kernel, rfl⟩
theorem e_L_law_548 : Dc cL_law 548 (.if_icmp .eq 580) 3 551 := ⟨by decide +kernel, rfl⟩
theorem e_L_law_551 : Dc cL_law 551 (.iconst 0) 1 552 := ⟨by decide +kernel, rfl⟩
theorem e_L_law_552 : Dc cL_law 552 (.ireturn) 1 553 := ⟨by decide +kernel, rfl⟩
theorem e_L_law_553 : Dc cL_law 553 (.aload_n 1) 1 554 := ⟨by decide +kernel, rfl⟩
theorem e_L_law_554 : Dc cL_law 554 (.aload_n 0) 1 555 := ⟨by decide +kernel, rfl⟩
theorem e_L_law_555 : Dc cL_law 555 (.iload_n 3) 1 556 := ⟨by decide +kernel, rfl⟩
theorem e_L_law_556 : Dc cL_law 556 (.iconst 1) 1 557 := ⟨by decide +kernel, rfl⟩
theorem e_L_law_557 : Dc cL_law 557 (.iadd) 1 558 := ⟨by decide +kernel, rfl⟩
theorem e_L_law_558 : Dc cL_law 558 (.iaload) 1 559 := ⟨by decide +kernel, rfl⟩
theorem e_L_law_559 : Dc cL_law 559 (.aload_n 0) 1 560 := ⟨by decide +kernel, rfl⟩
theorem e_L_law_560 : Dc cL_law 560 (.iload_n 3) 1 561 := ⟨by decide +kernel, rfl⟩
theorem e_L_law_561 : Dc cL_law 561 (.iconst 2) 1 562 := ⟨by decide +kernel, rfl⟩
theorem e_L_law_562 : Dc cL_law 562 (.iadd) 1 563 := ⟨by decide +kernel, rfl⟩
theorem e_L_law_563 : Dc cL_law 563 (.iaload) 1 564 := ⟨by decide +kernel, rfl⟩
theorem e_L_law_564 : Dc cL_law 564 (.aload_n 0) 1 565 := ⟨by decide +kernel, rfl⟩
theorem e_L_law_565 : Dc cL_law 565 (.iload_n 3) 1 566 := ⟨by decide +kernel, rfl⟩
theorem e_L_law_566 : Dc cL_law 566 (.iconst 3) 1 567 := ⟨by decide +kernel, rfl⟩
theorem e_L_law_567 : Dc cL_law 567 (.iadd) 1 568 := ⟨by decide +kernel, rfl⟩
theorem e_L_law_568 : Dc cL_law 568 (.iaload) 1 569 := ⟨by decide +kernel, rfl⟩
theorem e_L_law_569 : Dc cL_law 569 (.invokevirtual 70) 3 572 := ⟨by decide +kernel, rfl⟩
theorem e_L_law_572 : Dc cL_law 572 (.aload_n 2) 1 573 := ⟨by decide +kernel, rfl⟩
theorem e_L_law_573 : Dc cL_law 573 (.aload_n 0) 1 574 := ⟨by decide +kernel, rfl⟩
theorem e_L_law_574 : Dc cL_law 574 (.iload_n 3) 1 575 := ⟨by decide +kernel, rfl⟩
theorem e_L_law_575 : Dc cL_law 575 (.iconst 1) 1 576 := ⟨by decide +kernel, rfl⟩
theorem e_L_law_576 : Dc cL_law 576 (.iadd) 1 577 := ⟨by decide +kernel, rfl⟩
theorem e_L_law_577 : Dc cL_law 577 (.iaload) 1 578 := ⟨by decide +kernel, rfl⟩
theorem e_L_law_578 : Dc cL_law 578 (.aload_n 0) 1 579 := ⟨by decide +kernel, rfl⟩
theorem e_L_law_579 : Dc cL_law 579 (.iload_n 3) 1 580 := ⟨by decide +kernel, rfl⟩
theorem e_L_law_580 : Dc cL_law 580 (.iconst 2) 1 581 := ⟨by decide +kernel, rfl⟩
theorem e_L_law_581 : Dc cL_law 581 (.iadd) 1 582 := ⟨by decide +kernel, rfl⟩
theorem e_L_law_582 : Dc cL_law 582 (.iaload) 1 583 := ⟨by decide +kernel, rfl⟩
theorem e_L_law_583 : Dc cL_law 583 (.aload_n 0) 1 584 := ⟨by decide +kernel, rfl⟩
theorem e_L_law_584 : Dc cL_law 584 (.iload_n 3) 1 585 := ⟨by decide +kernel, rfl⟩
theorem e_L_law_585 : Dc cL_law 585 (.iconst 3) 1 586 := ⟨by decide +kernel, rfl⟩
theorem e_L_law_586 : Dc cL_law 586 (.iadd) 1 587 := ⟨by decide +kernel, rfl⟩
theorem e_L_law_587 : Dc cL_law 587 (.iaload) 1 588 := ⟨by decide +kernel, rfl⟩
theorem e_L_law_588 : Dc cL_law 588 (.invokevirtual 74) 3 591 := ⟨by decide +kernel, rfl⟩
theorem e_L_law_591 : Dc cL_law 591 (.if_icmp .eq 537) 3 594 := ⟨by decide +kernel, rfl⟩
theorem e_L_law_594 : Dc cL_law 594 (.iconst 0) 1 595 := ⟨by decide +kernel, rfl⟩
theorem e_L_law_595 : Dc cL_law 595 (.ireturn) 1 596 := ⟨by decide +kernel, rfl⟩
theorem e_L_law_596 : Dc cL_law 596 (.aload_n 1) 1 597 := ⟨by decide +kernel, rfl⟩
theorem e_L_law_597 : Dc cL_law 597 (.aload_n 0) 1 598 := ⟨by decide +kernel, rfl⟩
theorem e_L_law_598 : Dc cL_law 598 (.iload_n 3) 1 599 := ⟨by decide +kernel, rfl⟩
theorem e_L_law_599 : Dc cL_law 599 (.iconst 1) 1 600 := ⟨by decide +kernel, rfl⟩
theorem e_L_law_600 : Dc cL_law 600 (.iadd) 1 601 := ⟨by decide +kernel, rfl⟩
theorem e_L_law_601 : Dc cL_law 601 (.iaload) 1 602 := ⟨by decide +kernel, rfl⟩
theorem e_L_law_602 : Dc cL_law 602 (.aload_n 0) 1 603 := ⟨by decide +kernel, rfl⟩
theorem e_L_law_603 : Dc cL_law 603 (.iload_n 3) 1 604 := ⟨by decide +kernel, rfl⟩
theorem e_L_law_604 : Dc cL_law 604 (.iconst 2) 1 605 := ⟨by decide +kernel, rfl⟩
theorem e_L_law_605 : Dc cL_law 605 (.iadd) 1 606 := ⟨by decide +kernel, rfl⟩
theorem e_L_law_606 : Dc cL_law 606 (.iaload) 1 607 := ⟨by decide +kernel, rfl⟩
theorem e_L_law_607 : Dc cL_law 607 (.aload_n 0) 1 608 := ⟨by decide +kernel, rfl⟩
theorem e_L_law_608 : Dc cL_law 608 (.iload_n 3) 1 609 := ⟨by decide +kernel, rfl⟩
theorem e_L_law_609 : Dc cL_law 609 (.iconst 3) 1 610 := ⟨by decide +kernel, rfl⟩
theorem e_L_law_610 : Dc cL_law 610 (.iadd) 1 611 := ⟨by decide +kernel, rfl⟩
theorem e_L_law_611 : Dc cL_law 611 (.iaload) 1 612 := ⟨by decide +kernel, rfl⟩
theorem e_L_law_612 : Dc cL_law 612 (.invokevirtual 75) 3 615 := ⟨by decide +kernel, rfl⟩
theorem e_L_law_615 : Dc cL_law 615 (.aload_n 2) 1 616 := ⟨by decide +kernel, rfl⟩
theorem e_L_law_616 : Dc cL_law 616 (.aload_n 0) 1 617 := ⟨by decide +kernel, rfl⟩
theorem e_L_law_617 : Dc cL_law 617 (.iload_n 3) 1 618 := ⟨by decide +kernel, rfl⟩
theorem e_L_law_618 : Dc cL_law 618 (.iconst 1) 1 619 := ⟨by decide +kernel, rfl⟩
theorem e_L_law_619 : Dc cL_law 619 (.iadd) 1 620 := ⟨by decide +kernel, rfl⟩
theorem e_L_law_620 : Dc cL_law 620 (.iaload) 1 621 := ⟨by decide +kernel, rfl⟩
theorem e_L_law_621 : Dc cL_law 621 (.aload_n 0) 1 622 := ⟨by decide +kernel, rfl⟩
theorem e_L_law_622 : Dc cL_law 622 (.iload_n 3) 1 623 := ⟨by decide +kernel, rfl⟩
theorem e_L_law_623 : Dc cL_law 623 (.iconst 2) 1 624 := ⟨by decide +kernel, rfl⟩
theorem e_L_law_624 : Dc cL_law 624 (.iadd) 1 625 := ⟨by decide +kernel, rfl⟩
theorem e_L_law_625 : Dc cL_law 625 (.iaload) 1 626 := ⟨by decide +kernel, rfl⟩
theorem e_L_law_626 : Dc cL_law 626 (.aload_n 0) 1 627 := ⟨by decide +kernel, rfl⟩
theorem e_L_law_627 : Dc cL_law 627 (.iload_n 3) 1 628 := ⟨by decide +kernel, rfl⟩
theorem e_L_law_628 : Dc cL_law 628 (.iconst 3) 1 629 := ⟨by decide +kernel, rfl⟩
theorem e_L_law_629 : Dc cL_law 629 (.iadd) 1 630 := ⟨by decide +kernel, rfl⟩
theorem e_L_law_630 : Dc cL_law 630 (.iaload) 1 631 := ⟨by decide +kernel, rfl⟩
theorem e_L_law_631 : Dc cL_law 631 (.invokevirtual 78) 3 634 := ⟨by decide +kernel, rfl⟩
theorem e_L_law_634 : Dc cL_law 634 (.if_icmp .eq 494) 3 637 := ⟨by decide +kernel, rfl⟩
theorem e_L_law_637 : Dc cL_law 637 (.iconst 0) 1 638 := ⟨by decide +kernel, rfl⟩
theorem e_L_law_638 : Dc cL_law 638 (.ireturn) 1 639 := ⟨by decide +kernel, rfl⟩
theorem e_L_law_639 : Dc cL_law 639 (.aload_n 1) 1 640 := ⟨by decide +kernel, rfl⟩
theorem e_L_law_640 : Dc cL_law 640 (.aload_n 0) 1 641 := ⟨by decide +kernel, rfl⟩
theorem e_L_law_641 : Dc cL_law 641 (.iload_n 3) 1 642 := ⟨by decide +kernel, rfl⟩
theorem e_L_law_642 : Dc cL_law 642 (.iconst 1) 1 643 := ⟨by decide +kernel, rfl⟩
theorem e_L_law_643 : Dc cL_law 643 (.iadd) 1 644 := ⟨by decide +kernel, rfl⟩
theorem e_L_law_644 : Dc cL_law 644 (.iaload) 1 645 := ⟨by decide +kernel, rfl⟩
theorem e_L_law_645 : Dc cL_law 645 (.aload_n 0) 1 646 := ⟨by decide +kernel, rfl⟩
theorem e_L_law_646 : Dc cL_law 646 (.iload_n 3) 1 647 := ⟨by decide +kernel, rfl⟩
theorem e_L_law_647 : Dc cL_law 647 (.iconst 2) 1 648 := ⟨by decide +kernel, rfl⟩
theorem e_L_law_648 : Dc cL_law 648 (.iadd) 1 649 := ⟨by decide +kernel, rfl⟩
theorem e_L_law_649 : Dc cL_law 649 (.iaload) 1 650 := ⟨by decide +kernel, rfl⟩
theorem e_L_law_650 : Dc cL_law 650 (.aload_n 0) 1 651 := ⟨by decide +kernel, rfl⟩
theorem e_L_law_651 : Dc cL_law 651 (.iload_n 3) 1 652 := ⟨by decide +kernel, rfl⟩
theorem e_L_law_652 : Dc cL_law 652 (.iconst 3) 1 653 := ⟨by decide +kernel, rfl⟩
theorem e_L_law_653 : Dc cL_law 653 (.iadd) 1 654 := ⟨by decide +kernel, rfl⟩
theorem e_L_law_654 : Dc cL_law 654 (.iaload) 1 655 := ⟨by decide +kernel, rfl⟩
theorem e_L_law_655 : Dc cL_law 655 (.invokevirtual 79) 3 658 := ⟨by decide +kernel, rfl⟩
theorem e_L_law_658 : Dc cL_law 658 (.aload_n 2) 1 659 := ⟨by decide +kernel, rfl⟩
theorem e_L_law_659 : Dc cL_law 659 (.aload_n 0) 1 660 := ⟨by decide +kernel, rfl⟩
theorem e_L_law_660 : Dc cL_law 660 (.iload_n 3) 1 661 := ⟨by decide +kernel, rfl⟩
theorem e_L_law_661 : Dc cL_law 661 (.iconst 1) 1 662 := ⟨by decide +kernel, rfl⟩
theorem e_L_law_662 : Dc cL_law 662 (.iadd) 1 663 := ⟨by decide +kernel, rfl⟩
theorem e_L_law_663 : Dc cL_law 663 (.iaload) 1 664 := ⟨by decide +kernel, rfl⟩
theorem e_L_law_664 : Dc cL_law 664 (.aload_n 0) 1 665 := ⟨by decide +kernel, rfl⟩
theorem e_L_law_665 : Dc cL_law 665 (.iload_n 3) 1 666 := ⟨by decide +kernel, rfl⟩
theorem e_L_law_666 : Dc cL_law 666 (.iconst 2) 1 667 := ⟨by decide +kernel, rfl⟩
theorem e_L_law_667 : Dc cL_law 667 (.iadd) 1 668 := ⟨by decide +kernel, rfl⟩
theorem e_L_law_668 : Dc cL_law 668 (.iaload) 1 669 := ⟨by decide +kernel, rfl⟩
theorem e_L_law_669 : Dc cL_law 669 (.aload_n 0) 1 670 := ⟨by decide +kernel, rfl⟩
theorem e_L_law_670 : Dc cL_law 670 (.iload_n 3) 1 671 := ⟨by decide +kernel, rfl⟩
theorem e_L_law_671 : Dc cL_law 671 (.iconst 3) 1 672 := ⟨by decide +kernel, rfl⟩
theorem e_L_law_672 : Dc cL_law 672 (.iadd) 1 673 := ⟨by decide +kernel, rfl⟩
theorem e_L_law_673 : Dc cL_law 673 (.iaload) 1 674 := ⟨by decide +kernel, rfl⟩
theorem e_L_law_674 : Dc cL_law 674 (.invokevirtual 82) 3 677 := ⟨by decide +kernel, rfl⟩
theorem e_L_law_677 : Dc cL_law 677 (.if_icmp .eq 451) 3 680 := ⟨by decide +kernel, rfl⟩
theorem e_L_law_680 : Dc cL_law 680 (.iconst 0) 1 681 := ⟨by decide +kernel, rfl⟩
theorem e_L_law_681 : Dc cL_law 681 (.ireturn) 1 682 := ⟨by decide +kernel, rfl⟩
theorem e_L_law_682 : Dc cL_law 682 (.aload_n 1) 1 683 := ⟨by decide +kernel, rfl⟩
theorem e_L_law_683 : Dc cL_law 683 (.aload_n 0) 1 684 := ⟨by decide +kernel, rfl⟩
theorem e_L_law_684 : Dc cL_law 684 (.iload_n 3) 1 685 := ⟨by decide +kernel, rfl⟩
theorem e_L_law_685 : Dc cL_law 685 (.iconst 1) 1 686 := ⟨by decide +kernel, rfl⟩
theorem e_L_law_686 : Dc cL_law 686 (.iadd) 1 687 := ⟨by decide +kernel, rfl⟩
theorem e_L_law_687 : Dc cL_law 687 (.iaload) 1 688 := ⟨by decide +kernel, rfl⟩
theorem e_L_law_688 : Dc cL_law 688 (.aload_n 0) 1 689 := ⟨by decide +kernel, rfl⟩
theorem e_L_law_689 : Dc cL_law 689 (.iload_n 3) 1 690 := ⟨by decide +kernel, rfl⟩
theorem e_L_law_690 : Dc cL_law 690 (.iconst 2) 1 691 := ⟨by decide +kernel, rfl⟩
theorem e_L_law_691 : Dc cL_law 691 (.iadd) 1 692 := ⟨by decide +kernel, rfl⟩
theorem e_L_law_692 : Dc cL_law 692 (.iaload) 1 693 := ⟨by decide +kernel, rfl⟩
theorem e_L_law_693 : Dc cL_law 693 (.invokevirtual 83) 3 696 := ⟨by decide +kernel, rfl⟩
theorem e_L_law_696 : Dc cL_law 696 (.aload_n 2) 1 697 := ⟨by decide +kernel, rfl⟩
theorem e_L_law_697 : Dc cL_law 697 (.aload_n 0) 1 698 := ⟨by decide +kernel, rfl⟩
theorem e_L_law_698 : Dc cL_law 698 (.iload_n 3) 1 699 := ⟨by decide +kernel, rfl⟩
theorem e_L_law_699 : Dc cL_law 699 (.iconst 1) 1 700 := ⟨by decide +kernel, rfl⟩
theorem e_L_law_700 : Dc cL_law 700 (.iadd) 1 701 := ⟨by decide +kernel, rfl⟩
theorem e_L_law_701 : Dc cL_law 701 (.iaload) 1 702 := ⟨by decide +kernel, rfl⟩
theorem e_L_law_702 : Dc cL_law 702 (.aload_n 0) 1 703 := ⟨by decide +kernel, rfl⟩
theorem e_L_law_703 : Dc cL_law 703 (.iload_n 3) 1 704 := ⟨by decide +kernel, rfl⟩
theorem e_L_law_704 : Dc cL_law 704 (.iconst 2) 1 705 := ⟨by decide +kernel, rfl⟩
theorem e_L_law_705 : Dc cL_law 705 (.iadd) 1 706 := ⟨by decide +kernel, rfl⟩
theorem e_L_law_706 : Dc cL_law 706 (.iaload) 1 707 := ⟨by decide +kernel, rfl⟩
theorem e_L_law_707 : Dc cL_law 707 (.invokevirtual 86) 3 710 := ⟨by decide +kernel, rfl⟩
theorem e_L_law_710 : Dc cL_law 710 (.if_icmp .eq 418) 3 713 := ⟨by decide +kernel, rfl⟩
theorem e_L_law_713 : Dc cL_law 713 (.iconst 0) 1 714 := ⟨by decide +kernel, rfl⟩
theorem e_L_law_714 : Dc cL_law 714 (.ireturn) 1 715 := ⟨by decide +kernel, rfl⟩
theorem e_L_law_715 : Dc cL_law 715 (.aload_n 1) 1 716 := ⟨by decide +kernel, rfl⟩
theorem e_L_law_716 : Dc cL_law 716 (.aload_n 0) 1 717 := ⟨by decide +kernel, rfl⟩
theorem e_L_law_717 : Dc cL_law 717 (.iload_n 3) 1 718 := ⟨by decide +kernel, rfl⟩
theorem e_L_law_718 : Dc cL_law 718 (.iconst 1) 1 719 := ⟨by decide +kernel, rfl⟩
theorem e_L_law_719 : Dc cL_law 719 (.iadd) 1 720 := ⟨by decide +kernel, rfl⟩
theorem e_L_law_720 : Dc cL_law 720 (.iaload) 1 721 := ⟨by decide +kernel, rfl⟩
theorem e_L_law_721 : Dc cL_law 721 (.aload_n 0) 1 722 := ⟨by decide +kernel, rfl⟩
theorem e_L_law_722 : Dc cL_law 722 (.iload_n 3) 1 723 := ⟨by decide +kernel, rfl⟩
theorem e_L_law_723 : Dc cL_law 723 (.iconst 2) 1 724 := ⟨by decide +kernel, rfl⟩
theorem e_L_law_724 : Dc cL_law 724 (.iadd) 1 725 := ⟨by decide +kernel, rfl⟩
theorem e_L_law_725 : Dc cL_law 725 (.iaload) 1 726 := ⟨by decide +kernel, rfl⟩
theorem e_L_law_726 : Dc cL_law 726 (.aload_n 0) 1 727 := ⟨by decide +kernel, rfl⟩
theorem e_L_law_727 : Dc cL_law 727 (.iload_n 3) 1 728 := ⟨by decide +kernel, rfl⟩
theorem e_L_law_728 : Dc cL_law 728 (.iconst 3) 1 729 := ⟨by decide +kernel, rfl⟩
theorem e_L_law_729 : Dc cL_law 729 (.iadd) 1 730 := ⟨by decide +kernel, rfl⟩
theorem e_L_law_730 : Dc cL_law 730 (.iaload) 1 731 := ⟨by decide +kernel, rfl⟩
theorem e_L_law_731 : Dc cL_law 731 (.aload_n 0) 1 732 := ⟨by decide +kernel, rfl⟩
theorem e_L_law_732 : Dc cL_law 732 (.iload_n 3) 1 733 := ⟨by decide +kernel, rfl⟩
theorem e_L_law_733 : Dc cL_law 733 (.iconst 4) 1 734 := ⟨by decide +kernel, rfl⟩
theorem e_L_law_734 : Dc cL_law 734 (.iadd) 1 735 := ⟨by decide +kernel, rfl⟩
theorem e_L_law_735 : Dc cL_law 735 (.iaload) 1 736 := ⟨by decide +kernel, rfl⟩
theorem e_L_law_736 : Dc cL_law 736 (.invokevirtual 87) 3 739 := ⟨by decide +kernel, rfl⟩
theorem e_L_law_739 : Dc cL_law 739 (.aload_n 2) 1 740 := ⟨by decide +kernel, rfl⟩
theorem e_L_law_740 : Dc cL_law 740 (.aload_n 0) 1 741 := ⟨by decide +kernel, rfl⟩
theorem e_L_law_741 : Dc cL_law 741 (.iload_n 3) 1 742 := ⟨by decide +kernel, rfl⟩
theorem e_L_law_742 : Dc cL_law 742 (.iconst 1) 1 743 := ⟨by decide +kernel, rfl⟩
theorem e_L_law_743 : Dc cL_law 743 (.iadd) 1 744 := ⟨by decide +kernel, rfl⟩
theorem e_L_law_744 : Dc cL_law 744 (.iaload) 1 745 := ⟨by decide +kernel, rfl⟩
theorem e_L_law_745 : Dc cL_law 745 (.aload_n 0) 1 746 := ⟨by decide +kernel, rfl⟩
theorem e_L_law_746 : Dc cL_law 746 (.iload_n 3) 1 747 := ⟨by decide +kernel, rfl⟩
theorem e_L_law_747 : Dc cL_law 747 (.iconst 2) 1 748 := ⟨by decide +kernel, rfl⟩
theorem e_L_law_748 : Dc cL_law 748 (.iadd) 1 749 := ⟨by decide +kernel, rfl⟩
theorem e_L_law_749 : Dc cL_law 749 (.iaload) 1 750 := ⟨by decide +kernel, rfl⟩
theorem e_L_law_750 : Dc cL_law 750 (.aload_n 0) 1 751 := ⟨by decide +kernel, rfl⟩
theorem e_L_law_751 : Dc cL_law 751 (.iload_n 3) 1 752 := ⟨by decide +kernel, rfl⟩
theorem e_L_law_752 : Dc cL_law 752 (.iconst 3) 1 753 := ⟨by decide +kernel, rfl⟩
theorem e_L_law_753 : Dc cL_law 753 (.iadd) 1 754 := ⟨by decide +kernel, rfl⟩
theorem e_L_law_754 : Dc cL_law 754 (.iaload) 1 755 := ⟨by decide +kernel, rfl⟩
theorem e_L_law_755 : Dc cL_law 755 (.aload_n 0) 1 756 := ⟨by decide +kernel, rfl⟩
theorem e_L_law_756 : Dc cL_law 756 (.iload_n 3) 1 757 := ⟨by decide +kernel, rfl⟩
theorem e_L_law_757 : Dc cL_law 757 (.iconst 4) 1 758 := ⟨by decide +kernel, rfl⟩
theorem e_L_law_758 : Dc cL_law 758 (.iadd) 1 759 := ⟨by decide +kernel, rfl⟩
theorem e_L_law_759 : Dc cL_law 759 (.iaload) 1 760 := ⟨by decide +kernel, rfl⟩
theorem e_L_law_760 : Dc cL_law 760 (.invokevirtual 90) 3 763 := ⟨by decide +kernel, rfl⟩
theorem e_L_law_763 : Dc cL_law 763 (.if_icmp .eq 365) 3 766 := ⟨by decide +kernel, rfl⟩
theorem e_L_law_766 : Dc cL_law 766 (.iconst 0) 1 767 := ⟨by decide +kernel, rfl⟩
theorem e_L_law_767 : Dc cL_law 767 (.ireturn) 1 768 := ⟨by decide +kernel, rfl⟩
theorem e_L_law_768 : Dc cL_law 768 (.aload_n 1) 1 769 := ⟨by decide +kernel, rfl⟩
theorem e_L_law_769 : Dc cL_law 769 (.aload_n 0) 1 770 := ⟨by decide +kernel, rfl⟩
theorem e_L_law_770 : Dc cL_law 770 (.iload_n 3) 1 771 := ⟨by decide +kernel, rfl⟩
theorem e_L_law_771 : Dc cL_law 771 (.iconst 1) 1 772 := ⟨by decide +kernel, rfl⟩
theorem e_L_law_772 : Dc cL_law 772 (.iadd) 1 773 := ⟨by decide +kernel, rfl⟩
theorem e_L_law_773 : Dc cL_law 773 (.iaload) 1 774 := ⟨by decide +kernel, rfl⟩
theorem e_L_law_774 : Dc cL_law 774 (.invokevirtual 91) 3 777 := ⟨by decide +kernel, rfl⟩
theorem e_L_law_777 : Dc cL_law 777 (.aload_n 2) 1 778 := ⟨by decide +kernel, rfl⟩
theorem e_L_law_778 : Dc cL_law 778 (.aload_n 0) 1 779 := ⟨by decide +kernel, rfl⟩
theorem e_L_law_779 : Dc cL_law 779 (.iload_n 3) 1 780 := ⟨by decide +kernel, rfl⟩
theorem e_L_law_780 : Dc cL_law 780 (.iconst 1) 1 781 := ⟨by decide +kernel, rfl⟩
theorem e_L_law_781 : Dc cL_law 781 (.iadd) 1 782 := ⟨by decide +kernel, rfl⟩
theorem e_L_law_782 : Dc cL_law 782 (.iaload) 1 783 := ⟨by decide +kernel, rfl⟩
theorem e_L_law_783 : Dc cL_law 783 (.invokevirtual 94) 3 786 := ⟨by decide +kernel, rfl⟩
theorem e_L_law_786 : Dc cL_law 786 (.if_icmp .eq 342) 3 789 := ⟨by decide +kernel, rfl⟩
theorem e_L_law_789 : Dc cL_law 789 (.iconst 0) 1 790 := ⟨by decide +kernel, rfl⟩
theorem e_L_law_790 : Dc cL_law 790 (.ireturn) 1 791 := ⟨by decide +kernel, rfl⟩
theorem e_L_law_791 : Dc cL_law 791 (.aload_n 1) 1 792 := ⟨by decide +kernel, rfl⟩
theorem e_L_law_792 : Dc cL_law 792 (.aload_n 0) 1 793 := ⟨by decide +kernel, rfl⟩
theorem e_L_law_793 : Dc cL_law 793 (.iload_n 3) 1 794 := ⟨by decide +kernel, rfl⟩
theorem e_L_law_794 : Dc cL_law 794 (.iconst 1) 1 795 := ⟨by decide +kernel, rfl⟩
theorem e_L_law_795 : Dc cL_law 795 (.iadd) 1 796 := ⟨by decide +kernel, rfl⟩
theorem e_L_law_796 : Dc cL_law 796 (.iaload) 1 797 := ⟨by decide +kernel, rfl⟩
theorem e_L_law_797 : Dc cL_law 797 (.invokevirtual 95) 3 800 := ⟨by decide +kernel, rfl⟩
theorem e_L_law_800 : Dc cL_law 800 (.aload_n 2) 1 801 := ⟨by decide +kernel, rfl⟩
theorem e_L_law_801 : Dc cL_law 801 (.aload_n 0) 1 802 := ⟨by decide +kernel, rfl⟩
theorem e_L_law_802 : Dc cL_law 802 (.iload_n 3) 1 803 := ⟨by decide +kernel, rfl⟩
theorem e_L_law_803 : Dc cL_law 803 (.iconst 1) 1 804 := ⟨by decide +kernel, rfl⟩
theorem e_L_law_804 : Dc cL_law 804 (.iadd) 1 805 := ⟨by decide +kernel, rfl⟩
theorem e_L_law_805 : Dc cL_law 805 (.iaload) 1 806 := ⟨by decide +kernel, rfl⟩
theorem e_L_law_806 : Dc cL_law 806 (.invokevirtual 98) 3 809 := ⟨by decide +kernel, rfl⟩
theorem e_L_law_809 : Dc cL_law 809 (.if_icmp .eq 319) 3 812 := ⟨by decide +kernel, rfl⟩
theorem e_L_law_812 : Dc cL_law 812 (.iconst 0) 1 813 := ⟨by decide +kernel, rfl⟩
theorem e_L_law_813 : Dc cL_law 813 (.ireturn) 1 814 := ⟨by decide +kernel, rfl⟩
theorem e_L_law_814 : Dc cL_law 814 (.aload_n 1) 1 815 := ⟨by decide +kernel, rfl⟩
theorem e_L_law_815 : Dc cL_law 815 (.aload_n 0) 1 816 := ⟨by decide +kernel, rfl⟩
theorem e_L_law_816 : Dc cL_law 816 (.iload_n 3) 1 817 := ⟨by decide +kernel, rfl⟩
theorem e_L_law_817 : Dc cL_law 817 (.iconst 1) 1 818 := ⟨by decide +kernel, rfl⟩
theorem e_L_law_818 : Dc cL_law 818 (.iadd) 1 819 := ⟨by decide +kernel, rfl⟩
theorem e_L_law_819 : Dc cL_law 819 (.iaload) 1 820 := ⟨by decide +kernel, rfl⟩
theorem e_L_law_820 : Dc cL_law 820 (.aload_n 0) 1 821 := ⟨by decide +kernel, rfl⟩
theorem e_L_law_821 : Dc cL_law 821 (.iload_n 3) 1 822 := ⟨by decide +kernel, rfl⟩
theorem e_L_law_822 : Dc cL_law 822 (.iconst 2) 1 823 := ⟨by decide +kernel, rfl⟩
theorem e_L_law_823 : Dc cL_law 823 (.iadd) 1 824 := ⟨by decide +kernel, rfl⟩
theorem e_L_law_824 : Dc cL_law 824 (.iaload) 1 825 := ⟨by decide +kernel, rfl⟩
theorem e_L_law_825 : Dc cL_law 825 (.aload_n 0) 1 826 := ⟨by decide +kernel, rfl⟩
theorem e_L_law_826 : Dc cL_law 826 (.iload_n 3) 1 827 := ⟨by decide +kernel, rfl⟩
theorem e_L_law_827 : Dc cL_law 827 (.iconst 3) 1 828 := ⟨by decide +kernel, rfl⟩
theorem e_L_law_828 : Dc cL_law 828 (.iadd) 1 829 := ⟨by decide +kernel, rfl⟩
theorem e_L_law_829 : Dc cL_law 829 (.iaload) 1 830 := ⟨by decide +kernel, rfl⟩
theorem e_L_law_830 : Dc cL_law 830 (.aload_n 0) 1 831 := ⟨by decide +kernel, rfl⟩
theorem e_L_law_831 : Dc cL_law 831 (.iload_n 3) 1 832 := ⟨by decide +kernel, rfl⟩
theorem e_L_law_832 : Dc cL_law 832 (.iconst 4) 1 833 := ⟨by decide +kernel, rfl⟩
theorem e_L_law_833 : Dc cL_law 833 (.iadd) 1 834 := ⟨by decide +kernel, rfl⟩
theorem e_L_law_834 : Dc cL_law 834 (.iaload) 1 835 := ⟨by decide +kernel, rfl⟩
theorem e_L_law_835 : Dc cL_law 835 (.invokevirtual 99) 3 838 := ⟨by decide +kernel, rfl⟩
theorem e_L_law_838 : Dc cL_law 838 (.aload_n 2) 1 839 := ⟨by decide +kernel, rfl⟩
theorem e_L_law_839 : Dc cL_law 839 (.aload_n 0) 1 840 := ⟨by decide +kernel, rfl⟩
theorem e_L_law_840 : Dc cL_law 840 (.iload_n 3) 1 841 := ⟨by decide +kernel, rfl⟩
theorem e_L_law_841 : Dc cL_law 841 (.iconst 1) 1 842 := ⟨by decide +kernel, rfl⟩
theorem e_L_law_842 : Dc cL_law 842 (.iadd) 1 843 := ⟨by decide +kernel, rfl⟩
theorem e_L_law_843 : Dc cL_law 843 (.iaload) 1 844 := ⟨by decide +kernel, rfl⟩
theorem e_L_law_844 : Dc cL_law 844 (.aload_n 0) 1 845 := ⟨by decide +kernel, rfl⟩
theorem e_L_law_845 : Dc cL_law 845 (.iload_n 3) 1 846 := ⟨by decide +kernel, rfl⟩
theorem e_L_law_846 : Dc cL_law 846 (.iconst 2) 1 847 := ⟨by decide +kernel, rfl⟩
theorem e_L_law_847 : Dc cL_law 847 (.iadd) 1 848 := ⟨by decide +kernel, rfl⟩
theorem e_L_law_848 : Dc cL_law 848 (.iaload) 1 849 := ⟨by decide +kernel, rfl⟩
theorem e_L_law_849 : Dc cL_law 849 (.aload_n 0) 1 850 := ⟨by decide +kernel, rfl⟩
theorem e_L_law_850 : Dc cL_law 850 (.iload_n 3) 1 851 := ⟨by decide +kernel, rfl⟩
theorem e_L_law_851 : Dc cL_law 851 (.iconst 3) 1 852 := ⟨by decide +kernel, rfl⟩
theorem e_L_law_852 : Dc cL_law 852 (.iadd) 1 853 := ⟨by decide +kernel, rfl⟩
theorem e_L_law_853 : Dc cL_law 853 (.iaload) 1 854 := ⟨by decide +kernel, rfl⟩
theorem e_L_law_854 : Dc cL_law 854 (.aload_n 0) 1 855 := ⟨by decide +kernel, rfl⟩
theorem e_L_law_855 : Dc cL_law 855 (.iload_n 3) 1 856 := ⟨by decide +kernel, rfl⟩
theorem e_L_law_856 : Dc cL_law 856 (.iconst 4) 1 857 := ⟨by decide +kernel, rfl⟩
theorem e_L_law_857 : Dc cL_law 857 (.iadd) 1 858 := ⟨by decide +kernel, rfl⟩
theorem e_L_law_858 : Dc cL_law 858 (.iaload) 1 859 := ⟨by decide +kernel, rfl⟩
theorem e_L_law_859 : Dc cL_law 859 (.invokevirtual 102) 3 862 := ⟨by decide +kernel, rfl⟩
theorem e_L_law_862 : Dc cL_law 862 (.if_icmp .eq 266) 3 865 := ⟨by decide +kernel, rfl⟩
theorem e_L_law_865 : Dc cL_law 865 (.iconst 0) 1 866 := ⟨by decide +kernel, rfl⟩
theorem e_L_law_866 : Dc cL_law 866 (.ireturn) 1 867 := ⟨by decide +kernel, rfl⟩
theorem e_L_law_867 : Dc cL_law 867 (.aload_n 1) 1 868 := ⟨by decide +kernel, rfl⟩
theorem e_L_law_868 : Dc cL_law 868 (.aload_n 0) 1 869 := ⟨by decide +kernel, rfl⟩
theorem e_L_law_869 : Dc cL_law 869 (.iload_n 3) 1 870 := ⟨by decide +kernel, rfl⟩
theorem e_L_law_870 : Dc cL_law 870 (.iconst 1) 1 871 := ⟨by decide +kernel, rfl⟩
theorem e_L_law_871 : Dc cL_law 871 (.iadd) 1 872 := ⟨by decide +kernel, rfl⟩
theorem e_L_law_872 : Dc cL_law 872 (.iaload) 1 873 := ⟨by decide +kernel, rfl⟩
theorem e_L_law_873 : Dc cL_law 873 (.aload_n 0) 1 874 := ⟨by decide +kernel, rfl⟩
theorem e_L_law_874 : Dc cL_law 874 (.iload_n 3) 1 875 := ⟨by decide +kernel, rfl⟩
theorem e_L_law_875 : Dc cL_law 875 (.iconst 2) 1 876 := ⟨by decide +kernel, rfl⟩
theorem e_L_law_876 : Dc cL_law 876 (.iadd) 1 877 := ⟨by decide +kernel, rfl⟩
theorem e_L_law_877 : Dc cL_law 877 (.iaload) 1 878 := ⟨by decide +kernel, rfl⟩
theorem e_L_law_878 : Dc cL_law 878 (.invokevirtual 103) 3 881 := ⟨by decide +kernel, rfl⟩
theorem e_L_law_881 : Dc cL_law 881 (.aload_n 2) 1 882 := ⟨by decide +kernel, rfl⟩
theorem e_L_law_882 : Dc cL_law 882 (.aload_n 0) 1 883 := ⟨by decide +kernel, rfl⟩
theorem e_L_law_883 : Dc cL_law 883 (.iload_n 3) 1 884 := ⟨by decide +kernel, rfl⟩
theorem e_L_law_884 : Dc cL_law 884 (.iconst 1) 1 885 := ⟨by decide +kernel, rfl⟩
theorem e_L_law_885 : Dc cL_law 885 (.iadd) 1 886 := ⟨by decide +kernel, rfl⟩
theorem e_L_law_886 : Dc cL_law 886 (.iaload) 1 887 := ⟨by decide +kernel, rfl⟩
theorem e_L_law_887 : Dc cL_law 887 (.aload_n 0) 1 888 := ⟨by decide +kernel, rfl⟩
theorem e_L_law_888 : Dc cL_law 888 (.iload_n 3) 1 889 := ⟨by decide +kernel, rfl⟩
theorem e_L_law_889 : Dc cL_law 889 (.iconst 2) 1 890 := ⟨by decide +kernel, rfl⟩
theorem e_L_law_890 : Dc cL_law 890 (.iadd) 1 891 := ⟨by decide +kernel, rfl⟩
theorem e_L_law_891 : Dc cL_law 891 (.iaload) 1 892 := ⟨by decide +kernel, rfl⟩
theorem e_L_law_892 : Dc cL_law 892 (.invokevirtual 106) 3 895 := ⟨by decide +kernel, rfl⟩
theorem e_L_law_895 : Dc cL_law 895 (.if_icmp .eq 233) 3 898 := ⟨by decide +kernel, rfl⟩
theorem e_L_law_898 : Dc cL_law 898 (.iconst 0) 1 899 := ⟨by decide +kernel, rfl⟩
theorem e_L_law_899 : Dc cL_law 899 (.ireturn) 1 900 := ⟨by decide +kernel, rfl⟩
theorem e_L_law_900 : Dc cL_law 900 (.aload_n 1) 1 901 := ⟨by decide +kernel, rfl⟩
theorem e_L_law_901 : Dc cL_law 901 (.aload_n 0) 1 902 := ⟨by decide +kernel, rfl⟩
theorem e_L_law_902 : Dc cL_law 902 (.iload_n 3) 1 903 := ⟨by decide +kernel, rfl⟩
theorem e_L_law_903 : Dc cL_law 903 (.iconst 1) 1 904 := ⟨by decide +kernel, rfl⟩
theorem e_L_law_904 : Dc cL_law 904 (.iadd) 1 905 := ⟨by decide +kernel, rfl⟩
theorem e_L_law_905 : Dc cL_law 905 (.iaload) 1 906 := ⟨by decide +kernel, rfl⟩
theorem e_L_law_906 : Dc cL_law 906 (.aload_n 0) 1 907 := ⟨by decide +kernel, rfl⟩
theorem e_L_law_907 : Dc cL_law 907 (.iload_n 3) 1 908 := ⟨by decide +kernel, rfl⟩
theorem e_L_law_908 : Dc cL_law 908 (.iconst 2) 1 909 := ⟨by decide +kernel, rfl⟩
theorem e_L_law_909 : Dc cL_law 909 (.iadd) 1 910 := ⟨by decide +kernel, rfl⟩
theorem e_L_law_910 : Dc cL_law 910 (.iaload) 1 911 := ⟨by decide +kernel, rfl⟩
theorem e_L_law_911 : Dc cL_law 911 (.aload_n 0) 1 912 := ⟨by decide +kernel, rfl⟩
theorem e_L_law_912 : Dc cL_law 912 (.iload_n 3) 1 913 := ⟨by decide +kernel, rfl⟩
theorem e_L_law_913 : Dc cL_law 913 (.iconst 3) 1 914 := ⟨by decide +kernel, rfl⟩
theorem e_L_law_914 : Dc cL_law 914 (.iadd) 1 915 := ⟨by decide +kernel, rfl⟩
theorem e_L_law_915 : Dc cL_law 915 (.iaload) 1 916 := ⟨by decide +kernel, rfl⟩
theorem e_L_law_916 : Dc cL_law 916 (.invokevirtual 107) 3 919 := ⟨by decide +kernel, rfl⟩
theorem e_L_law_919 : Dc cL_law 919 (.aload_n 2) 1 920 := ⟨by decide +kernel, rfl⟩
theorem e_L_law_920 : Dc cL_law 920 (.aload_n 0) 1 921 := ⟨by decide +kernel, rfl⟩
theorem e_L_law_921 : Dc cL_law 921 (.iload_n 3) 1 922 := ⟨by decide +kernel, rfl⟩
theorem e_L_law_922 : Dc cL_law 922 (.iconst 1) 1 923 := ⟨by decide +kernel, rfl⟩
theorem e_L_law_923 : Dc cL_law 923 (.iadd) 1 924 := ⟨by decide +kernel, rfl⟩
theorem e_L_law_924 : Dc cL_law 924 (.iaload) 1 925 := ⟨by decide +kernel, rfl⟩
theorem e_L_law_925 : Dc cL_law 925 (.aload_n 0) 1 926 := ⟨by decide +kernel, rfl⟩
theorem e_L_law_926 : Dc cL_law 926 (.iload_n 3) 1 927 := ⟨by decide +kernel, rfl⟩
theorem e_L_law_927 : Dc cL_law 927 (.iconst 2) 1 928 := ⟨by decide +kernel, rfl⟩
theorem e_L_law_928 : Dc cL_law 928 (.iadd) 1 929 := ⟨by decide +kernel, rfl⟩
theorem e_L_law_929 : Dc cL_law 929 (.iaload) 1 930 := ⟨by decide +kernel, rfl⟩
theorem e_L_law_930 : Dc cL_law 930 (.aload_n 0) 1 931 := ⟨by decide +kernel, rfl⟩
theorem e_L_law_931 : Dc cL_law 931 (.iload_n 3) 1 932 := ⟨by decide +kernel, rfl⟩
theorem e_L_law_932 : Dc cL_law 932 (.iconst 3) 1 933 := ⟨by decide +kernel, rfl⟩
theorem e_L_law_933 : Dc cL_law 933 (.iadd) 1 934 := ⟨by decide +kernel, rfl⟩
theorem e_L_law_934 : Dc cL_law 934 (.iaload) 1 935 := ⟨by decide +kernel, rfl⟩
theorem e_L_law_935 : Dc cL_law 935 (.invokevirtual 110) 3 938 := ⟨by decide +kernel, rfl⟩
theorem e_L_law_938 : Dc cL_law 938 (.if_icmp .eq 190) 3 941 := ⟨by decide +kernel, rfl⟩
theorem e_L_law_941 : Dc cL_law 941 (.iconst 0) 1 942 := ⟨by decide +kernel, rfl⟩
theorem e_L_law_942 : Dc cL_law 942 (.ireturn) 1 943 := ⟨by decide +kernel, rfl⟩
theorem e_L_law_943 : Dc cL_law 943 (.aload_n 1) 1 944 := ⟨by decide +kernel, rfl⟩
theorem e_L_law_944 : Dc cL_law 944 (.invokevirtual 111) 3 947 := ⟨by decide +kernel, rfl⟩
theorem e_L_law_947 : Dc cL_law 947 (.aload_n 2) 1 948 := ⟨by decide +kernel, rfl⟩
theorem e_L_law_948 : Dc cL_law 948 (.invokevirtual 114) 3 951 := ⟨by decide +kernel, rfl⟩
theorem e_L_law_951 : Dc cL_law 951 (.if_icmp .eq 177) 3 954 := ⟨by decide +kernel, rfl⟩
theorem e_L_law_954 : Dc cL_law 954 (.iconst 0) 1 955 := ⟨by decide +kernel, rfl⟩
theorem e_L_law_955 : Dc cL_law 955 (.ireturn) 1 956 := ⟨by decide +kernel, rfl⟩
theorem e_L_law_956 : Dc cL_law 956 (.aload_n 1) 1 957 := ⟨by decide +kernel, rfl⟩
theorem e_L_law_957 : Dc cL_law 957 (.aload_n 0) 1 958 := ⟨by decide +kernel, rfl⟩
theorem e_L_law_958 : Dc cL_law 958 (.iload_n 3) 1 959 := ⟨by decide +kernel, rfl⟩
theorem e_L_law_959 : Dc cL_law 959 (.iconst 1) 1 960 := ⟨by decide +kernel, rfl⟩
theorem e_L_law_960 : Dc cL_law 960 (.iadd) 1 961 := ⟨by decide +kernel, rfl⟩
theorem e_L_law_961 : Dc cL_law 961 (.iaload) 1 962 := ⟨by decide +kernel, rfl⟩
theorem e_L_law_962 : Dc cL_law 962 (.invokevirtual 115) 3 965 := ⟨by decide +kernel, rfl⟩
theorem e_L_law_965 : Dc cL_law 965 (.aload_n 2) 1 966 := ⟨by decide +kernel, rfl⟩
theorem e_L_law_966 : Dc cL_law 966 (.aload_n 0) 1 967 := ⟨by decide +kernel, rfl⟩
theorem e_L_law_967 : Dc cL_law 967 (.iload_n 3) 1 968 := ⟨by decide +kernel, rfl⟩
theorem e_L_law_968 : Dc cL_law 968 (.iconst 1) 1 969 := ⟨by decide +kernel, rfl⟩
theorem e_L_law_969 : Dc cL_law 969 (.iadd) 1 970 := ⟨by decide +kernel, rfl⟩
theorem e_L_law_970 : Dc cL_law 970 (.iaload) 1 971 := ⟨by decide +kernel, rfl⟩
theorem e_L_law_971 : Dc cL_law 971 (.invokevirtual 118) 3 974 := ⟨by decide +kernel, rfl⟩
theorem e_L_law_974 : Dc cL_law 974 (.if_icmp .eq 154) 3 977 := ⟨by decide +kernel, rfl⟩
theorem e_L_law_977 : Dc cL_law 977 (.iconst 0) 1 978 := ⟨by decide +kernel, rfl⟩
theorem e_L_law_978 : Dc cL_law 978 (.ireturn) 1 979 := ⟨by decide +kernel, rfl⟩
theorem e_L_law_979 : Dc cL_law 979 (.aload_n 1) 1 980 := ⟨by decide +kernel, rfl⟩
theorem e_L_law_980 : Dc cL_law 980 (.aload_n 0) 1 981 := ⟨by decide +kernel, rfl⟩
theorem e_L_law_981 : Dc cL_law 981 (.iload_n 3) 1 982 := ⟨by decide +kernel, rfl⟩
theorem e_L_law_982 : Dc cL_law 982 (.iconst 1) 1 983 := ⟨by decide +kernel, rfl⟩
theorem e_L_law_983 : Dc cL_law 983 (.iadd) 1 984 := ⟨by decide +kernel, rfl⟩
theorem e_L_law_984 : Dc cL_law 984 (.iaload) 1 985 := ⟨by decide +kernel, rfl⟩
theorem e_L_law_985 : Dc cL_law 985 (.aload_n 0) 1 986 := ⟨by decide +kernel, rfl⟩
theorem e_L_law_986 : Dc cL_law 986 (.iload_n 3) 1 987 := ⟨by decide +kernel, rfl⟩
theorem e_L_law_987 : Dc cL_law 987 (.iconst 2) 1 988 := ⟨by decide +kernel, rfl⟩
theorem e_L_law_988 : Dc cL_law 988 (.iadd) 1 989 := ⟨by decide +kernel, rfl⟩
theorem e_L_law_989 : Dc cL_law 989 (.iaload) 1 990 := ⟨by decide +kernel, rfl⟩
theorem e_L_law_990 : Dc cL_law 990 (.aload_n 0) 1 991 := ⟨by decide +kernel, rfl⟩
theorem e_L_law_991 : Dc cL_law 991 (.iload_n 3) 1 992 := ⟨by decide +kernel, rfl⟩
theorem e_L_law_992 : Dc cL_law 992 (.iconst 3) 1 993 := ⟨by decide +kernel, rfl⟩
theorem e_L_law_993 : Dc cL_law 993 (.iadd) 1 994 := ⟨by decide +kernel, rfl⟩
theorem e_L_law_994 : Dc cL_law 994 (.iaload) 1 995 := ⟨by decide +kernel, rfl⟩
theorem e_L_law_995 : Dc cL_law 995 (.invokevirtual 119) 3 998 := ⟨by decide +kernel, rfl⟩
theorem e_L_law_998 : Dc cL_law 998 (.aload_n 2) 1 999 := ⟨by decide +kernel, rfl⟩
theorem e_L_law_999 : Dc cL_law 999 (.aload_n 0) 1 1000 := ⟨by decide +kernel, rfl⟩
theorem e_L_law_1000 : Dc cL_law 1000 (.iload_n 3) 1 1001 := ⟨by decide +kernel, rfl⟩
theorem e_L_law_1001 : Dc cL_law 1001 (.iconst 1) 1 1002 := ⟨by decide +kernel, rfl⟩
theorem e_L_law_1002 : Dc cL_law 1002 (.iadd) 1 1003 := ⟨by decide +kernel, rfl⟩
theorem e_L_law_1003 : Dc cL_law 1003 (.iaload) 1 1004 := ⟨by decide +kernel, rfl⟩
theorem e_L_law_1004 : Dc cL_law 1004 (.aload_n 0) 1 1005 := ⟨by decide +kernel, rfl⟩
theorem e_L_law_1005 : Dc cL_law 1005 (.iload_n 3) 1 1006 := ⟨by decide +kernel, rfl⟩
theorem e_L_law_1006 : Dc cL_law 1006 (.iconst 2) 1 1007 := ⟨by decide +kernel, rfl⟩
theorem e_L_law_1007 : Dc cL_law 1007 (.iadd) 1 1008 := ⟨by decide +kernel, rfl⟩
theorem e_L_law_1008 : Dc cL_law 1008 (.iaload) 1 1009 := ⟨by decide +kernel, rfl⟩
theorem e_L_law_1009 : Dc cL_law 1009 (.aload_n 0) 1 1010 := ⟨by decide +kernel, rfl⟩
theorem e_L_law_1010 : Dc cL_law 1010 (.iload_n 3) 1 1011 := ⟨by decide +kernel, rfl⟩
theorem e_L_law_1011 : Dc cL_law 1011 (.iconst 3) 1 1012 := ⟨by decide +kernel, rfl⟩
theorem e_L_law_1012 : Dc cL_law 1012 (.iadd) 1 1013 := ⟨by decide +kernel, rfl⟩
theorem e_L_law_1013 : Dc cL_law 1013 (.iaload) 1 1014 := ⟨by decide +kernel, rfl⟩
theorem e_L_law_1014 : Dc cL_law 1014 (.invokevirtual 122) 3 1017 := ⟨by decide +kernel, rfl⟩
theorem e_L_law_1017 : Dc cL_law 1017 (.if_icmp .eq 111) 3 1020 := ⟨by decide +kernel, rfl⟩
theorem e_L_law_1020 : Dc cL_law 1020 (.iconst 0) 1 1021 := ⟨by decide +kernel, rfl⟩
theorem e_L_law_1021 : Dc cL_law 1021 (.ireturn) 1 1022 := ⟨by decide +kernel, rfl⟩
theorem e_L_law_1022 : Dc cL_law 1022 (.aload_n 1) 1 1023 := ⟨by decide +kernel, rfl⟩
theorem e_L_law_1023 : Dc cL_law 1023 (.aload_n 0) 1 1024 := ⟨by decide +kernel, rfl⟩
theorem e_L_law_1024 : Dc cL_law 1024 (.iload_n 3) 1 1025 := ⟨by decide +kernel, rfl⟩
theorem e_L_law_1025 : Dc cL_law 1025 (.iconst 1) 1 1026 := ⟨by decide +kernel, rfl⟩
theorem e_L_law_1026 : Dc cL_law 1026 (.iadd) 1 1027 := ⟨by decide +kernel, rfl⟩
theorem e_L_law_1027 : Dc cL_law 1027 (.iaload) 1 1028 := ⟨by decide +kernel, rfl⟩
theorem e_L_law_1028 : Dc cL_law 1028 (.invokevirtual 123) 3 1031 := ⟨by decide +kernel, rfl⟩
theorem e_L_law_1031 : Dc cL_law 1031 (.aload_n 2) 1 1032 := ⟨by decide +kernel, rfl⟩
theorem e_L_law_1032 : Dc cL_law 1032 (.aload_n 0) 1 1033 := ⟨by decide +kernel, rfl⟩
theorem e_L_law_1033 : Dc cL_law 1033 (.iload_n 3) 1 1034 := ⟨by decide +kernel, rfl⟩
theorem e_L_law_1034 : Dc cL_law 1034 (.iconst 1) 1 1035 := ⟨by decide +kernel, rfl⟩
theorem e_L_law_1035 : Dc cL_law 1035 (.iadd) 1 1036 := ⟨by decide +kernel, rfl⟩
theorem e_L_law_1036 : Dc cL_law 1036 (.iaload) 1 1037 := ⟨by decide +kernel, rfl⟩
theorem e_L_law_1037 : Dc cL_law 1037 (.invokevirtual 126) 3 1040 := ⟨by decide +kernel, rfl⟩
theorem e_L_law_1040 : Dc cL_law 1040 (.if_icmp .eq 88) 3 1043 := ⟨by decide +kernel, rfl⟩
theorem e_L_law_1043 : Dc cL_law 1043 (.iconst 0) 1 1044 := ⟨by decide +kernel, rfl⟩
theorem e_L_law_1044 : Dc cL_law 1044 (.ireturn) 1 1045 := ⟨by decide +kernel, rfl⟩
theorem e_L_law_1045 : Dc cL_law 1045 (.aload_n 1) 1 1046 := ⟨by decide +kernel, rfl⟩
theorem e_L_law_1046 : Dc cL_law 1046 (.aload_n 0) 1 1047 := ⟨by decide +kernel, rfl⟩
theorem e_L_law_1047 : Dc cL_law 1047 (.iload_n 3) 1 1048 := ⟨by decide +kernel, rfl⟩
theorem e_L_law_1048 : Dc cL_law 1048 (.iconst 1) 1 1049 := ⟨by decide +kernel, rfl⟩
theorem e_L_law_1049 : Dc cL_law 1049 (.iadd) 1 1050 := ⟨by decide +kernel, rfl⟩
theorem e_L_law_1050 : Dc cL_law 1050 (.iaload) 1 1051 := ⟨by decide +kernel, rfl⟩
theorem e_L_law_1051 : Dc cL_law 1051 (.invokevirtual 127) 3 1054 := ⟨by decide +kernel, rfl⟩
theorem e_L_law_1054 : Dc cL_law 1054 (.aload_n 2) 1 1055 := ⟨by decide +kernel, rfl⟩
theorem e_L_law_1055 : Dc cL_law 1055 (.aload_n 0) 1 1056 := ⟨by decide +kernel, rfl⟩
theorem e_L_law_1056 : Dc cL_law 1056 (.iload_n 3) 1 1057 := ⟨by decide +kernel, rfl⟩
theorem e_L_law_1057 : Dc cL_law 1057 (.iconst 1) 1 1058 := ⟨by decide +kernel, rfl⟩
theorem e_L_law_1058 : Dc cL_law 1058 (.iadd) 1 1059 := ⟨by decide +kernel, rfl⟩
theorem e_L_law_1059 : Dc cL_law 1059 (.iaload) 1 1060 := ⟨by decide +kernel, rfl⟩
theorem e_L_law_1060 : Dc cL_law 1060 (.invokevirtual 130) 3 1063 := ⟨by decide +kernel, rfl⟩
theorem e_L_law_1063 : Dc cL_law 1063 (.if_icmp .eq 65) 3 1066 := ⟨by decide +kernel, rfl⟩
theorem e_L_law_1066 : Dc cL_law 1066 (.iconst 0) 1 1067 := ⟨by decide +kernel, rfl⟩
theorem e_L_law_1067 : Dc cL_law 1067 (.ireturn) 1 1068 := ⟨by decide +kernel, rfl⟩
theorem e_L_law_1068 : Dc cL_law 1068 (.aload_n 1) 1 1069 := ⟨by decide +kernel, rfl⟩
theorem e_L_law_1069 : Dc cL_law 1069 (.aload_n 0) 1 1070 := ⟨by decide +kernel, rfl⟩
theorem e_L_law_1070 : Dc cL_law 1070 (.iload_n 3) 1 1071 := ⟨by decide +kernel, rfl⟩
theorem e_L_law_1071 : Dc cL_law 1071 (.iconst 1) 1 1072 := ⟨by decide +kernel, rfl⟩
theorem e_L_law_1072 : Dc cL_law 1072 (.iadd) 1 1073 := ⟨by decide +kernel, rfl⟩
theorem e_L_law_1073 : Dc cL_law 1073 (.iaload) 1 1074 := ⟨by decide +kernel, rfl⟩
theorem e_L_law_1074 : Dc cL_law 1074 (.invokevirtual 131) 3 1077 := ⟨by decide +kernel, rfl⟩
theorem e_L_law_1077 : Dc cL_law 1077 (.aload_n 2) 1 1078 := ⟨by decide +kernel, rfl⟩
theorem e_L_law_1078 : Dc cL_law 1078 (.aload_n 0) 1 1079 := ⟨by decide +kernel, rfl⟩
theorem e_L_law_1079 : Dc cL_law 1079 (.iload_n 3) 1 1080 := ⟨by decide +kernel, rfl⟩
theorem e_L_law_1080 : Dc cL_law 1080 (.iconst 1) 1 1081 := ⟨by decide +kernel, rfl⟩
theorem e_L_law_1081 : Dc cL_law 1081 (.iadd) 1 1082 := ⟨by decide +kernel, rfl⟩
theorem e_L_law_1082 : Dc cL_law 1082 (.iaload) 1 1083 := ⟨by decide +kernel, rfl⟩
theorem e_L_law_1083 : Dc cL_law 1083 (.invokevirtual 134) 3 1086 := ⟨by decide +kernel, rfl⟩
theorem e_L_law_1086 : Dc cL_law 1086 (.if_icmp .eq 42) 3 1089 := ⟨by decide +kernel, rfl⟩
theorem e_L_law_1089 : Dc cL_law 1089 (.iconst 0) 1 1090 := ⟨by decide +kernel, rfl⟩
theorem e_L_law_1090 : Dc cL_law 1090 (.ireturn) 1 1091 := ⟨by decide +kernel, rfl⟩
theorem e_L_law_1091 : Dc cL_law 1091 (.aload_n 1) 1 1092 := ⟨by decide +kernel, rfl⟩
theorem e_L_law_1092 : Dc cL_law 1092 (.aload_n 0) 1 1093 := ⟨by decide +kernel, rfl⟩
theorem e_L_law_1093 : Dc cL_law 1093 (.iload_n 3) 1 1094 := ⟨by decide +kernel, rfl⟩
theorem e_L_law_1094 : Dc cL_law 1094 (.iconst 1) 1 1095 := ⟨by decide +kernel, rfl⟩
theorem e_L_law_1095 : Dc cL_law 1095 (.iadd) 1 1096 := ⟨by decide +kernel, rfl⟩
theorem e_L_law_1096 : Dc cL_law 1096 (.iaload) 1 1097 := ⟨by decide +kernel, rfl⟩
theorem e_L_law_1097 : Dc cL_law 1097 (.invokevirtual 135) 3 1100 := ⟨by decide +kernel, rfl⟩
theorem e_L_law_1100 : Dc cL_law 1100 (.aload_n 2) 1 1101 := ⟨by decide +kernel, rfl⟩
theorem e_L_law_1101 : Dc cL_law 1101 (.aload_n 0) 1 1102 := ⟨by decide +kernel, rfl⟩
theorem e_L_law_1102 : Dc cL_law 1102 (.iload_n 3) 1 1103 := ⟨by decide +kernel, rfl⟩
theorem e_L_law_1103 : Dc cL_law 1103 (.iconst 1) 1 1104 := ⟨by decide +kernel, rfl⟩
theorem e_L_law_1104 : Dc cL_law 1104 (.iadd) 1 1105 := ⟨by decide +kernel, rfl⟩
theorem e_L_law_1105 : Dc cL_law 1105 (.iaload) 1 1106 := ⟨by decide +kernel, rfl⟩
theorem e_L_law_1106 : Dc cL_law 1106 (.invokevirtual 138) 3 1109 := ⟨by decide +kernel, rfl⟩
theorem e_L_law_1109 : Dc cL_law 1109 (.if_icmp .eq 19) 3 1112 := ⟨by decide +kernel, rfl⟩
theorem e_L_law_1112 : Dc cL_law 1112 (.iconst 0) 1 1113 := ⟨by decide +kernel, rfl⟩
theorem e_L_law_1113 : Dc cL_law 1113 (.ireturn) 1 1114 := ⟨by decide +kernel, rfl⟩
theorem e_L_law_1114 : Dc cL_law 1114 (.aload_n 1) 1 1115 := ⟨by decide +kernel, rfl⟩
theorem e_L_law_1115 : Dc cL_law 1115 (.invokevirtual 139) 3 1118 := ⟨by decide +kernel, rfl⟩
theorem e_L_law_1118 : Dc cL_law 1118 (.aload_n 2) 1 1119 := ⟨by decide +kernel, rfl⟩
theorem e_L_law_1119 : Dc cL_law 1119 (.invokevirtual 143) 3 1122 := ⟨by decide +kernel, rfl⟩
theorem e_L_law_1122 : Dc cL_law 1122 (.lcmp) 1 1123 := ⟨by decide +kernel, rfl⟩
theorem e_L_law_1123 : Dc cL_law 1123 (.ifCond .eq 5) 3 1126 := ⟨by decide +kernel, rfl⟩
theorem e_L_law_1126 : Dc cL_law 1126 (.iconst 0) 1 1127 := ⟨by decide +kernel, rfl⟩
theorem e_L_law_1127 : Dc cL_law 1127 (.ireturn) 1 1128 := ⟨by decide +kernel, rfl⟩
theorem e_L_law_1128 : Dc cL_law 1128 (.iinc 3 7) 3 1131 := ⟨by decide +kernel, rfl⟩
theorem e_L_law_1131 : Dc cL_law 1131 (.goto (-1113)) 3 1134 := ⟨by decide +kernel, rfl⟩
theorem e_L_law_1134 : Dc cL_law 1134 (.iconst 1) 1 1135 := ⟨by decide +kernel, rfl⟩
theorem e_L_law_1135 : Dc cL_law 1135 (.ireturn) 1 1136 := ⟨by decide +kernel, rfl⟩
set_option maxHeartbeats 8000000 in
set_option maxRecDepth 20000 in
theorem law_walk {X : CX} {b Ln : Nat} {sc : Nat → Int32} {rt : Option FieldType} (hD : DD E) (C : CxOK l E X cL_law 4 RL rt 10) (K : KX E X b Ln sc) (hend : ∀ (s : Sg) (lv : List (Nat × Value)), MF l E X (QW X) (some (1 : Int32)) s 1135 lv [.int 1]) (i0 : Int32) (s : Sg) : MF l E X (QW X) (lp2_ (b_L_law_18 Ln sc) fu i0 s) s 18 [(0, .ref b), (1, .ref (ead E 0)), (2, .ref (ead E 70)), (3, .int i0)] [] := by
  refine MF.loop2 (fun i1 s2 => s2) (fun i1 s2 => [(0, .ref b), (1, .ref (ead E 0)), (2, .ref (ead E 70)), (3, .int i1)]) (fun self3 hself3 i1 s2 => ?_) fu i0 s
  unfold b_L_law_18
  refine MF.iload_n C e_L_law_18 3 rfl rfl ?_
  refine MF.aload_n C e_L_law_19 0 rfl rfl ?_
  refine MF.xlen C K e_L_law_20 ?_
  refine MF.bipush (v := (nI 7)) C e_L_law_21 (by decide) ?_
  refine MF.isub C e_L_law_23 ?_
  refine MF.icmp_gt (tgt := 1134) C e_L_law_24 (by decide) (fun _ => ?_) (fun _ => ?_)
  · refine MF.iconst (v := (nI 1)) C e_L_law_1134 rfl ?_
    exact hend _ _
  · refine MF.aload_n C e_L_law_27 0 rfl rfl ?_
    refine MF.iload_n C e_L_law_28 3 rfl rfl ?_
    refine MF.xald C K e_L_law_29 (fun v4 => ?_)
    refine MF.bipush (v := (nI 31)) C e_L_law_30 (by decide) ?_
    refine MF.iand C e_L_law_32 ?_
    refine MF.join (fun j : Sg → Option Int32 => ∀ (s5 : Sg), MF l E X (QW X) (j s5) s5 1128 [(0, .ref b), (1, .ref (ead E 0)), (2, .ref (ead E 70)), (3, .int i1)] []) ?_ (fun j6 hj6 => ?_)
    · intro s5
      refine MF.iinc (v := (nI 7)) (lv' := [(0, .ref b), (1, .ref (ead E 0)), (2, .ref (ead E 70)), (3, .int (i1 + (nI 7)))]) C e_L_law_1128 3 rfl rfl (by decide) rfl ?_
      refine MF.goto (tgt := 18) C e_L_law_1131 (by decide) ?_
      exact hself3 (i1 + (nI 7)) s5
    refine MF.split (fun h0 => ?_) (fun h0 => ?_)
    · refine MF.tabIn (tgt := 172) C e_L_law_33 h0 (by decide) (by decide) rfl (by decide) ?_
      refine MF.aload_n C e_L_law_172 1 rfl rfl ?_
      refine MF.aload_n C e_L_law_173 0 rfl rfl ?_
      refine MF.iload_n C e_L_law_174 3 rfl rfl ?_
      refine MF.iconst (v := (nI 1)) C e_L_law_175 rfl ?_
      refine MF.iadd C e_L_law_176 ?_
      refine MF.xald C K e_L_law_177 (fun v7 => ?_)
      refine MF.callVI (As := [.int v7]) C (R_X7_town hD v7 s2) m_X7_town k_L_13 kO_0 rfl (by decide) e_L_law_178 rfl rfl (Nat.le_of_ble_eq_true rfl) (fun v8 s9 => ?_)
      refine MF.aload_n C e_L_law_181 2 rfl rfl ?_
      refine MF.aload_n C e_L_law_182 0 rfl rfl ?_
      refine MF.iload_n C e_L_law_183 3 rfl rfl ?_
      refine MF.iconst (v := (nI 1)) C e_L_law_184 rfl ?_
      refine MF.iadd C e_L_law_185 ?_
      refine MF.xald C K e_L_law_186 (fun v10 => ?_)
      refine MF.callVI (As := [.int v10]) C (R_X8_town hD v10 s9) m_X8_town k_L_17 kO_70 rfl (by decide) e_L_law_187 rfl rfl (Nat.le_of_ble_eq_true rfl) (fun v11 s12 => ?_)
      refine MF.icmp_eq (tgt := 1128) C e_L_law_190 (by decide) (fun _ => ?_) (fun _ => ?_)
      · exact hj6 s12
      · refine MF.iconst (v := (nI 0)) C e_L_law_193 rfl ?_
        exact MF.lend0
    · refine MF.split (fun h1 => ?_) (fun h1 => ?_)
      · refine MF.tabIn (tgt := 195) C e_L_law_33 h1 (by decide) (by decide) rfl (by decide) ?_
        refine MF.aload_n C e_L_law_195 1 rfl rfl ?_
        refine MF.aload_n C e_L_law_196 0 rfl rfl ?_
        refine MF.iload_n C e_L_law_197 3 rfl rfl ?_
        refine MF.iconst (v := (nI 1)) C e_L_law_198 rfl ?_
        refine MF.iadd C e_L_law_199 ?_
        refine MF.xald C K e_L_law_200 (fun v13 => ?_)
        refine MF.aload_n C e_L_law_201 0 rfl rfl ?_
        refine MF.iload_n C e_L_law_202 3 rfl rfl ?_
        refine MF.iconst (v := (nI 2)) C e_L_law_203 rfl ?_
        refine MF.iadd C e_L_law_204 ?_
        refine MF.xald C K e_L_law_205 (fun v14 => ?_)
        refine MF.aload_n C e_L_law_206 0 rfl rfl ?_
        refine MF.iload_n C e_L_law_207 3 rfl rfl ?_
        refine MF.iconst (v := (nI 3)) C e_L_law_208 rfl ?_
        refine MF.iadd C e_L_law_209 ?_
        refine MF.xald C K e_L_law_210 (fun v15 => ?_)
        refine MF.aload_n C e_L_law_211 0 rfl rfl ?_
        refine MF.iload_n C e_L_law_212 3 rfl rfl ?_
        refine MF.iconst (v := (nI 4)) C e_L_law_213 rfl ?_
        refine MF.iadd C e_L_law_214 ?_
        refine MF.xald C K e_L_law_215 (fun v16 => ?_)
        refine MF.callVI (As := [.int v13, .int v14, .int v15, .int v16]) C (R_X7_street hD v13 v14 v15 v16 s2) m_X7_street k_L_18 kO_0 rfl (by decide) e_L_law_216 rfl rfl (Nat.le_of_ble_eq_true rfl) (fun v17 s18 => ?_)
        refine MF.aload_n C e_L_law_219 2 rfl rfl ?_
        refine MF.aload_n C e_L_law_220 0 rfl rfl ?_
        refine MF.iload_n C e_L_law_221 3 rfl rfl ?_
        refine MF.iconst (v := (nI 1)) C e_L_law_222 rfl ?_
        refine MF.iadd C e_L_law_223 ?_
        refine MF.xald C K e_L_law_224 (fun v19 => ?_)
        refine MF.aload_n C e_L_law_225 0 rfl rfl ?_
        refine MF.iload_n C e_L_law_226 3 rfl rfl ?_
        refine MF.iconst (v := (nI 2)) C e_L_law_227 rfl ?_
        refine MF.iadd C e_L_law_228 ?_
        refine MF.xald C K e_L_law_229 (fun v20 => ?_)
        refine MF.aload_n C e_L_law_230 0 rfl rfl ?_
        refine MF.iload_n C e_L_law_231 3 rfl rfl ?_
        refine MF.iconst (v := (nI 3)) C e_L_law_232 rfl ?_
        refine MF.iadd C e_L_law_233 ?_
        refine MF.xald C K e_L_law_234 (fun v21 => ?_)
        refine MF.aload_n C e_L_law_235 0 rfl rfl ?_
        refine MF.iload_n C e_L_law_236 3 rfl rfl ?_
        refine MF.iconst (v := (nI 4)) C e_L_law_237 rfl ?_
        refine MF.iadd C e_L_law_238 ?_
        refine MF.xald C K e_L_law_239 (fun v22 => ?_)
        refine MF.callVI (As := [.int v19, .int v20, .int v21, .int v22]) C (R_X8_street hD v19 v20 v21 v22 s18) m_X8_street k_L_22 kO_70 rfl (by decide) e_L_law_240 rfl rfl (Nat.le_of_ble_eq_true rfl) (fun v23 s24 => ?_)
        refine MF.icmp_eq (tgt := 1128) C e_L_law_243 (by decide) (fun _ => ?_) (fun _ => ?_)
        · exact hj6 s24
        · refine MF.iconst (v := (nI 0)) C e_L_law_246 rfl ?_
          exact MF.lend0
      · refine MF.split (fun h2 => ?_) (fun h2 => ?_)
        · refine MF.tabIn (tgt := 248) C e_L_law_33 h2 (by decide) (by decide) rfl (by decide) ?_
          refine MF.aload_n C e_L_law_248 1 rfl rfl ?_
          refine MF.aload_n C e_L_law_249 0 rfl rfl ?_
          refine MF.iload_n C e_L_law_250 3 rfl rfl ?_
          refine MF.iconst (v := (nI 1)) C e_L_law_251 rfl ?_
          refine MF.iadd C e_L_law_252 ?_
          refine MF.xald C K e_L_law_253 (fun v25 => ?_)
          refine MF.aload_n C e_L_law_254 0 rfl rfl ?_
          refine MF.iload_n C e_L_law_255 3 rfl rfl ?_
          refine MF.iconst (v := (nI 2)) C e_L_law_256 rfl ?_
          refine MF.iadd C e_L_law_257 ?_
          refine MF.xald C K e_L_law_258 (fun v26 => ?_)
          refine MF.aload_n C e_L_law_259 0 rfl rfl ?_
          refine MF.iload_n C e_L_law_260 3 rfl rfl ?_
          refine MF.iconst (v := (nI 3)) C e_L_law_261 rfl ?_
          refine MF.iadd C e_L_law_262 ?_
          refine MF.xald C K e_L_law_263 (fun v27 => ?_)
          refine MF.aload_n C e_L_law_264 0 rfl rfl ?_
          refine MF.iload_n C e_L_law_265 3 rfl rfl ?_
          refine MF.iconst (v := (nI 4)) C e_L_law_266 rfl ?_
          refine MF.iadd C e_L_law_267 ?_
          refine MF.xald C K e_L_law_268 (fun v28 => ?_)
          refine MF.aload_n C e_L_law_269 0 rfl rfl ?_
          refine MF.iload_n C e_L_law_270 3 rfl rfl ?_
          refine MF.iconst (v := (nI 5)) C e_L_law_271 rfl ?_
          refine MF.iadd C e_L_law_272 ?_
          refine MF.xald C K e_L_law_273 (fun v29 => ?_)
          refine MF.aload_n C e_L_law_274 0 rfl rfl ?_
          refine MF.iload_n C e_L_law_275 3 rfl rfl ?_
          refine MF.bipush (v := (nI 6)) C e_L_law_276 (by decide) ?_
          refine MF.iadd C e_L_law_278 ?_
          refine MF.xald C K e_L_law_279 (fun v30 => ?_)
          refine MF.callVI (As := [.int v25, .int v26, .int v27, .int v28, .int v29, .int v30]) C (R_X7_event hD v25 v26 v27 v28 v29 v30 s2) m_X7_event k_L_23 kO_0 rfl (by decide) e_L_law_280 rfl rfl (Nat.le_of_ble_eq_true rfl) (fun v31 s32 => ?_)
          refine MF.aload_n C e_L_law_283 2 rfl rfl ?_
          refine MF.aload_n C e_L_law_284 0 rfl rfl ?_
          refine MF.iload_n C e_L_law_285 3 rfl rfl ?_
          refine MF.iconst (v := (nI 1)) C e_L_law_286 rfl ?_
          refine MF.iadd C e_L_law_287 ?_
          refine MF.xald C K e_L_law_288 (fun v33 => ?_)
          refine MF.aload_n C e_L_law_289 0 rfl rfl ?_
          refine MF.iload_n C e_L_law_290 3 rfl rfl ?_
          refine MF.iconst (v := (nI 2)) C e_L_law_291 rfl ?_
          refine MF.iadd C e_L_law_292 ?_
          refine MF.xald C K e_L_law_293 (fun v34 => ?_)
          refine MF.aload_n C e_L_law_294 0 rfl rfl ?_
          refine MF.iload_n C e_L_law_295 3 rfl rfl ?_
          refine MF.iconst (v := (nI 3)) C e_L_law_296 rfl ?_
          refine MF.iadd C e_L_law_297 ?_
          refine MF.xald C K e_L_law_298 (fun v35 => ?_)
          refine MF.aload_n C e_L_law_299 0 rfl rfl ?_
          refine MF.iload_n C e_L_law_300 3 rfl rfl ?_
          refine MF.iconst (v := (nI 4)) C e_L_law_301 rfl ?_
          refine MF.iadd C e_L_law_302 ?_
          refine MF.xald C K e_L_law_303 (fun v36 => ?_)
          refine MF.aload_n C e_L_law_304 0 rfl rfl ?_
          refine MF.iload_n C e_L_law_305 3 rfl rfl ?_
          refine MF.iconst (v := (nI 5)) C e_L_law_306 rfl ?_
          refine MF.iadd C e_L_law_307 ?_
          refine MF.xald C K e_L_law_308 (fun v37 => ?_)
          refine MF.aload_n C e_L_law_309 0 rfl rfl ?_
          refine MF.iload_n C e_L_law_310 3 rfl rfl ?_
          refine MF.bipush (v := (nI 6)) C e_L_law_311 (by decide) ?_
          refine MF.iadd C e_L_law_313 ?_
          refine MF.xald C K e_L_law_314 (fun v38 => ?_)
          refine MF.callVI (As := [.int v33, .int v34, .int v35, .int v36, .int v37, .int v38]) C (R_X8_event hD v33 v34 v35 v36 v37 v38 s32) m_X8_event k_L_27 kO_70 rfl (by decide) e_L_law_315 rfl rfl (Nat.le_of_ble_eq_true rfl) (fun v39 s40 => ?_)
          refine MF.icmp_eq (tgt := 1128) C e_L_law_318 (by decide) (fun _ => ?_) (fun _ => ?_)
          · exact hj6 s40
          · refine MF.iconst (v := (nI 0)) C e_L_law_321 rfl ?_
            exact MF.lend0
        · refine MF.split (fun h3 => ?_) (fun h3 => ?_)
          · refine MF.tabIn (tgt := 323) C e_L_law_33 h3 (by decide) (by decide) rfl (by decide) ?_
            refine MF.aload_n C e_L_law_323 1 rfl rfl ?_
            refine MF.aload_n C e_L_law_324 0 rfl rfl ?_
            refine MF.iload_n C e_L_law_325 3 rfl rfl ?_
            refine MF.iconst (v := (nI 1)) C e_L_law_326 rfl ?_
            refine MF.iadd C e_L_law_327 ?_
            refine MF.xald C K e_L_law_328 (fun v41 => ?_)
            refine MF.callVI (As := [.int v41]) C (R_X7_back hD v41 s2) m_X7_back k_L_28 kO_0 rfl (by decide) e_L_law_329 rfl rfl (Nat.le_of_ble_eq_true rfl) (fun v42 s43 => ?_)
            refine MF.aload_n C e_L_law_332 2 rfl rfl ?_
            refine MF.aload_n C e_L_law_333 0 rfl rfl ?_
            refine MF.iload_n C e_L_law_334 3 rfl rfl ?_
            refine MF.iconst (v := (nI 1)) C e_L_law_335 rfl ?_
            refine MF.iadd C e_L_law_336 ?_
            refine MF.xald C K e_L_law_337 (fun v44 => ?_)
            refine MF.callVI (As := [.int v44]) C (R_X8_back hD v44 s43) m_X8_back k_L_31 kO_70 rfl (by decide) e_L_law_338 rfl rfl (Nat.le_of_ble_eq_true rfl) (fun v45 s46 => ?_)
            refine MF.icmp_eq (tgt := 1128) C e_L_law_341 (by decide) (fun _ => ?_) (fun _ => ?_)
            · exact hj6 s46
            · refine MF.iconst (v := (nI 0)) C e_L_law_344 rfl ?_
              exact MF.lend0
          · refine MF.split (fun h4 => ?_) (fun h4 => ?_)
            · refine MF.tabIn (tgt := 346) C e_L_law_33 h4 (by decide) (by decide) rfl (by decide) ?_
              refine MF.aload_n C e_L_law_346 1 rfl rfl ?_
              refine MF.aload_n C e_L_law_347 0 rfl rfl ?_
              refine MF.iload_n C e_L_law_348 3 rfl rfl ?_
              refine MF.iconst (v := (nI 1)) C e_L_law_349 rfl ?_
              refine MF.iadd C e_L_law_350 ?_
              refine MF.xald C K e_L_law_351 (fun v47 => ?_)
              refine MF.callVI (As := [.int v47]) C (R_X7_law hD v47 s2) m_X7_law k_L_32 kO_0 rfl (by decide) e_L_law_352 rfl rfl (Nat.le_of_ble_eq_true rfl) (fun v48 s49 => ?_)
              refine MF.aload_n C e_L_law_355 2 rfl rfl ?_
              refine MF.aload_n C e_L_law_356 0 rfl rfl ?_
              refine MF.iload_n C e_L_law_357 3 rfl rfl ?_
              refine MF.iconst (v := (nI 1)) C e_L_law_358 rfl ?_
              refine MF.iadd C e_L_law_359 ?_
              refine MF.xald C K e_L_law_360 (fun v50 => ?_)
              refine MF.callVI (As := [.int v50]) C (R_X8_law hD v50 s49) m_X8_law k_L_35 kO_70 rfl (by decide) e_L_law_361 rfl rfl (Nat.le_of_ble_eq_true rfl) (fun v51 s52 => ?_)
              refine MF.icmp_eq (tgt := 1128) C e_L_law_364 (by decide) (fun _ => ?_) (fun _ => ?_)
              · exact hj6 s52
              · refine MF.iconst (v := (nI 0)) C e_L_law_367 rfl ?_
                exact MF.lend0
            · refine MF.split (fun h5 => ?_) (fun h5 => ?_)
              · refine MF.tabIn (tgt := 369) C e_L_law_33 h5 (by decide) (by decide) rfl (by decide) ?_
                refine MF.aload_n C e_L_law_369 1 rfl rfl ?_
                refine MF.callVI (As := []) C (R_X7_undo hD s2) m_X7_undo k_L_36 kO_0 rfl (by decide) e_L_law_370 rfl rfl (Nat.le_of_ble_eq_true rfl) (fun v53 s54 => ?_)
                refine MF.aload_n C e_L_law_373 2 rfl rfl ?_
                refine MF.callVI (As := []) C (R_X8_undo hD s54) m_X8_undo k_L_40 kO_70 rfl (by decide) e_L_law_374 rfl rfl (Nat.le_of_ble_eq_true rfl) (fun v55 s56 => ?_)
                refine MF.icmp_eq (tgt := 1128) C e_L_law_377 (by decide) (fun _ => ?_) (fun _ => ?_)
                · exact hj6 s56
                · refine MF.iconst (v := (nI 0)) C e_L_law_380 rfl ?_
                  exact MF.lend0
              · refine MF.split (fun h6 => ?_) (fun h6 => ?_)
                · refine MF.tabIn (tgt := 382) C e_L_law_33 h6 (by decide) (by decide) rfl (by decide) ?_
                  refine MF.aload_n C e_L_law_382 1 rfl rfl ?_
                  refine MF.aload_n C e_L_law_383 0 rfl rfl ?_
                  refine MF.iload_n C e_L_law_384 3 rfl rfl ?_
                  refine MF.iconst (v := (nI 1)) C e_L_law_385 rfl ?_
                  refine MF.iadd C e_L_law_386 ?_
                  refine MF.xald C K e_L_law_387 (fun v57 => ?_)
                  refine MF.aload_n C e_L_law_388 0 rfl rfl ?_
                  refine MF.iload_n C e_L_law_389 3 rfl rfl ?_
                  refine MF.iconst (v := (nI 2)) C e_L_law_390 rfl ?_
                  refine MF.iadd C e_L_law_391 ?_
                  refine MF.xald C K e_L_law_392 (fun v58 => ?_)
                  refine MF.callVI (As := [.int v57, .int v58]) C (R_X7_rent hD v57 v58 s2) m_X7_rent k_L_41 kO_0 rfl (by decide) e_L_law_393 rfl rfl (Nat.le_of_ble_eq_true rfl) (fun v59 s60 => ?_)
                  refine MF.aload_n C e_L_law_396 2 rfl rfl ?_
                  refine MF.aload_n C e_L_law_397 0 rfl rfl ?_
                  refine MF.iload_n C e_L_law_398 3 rfl rfl ?_
                  refine MF.iconst (v := (nI 1)) C e_L_law_399 rfl ?_
                  refine MF.iadd C e_L_law_400 ?_
                  refine MF.xald C K e_L_law_401 (fun v61 => ?_)
                  refine MF.aload_n C e_L_law_402 0 rfl rfl ?_
                  refine MF.iload_n C e_L_law_403 3 rfl rfl ?_
                  refine MF.iconst (v := (nI 2)) C e_L_law_404 rfl ?_
                  refine MF.iadd C e_L_law_405 ?_
                  refine MF.xald C K e_L_law_406 (fun v62 => ?_)
                  refine MF.callVI (As := [.int v61, .int v62]) C (R_X8_rent hD v61 v62 s60) m_X8_rent k_L_45 kO_70 rfl (by decide) e_L_law_407 rfl rfl (Nat.le_of_ble_eq_true rfl) (fun v63 s64 => ?_)
                  refine MF.icmp_eq (tgt := 1128) C e_L_law_410 (by decide) (fun _ => ?_) (fun _ => ?_)
                  · exact hj6 s64
                  · refine MF.iconst (v := (nI 0)) C e_L_law_413 rfl ?_
                    exact MF.lend0
                · refine MF.split (fun h7 => ?_) (fun h7 => ?_)
                  · refine MF.tabIn (tgt := 415) C e_L_law_33 h7 (by decide) (by decide) rfl (by decide) ?_
                    refine MF.aload_n C e_L_law_415 1 rfl rfl ?_
                    refine MF.aload_n C e_L_law_416 0 rfl rfl ?_
                    refine MF.iload_n C e_L_law_417 3 rfl rfl ?_
                    refine MF.iconst (v := (nI 1)) C e_L_law_418 rfl ?_
                    refine MF.iadd C e_L_law_419 ?_
                    refine MF.xald C K e_L_law_420 (fun v65 => ?_)
                    refine MF.callVI (As := [.int v65]) C (R_X7_type hD v65 s2) m_X7_type k_L_46 kO_0 rfl (by decide) e_L_law_421 rfl rfl (Nat.le_of_ble_eq_true rfl) (fun v66 s67 => ?_)
                    refine MF.aload_n C e_L_law_424 2 rfl rfl ?_
                    refine MF.aload_n C e_L_law_425 0 rfl rfl ?_
                    refine MF.iload_n C e_L_law_426 3 rfl rfl ?_
                    refine MF.iconst (v := (nI 1)) C e_L_law_427 rfl ?_
                    refine MF.iadd C e_L_law_428 ?_
                    refine MF.xald C K e_L_law_429 (fun v68 => ?_)
                    refine MF.callVI (As := [.int v68]) C (R_X8_type hD v68 s67) m_X8_type k_L_49 kO_70 rfl (by decide) e_L_law_430 rfl rfl (Nat.le_of_ble_eq_true rfl) (fun v69 s70 => ?_)
                    refine MF.icmp_eq (tgt := 1128) C e_L_law_433 (by decide) (fun _ => ?_) (fun _ => ?_)
                    · exact hj6 s70
                    · refine MF.iconst (v := (nI 0)) C e_L_law_436 rfl ?_
                      exact MF.lend0
                  · refine MF.split (fun h8 => ?_) (fun h8 => ?_)
                    · refine MF.tabIn (tgt := 438) C e_L_law_33 h8 (by decide) (by decide) rfl (by decide) ?_
                      refine MF.aload_n C e_L_law_438 1 rfl rfl ?_
                      refine MF.callVI (As := []) C (R_X7_clear hD s2) m_X7_clear k_L_50 kO_0 rfl (by decide) e_L_law_439 rfl rfl (Nat.le_of_ble_eq_true rfl) (fun v71 s72 => ?_)
                      refine MF.aload_n C e_L_law_442 2 rfl rfl ?_
                      refine MF.callVI (As := []) C (R_X8_clear hD s72) m_X8_clear k_L_53 kO_70 rfl (by decide) e_L_law_443 rfl rfl (Nat.le_of_ble_eq_true rfl) (fun v73 s74 => ?_)
                      refine MF.icmp_eq (tgt := 1128) C e_L_law_446 (by decide) (fun _ => ?_) (fun _ => ?_)
                      · exact hj6 s74
                      · refine MF.iconst (v := (nI 0)) C e_L_law_449 rfl ?_
                        exact MF.lend0
                    · refine MF.split (fun h9 => ?_) (fun h9 => ?_)
                      · refine MF.tabIn (tgt := 451) C e_L_law_33 h9 (by decide) (by decide) rfl (by decide) ?_
                        refine MF.aload_n C e_L_law_451 1 rfl rfl ?_
                        refine MF.callVI (As := []) C (R_X7_read hD s2) m_X7_read k_L_54 kO_0 rfl (by decide) e_L_law_452 rfl rfl (Nat.le_of_ble_eq_true rfl) (fun v75 s76 => ?_)
                        refine MF.aload_n C e_L_law_455 2 rfl rfl ?_
                        refine MF.callVI (As := []) C (R_X8_read hD s76) m_X8_read k_L_57 kO_70 rfl (by decide) e_L_law_456 rfl rfl (Nat.le_of_ble_eq_true rfl) (fun v77 s78 => ?_)
                        refine MF.icmp_eq (tgt := 1128) C e_L_law_459 (by decide) (fun _ => ?_) (fun _ => ?_)
                        · exact hj6 s78
                        · refine MF.iconst (v := (nI 0)) C e_L_law_462 rfl ?_
                          exact MF.lend0
                      · refine MF.split (fun h10 => ?_) (fun h10 => ?_)
                        · refine MF.tabIn (tgt := 464) C e_L_law_33 h10 (by decide) (by decide) rfl (by decide) ?_
                          refine MF.aload_n C e_L_law_464 1 rfl rfl ?_
                          refine MF.aload_n C e_L_law_465 0 rfl rfl ?_
                          refine MF.iload_n C e_L_law_466 3 rfl rfl ?_
                          refine MF.iconst (v := (nI 1)) C e_L_law_467 rfl ?_
                          refine MF.iadd C e_L_law_468 ?_
                          refine MF.xald C K e_L_law_469 (fun v79 => ?_)
                          refine MF.aload_n C e_L_law_470 0 rfl rfl ?_
                          refine MF.iload_n C e_L_law_471 3 rfl rfl ?_
                          refine MF.iconst (v := (nI 2)) C e_L_law_472 rfl ?_
                          refine MF.iadd C e_L_law_473 ?_
                          refine MF.xald C K e_L_law_474 (fun v80 => ?_)
                          refine MF.callVI (As := [.int v79, .int v80]) C (R_X7_of hD v79 v80 s2) m_X7_of k_L_58 kO_0 rfl (by decide) e_L_law_475 rfl rfl (Nat.le_of_ble_eq_true rfl) (fun v81 s82 => ?_)
                          refine MF.aload_n C e_L_law_478 2 rfl rfl ?_
                          refine MF.aload_n C e_L_law_479 0 rfl rfl ?_
                          refine MF.iload_n C e_L_law_480 3 rfl rfl ?_
                          refine MF.iconst (v := (nI 1)) C e_L_law_481 rfl ?_
                          refine MF.iadd C e_L_law_482 ?_
                          refine MF.xald C K e_L_law_483 (fun v83 => ?_)
                          refine MF.aload_n C e_L_law_484 0 rfl rfl ?_
                          refine MF.iload_n C e_L_law_485 3 rfl rfl ?_
                          refine MF.iconst (v := (nI 2)) C e_L_law_486 rfl ?_
                          refine MF.iadd C e_L_law_487 ?_
                          refine MF.xald C K e_L_law_488 (fun v84 => ?_)
                          refine MF.callVI (As := [.int v83, .int v84]) C (R_X8_of hD v83 v84 s82) m_X8_of k_L_61 kO_70 rfl (by decide) e_L_law_489 rfl rfl (Nat.le_of_ble_eq_true rfl) (fun v85 s86 => ?_)
                          refine MF.icmp_eq (tgt := 1128) C e_L_law_492 (by decide) (fun _ => ?_) (fun _ => ?_)
                          · exact hj6 s86
                          · refine MF.iconst (v := (nI 0)) C e_L_law_495 rfl ?_
                            exact MF.lend0
                        · refine MF.split (fun h11 => ?_) (fun h11 => ?_)
                          · refine MF.tabIn (tgt := 497) C e_L_law_33 h11 (by decide) (by decide) rfl (by decide) ?_
                            refine MF.aload_n C e_L_law_497 1 rfl rfl ?_
                            refine MF.aload_n C e_L_law_498 0 rfl rfl ?_
                            refine MF.iload_n C e_L_law_499 3 rfl rfl ?_
                            refine MF.iconst (v := (nI 1)) C e_L_law_500 rfl ?_
                            refine MF.iadd C e_L_law_501 ?_
                            refine MF.xald C K e_L_law_502 (fun v87 => ?_)
                            refine MF.aload_n C e_L_law_503 0 rfl rfl ?_
                            refine MF.iload_n C e_L_law_504 3 rfl rfl ?_
                            refine MF.iconst (v := (nI 2)) C e_L_law_505 rfl ?_
                            refine MF.iadd C e_L_law_506 ?_
                            refine MF.xald C K e_L_law_507 (fun v88 => ?_)
                            refine MF.callVI (As := [.int v87, .int v88]) C (R_X7_name hD v87 v88 s2) m_X7_name k_L_62 kO_0 rfl (by decide) e_L_law_508 rfl rfl (Nat.le_of_ble_eq_true rfl) (fun v89 s90 => ?_)
                            refine MF.aload_n C e_L_law_511 2 rfl rfl ?_
                            refine MF.aload_n C e_L_law_512 0 rfl rfl ?_
                            refine MF.iload_n C e_L_law_513 3 rfl rfl ?_
                            refine MF.iconst (v := (nI 1)) C e_L_law_514 rfl ?_
                            refine MF.iadd C e_L_law_515 ?_
                            refine MF.xald C K e_L_law_516 (fun v91 => ?_)
                            refine MF.aload_n C e_L_law_517 0 rfl rfl ?_
                            refine MF.iload_n C e_L_law_518 3 rfl rfl ?_
                            refine MF.iconst (v := (nI 2)) C e_L_law_519 rfl ?_
                            refine MF.iadd C e_L_law_520 ?_
                            refine MF.xald C K e_L_law_521 (fun v92 => ?_)
                            refine MF.callVI (As := [.int v91, .int v92]) C (R_X8_name hD v91 v92 s90) m_X8_name k_L_65 kO_70 rfl (by decide) e_L_law_522 rfl rfl (Nat.le_of_ble_eq_true rfl) (fun v93 s94 => ?_)
                            refine MF.icmp_eq (tgt := 1128) C e_L_law_525 (by decide) (fun _ => ?_) (fun _ => ?_)
                            · exact hj6 s94
                            · refine MF.iconst (v := (nI 0)) C e_L_law_528 rfl ?_
                              exact MF.lend0
                          · refine MF.split (fun h12 => ?_) (fun h12 => ?_)
                            · refine MF.tabIn (tgt := 530) C e_L_law_33 h12 (by decide) (by decide) rfl (by decide) ?_
                              refine MF.aload_n C e_L_law_530 1 rfl rfl ?_
                              refine MF.aload_n C e_L_law_531 0 rfl rfl ?_
                              refine MF.iload_n C e_L_law_532 3 rfl rfl ?_
                              refine MF.iconst (v := (nI 1)) C e_L_law_533 rfl ?_
                              refine MF.iadd C e_L_law_534 ?_
                              refine MF.xald C K e_L_law_535 (fun v95 => ?_)
                              refine MF.callVI (As := [.int v95]) C (R_X7_changes hD v95 s2) m_X7_changes k_L_66 kO_0 rfl (by decide) e_L_law_536 rfl rfl (Nat.le_of_ble_eq_true rfl) (fun v96 s97 => ?_)
                              refine MF.aload_n C e_L_law_539 2 rfl rfl ?_
                              refine MF.aload_n C e_L_law_540 0 rfl rfl ?_
                              refine MF.iload_n C e_L_law_541 3 rfl rfl ?_
                              refine MF.iconst (v := (nI 1)) C e_L_law_542 rfl ?_
                              refine MF.iadd C e_L_law_543 ?_
                              refine MF.xald C K e_L_law_544 (fun v98 => ?_)
                              refine MF.callVI (As := [.int v98]) C (R_X8_changes hD v98 s97) m_X8_changes k_L_69 kO_70 rfl (by decide) e_L_law_545 rfl rfl (Nat.le_of_ble_eq_true rfl) (fun v99 s100 => ?_)
                              refine MF.icmp_eq (tgt := 1128) C e_L_law_548 (by decide) (fun _ => ?_) (fun _ => ?_)
                              · exact hj6 s100
                              · refine MF.iconst (v := (nI 0)) C e_L_law_551 rfl ?_
                                exact MF.lend0
                            · refine MF.split (fun h13 => ?_) (fun h13 => ?_)
                              · refine MF.tabIn (tgt := 553) C e_L_law_33 h13 (by decide) (by decide) rfl (by decide) ?_
                                refine MF.aload_n C e_L_law_553 1 rfl rfl ?_
                                refine MF.aload_n C e_L_law_554 0 rfl rfl ?_
                                refine MF.iload_n C e_L_law_555 3 rfl rfl ?_
                                refine MF.iconst (v := (nI 1)) C e_L_law_556 rfl ?_
                                refine MF.iadd C e_L_law_557 ?_
                                refine MF.xald C K e_L_law_558 (fun v101 => ?_)
                                refine MF.aload_n C e_L_law_559 0 rfl rfl ?_
                                refine MF.iload_n C e_L_law_560 3 rfl rfl ?_
                                refine MF.iconst (v := (nI 2)) C e_L_law_561 rfl ?_
                                refine MF.iadd C e_L_law_562 ?_
                                refine MF.xald C K e_L_law_563 (fun v102 => ?_)
                                refine MF.aload_n C e_L_law_564 0 rfl rfl ?_
                                refine MF.iload_n C e_L_law_565 3 rfl rfl ?_
                                refine MF.iconst (v := (nI 3)) C e_L_law_566 rfl ?_
                                refine MF.iadd C e_L_law_567 ?_
                                refine MF.xald C K e_L_law_568 (fun v103 => ?_)
                                refine MF.callVI (As := [.int v101, .int v102, .int v103]) C (R_X7_which hD v101 v102 v103 s2) m_X7_which k_L_70 kO_0 rfl (by decide) e_L_law_569 rfl rfl (Nat.le_of_ble_eq_true rfl) (fun v104 s105 => ?_)
                                refine MF.aload_n C e_L_law_572 2 rfl rfl ?_
                                refine MF.aload_n C e_L_law_573 0 rfl rfl ?_
                                refine MF.iload_n C e_L_law_574 3 rfl rfl ?_
                                refine MF.iconst (v := (nI 1)) C e_L_law_575 rfl ?_
                                refine MF.iadd C e_L_law_576 ?_
                                refine MF.xald C K e_L_law_577 (fun v106 => ?_)
                                refine MF.aload_n C e_L_law_578 0 rfl rfl ?_
                                refine MF.iload_n C e_L_law_579 3 rfl rfl ?_
                                refine MF.iconst (v := (nI 2)) C e_L_law_580 rfl ?_
                                refine MF.iadd C e_L_law_581 ?_
                                refine MF.xald C K e_L_law_582 (fun v107 => ?_)
                                refine MF.aload_n C e_L_law_583 0 rfl rfl ?_
                                refine MF.iload_n C e_L_law_584 3 rfl rfl ?_
                                refine MF.iconst (v := (nI 3)) C e_L_law_585 rfl ?_
                                refine MF.iadd C e_L_law_586 ?_
                                refine MF.xald C K e_L_law_587 (fun v108 => ?_)
                                refine MF.callVI (As := [.int v106, .int v107, .int v108]) C (R_X8_which hD v106 v107 v108 s105) m_X8_which k_L_74 kO_70 rfl (by decide) e_L_law_588 rfl rfl (Nat.le_of_ble_eq_true rfl) (fun v109 s110 => ?_)
                                refine MF.icmp_eq (tgt := 1128) C e_L_law_591 (by decide) (fun _ => ?_) (fun _ => ?_)
                                · exact hj6 s110
                                · refine MF.iconst (v := (nI 0)) C e_L_law_594 rfl ?_
                                  exact MF.lend0
                              · refine MF.split (fun h14 => ?_) (fun h14 => ?_)
                                · refine MF.tabIn (tgt := 596) C e_L_law_33 h14 (by decide) (by decide) rfl (by decide) ?_
                                  refine MF.aload_n C e_L_law_596 1 rfl rfl ?_
                                  refine MF.aload_n C e_L_law_597 0 rfl rfl ?_
                                  refine MF.iload_n C e_L_law_598 3 rfl rfl ?_
                                  refine MF.iconst (v := (nI 1)) C e_L_law_599 rfl ?_
                                  refine MF.iadd C e_L_law_600 ?_
                                  refine MF.xald C K e_L_law_601 (fun v111 => ?_)
                                  refine MF.aload_n C e_L_law_602 0 rfl rfl ?_
                                  refine MF.iload_n C e_L_law_603 3 rfl rfl ?_
                                  refine MF.iconst (v := (nI 2)) C e_L_law_604 rfl ?_
                                  refine MF.iadd C e_L_law_605 ?_
                                  refine MF.xald C K e_L_law_606 (fun v112 => ?_)
                                  refine MF.aload_n C e_L_law_607 0 rfl rfl ?_
                                  refine MF.iload_n C e_L_law_608 3 rfl rfl ?_
                                  refine MF.iconst (v := (nI 3)) C e_L_law_609 rfl ?_
                                  refine MF.iadd C e_L_law_610 ?_
                                  refine MF.xald C K e_L_law_611 (fun v113 => ?_)
                                  refine MF.callVI (As := [.int v111, .int v112, .int v113]) C (R_X7_letter hD v111 v112 v113 s2) m_X7_letter k_L_75 kO_0 rfl (by decide) e_L_law_612 rfl rfl (Nat.le_of_ble_eq_true rfl) (fun v114 s115 => ?_)
                                  refine MF.aload_n C e_L_law_615 2 rfl rfl ?_
                                  refine MF.aload_n C e_L_law_616 0 rfl rfl ?_
                                  refine MF.iload_n C e_L_law_617 3 rfl rfl ?_
                                  refine MF.iconst (v := (nI 1)) C e_L_law_618 rfl ?_
                                  refine MF.iadd C e_L_law_619 ?_
                                  refine MF.xald C K e_L_law_620 (fun v116 => ?_)
                                  refine MF.aload_n C e_L_law_621 0 rfl rfl ?_
                                  refine MF.iload_n C e_L_law_622 3 rfl rfl ?_
                                  refine MF.iconst (v := (nI 2)) C e_L_law_623 rfl ?_
                                  refine MF.iadd C e_L_law_624 ?_
                                  refine MF.xald C K e_L_law_625 (fun v117 => ?_)
                                  refine MF.aload_n C e_L_law_626 0 rfl rfl ?_
                                  refine MF.iload_n C e_L_law_627 3 rfl rfl ?_
                                  refine MF.iconst (v := (nI 3)) C e_L_law_628 rfl ?_
                                  refine MF.iadd C e_L_law_629 ?_
                                  refine MF.xald C K e_L_law_630 (fun v118 => ?_)
                                  refine MF.callVI (As := [.int v116, .int v117, .int v118]) C (R_X8_letter hD v116 v117 v118 s115) m_X8_letter k_L_78 kO_70 rfl (by decide) e_L_law_631 rfl rfl (Nat.le_of_ble_eq_true rfl) (fun v119 s120 => ?_)
                                  refine MF.icmp_eq (tgt := 1128) C e_L_law_634 (by decide) (fun _ => ?_) (fun _ => ?_)
                                  · exact hj6 s120
                                  · refine MF.iconst (v := (nI 0)) C e_L_law_637 rfl ?_
                                    exact MF.lend0
                                · refine MF.split (fun h15 => ?_) (fun h15 => ?_)
                                  · refine MF.tabIn (tgt := 639) C e_L_law_33 h15 (by decide) (by decide) rfl (by decide) ?_
                                    refine MF.aload_n C e_L_law_639 1 rfl rfl ?_
                                    refine MF.aload_n C e_L_law_640 0 rfl rfl ?_
                                    refine MF.iload_n C e_L_law_641 3 rfl rfl ?_
                                    refine MF.iconst (v := (nI 1)) C e_L_law_642 rfl ?_
                                    refine MF.iadd C e_L_law_643 ?_
                                    refine MF.xald C K e_L_law_644 (fun v121 => ?_)
                                    refine MF.aload_n C e_L_law_645 0 rfl rfl ?_
                                    refine MF.iload_n C e_L_law_646 3 rfl rfl ?_
                                    refine MF.iconst (v := (nI 2)) C e_L_law_647 rfl ?_
                                    refine MF.iadd C e_L_law_648 ?_
                                    refine MF.xald C K e_L_law_649 (fun v122 => ?_)
                                    refine MF.aload_n C e_L_law_650 0 rfl rfl ?_
                                    refine MF.iload_n C e_L_law_651 3 rfl rfl ?_
                                    refine MF.iconst (v := (nI 3)) C e_L_law_652 rfl ?_
                                    refine MF.iadd C e_L_law_653 ?_
                                    refine MF.xald C K e_L_law_654 (fun v123 => ?_)
                                    refine MF.callVI (As := [.int v121, .int v122, .int v123]) C (R_X7_cab hD v121 v122 v123 s2) m_X7_cab k_L_79 kO_0 rfl (by decide) e_L_law_655 rfl rfl (Nat.le_of_ble_eq_true rfl) (fun v124 s125 => ?_)
                                    refine MF.aload_n C e_L_law_658 2 rfl rfl ?_
                                    refine MF.aload_n C e_L_law_659 0 rfl rfl ?_
                                    refine MF.iload_n C e_L_law_660 3 rfl rfl ?_
                                    refine MF.iconst (v := (nI 1)) C e_L_law_661 rfl ?_
                                    refine MF.iadd C e_L_law_662 ?_
                                    refine MF.xald C K e_L_law_663 (fun v126 => ?_)
                                    refine MF.aload_n C e_L_law_664 0 rfl rfl ?_
                                    refine MF.iload_n C e_L_law_665 3 rfl rfl ?_
                                    refine MF.iconst (v := (nI 2)) C e_L_law_666 rfl ?_
                                    refine MF.iadd C e_L_law_667 ?_
                                    refine MF.xald C K e_L_law_668 (fun v127 => ?_)
                                    refine MF.aload_n C e_L_law_669 0 rfl rfl ?_
                                    refine MF.iload_n C e_L_law_670 3 rfl rfl ?_
                                    refine MF.iconst (v := (nI 3)) C e_L_law_671 rfl ?_
                                    refine MF.iadd C e_L_law_672 ?_
                                    refine MF.xald C K e_L_law_673 (fun v128 => ?_)
                                    refine MF.callVI (As := [.int v126, .int v127, .int v128]) C (R_X8_cab hD v126 v127 v128 s125) m_X8_cab k_L_82 kO_70 rfl (by decide) e_L_law_674 rfl rfl (Nat.le_of_ble_eq_true rfl) (fun v129 s130 => ?_)
                                    refine MF.icmp_eq (tgt := 1128) C e_L_law_677 (by decide) (fun _ => ?_) (fun _ => ?_)
                                    · exact hj6 s130
                                    · refine MF.iconst (v := (nI 0)) C e_L_law_680 rfl ?_
                                      exact MF.lend0
                                  · refine MF.split (fun h16 => ?_) (fun h16 => ?_)
                                    · refine MF.tabIn (tgt := 682) C e_L_law_33 h16 (by decide) (by decide) rfl (by decide) ?_
                                      refine MF.aload_n C e_L_law_682 1 rfl rfl ?_
                                      refine MF.aload_n C e_L_law_683 0 rfl rfl ?_
                                      refine MF.iload_n C e_L_law_684 3 rfl rfl ?_
                                      refine MF.iconst (v := (nI 1)) C e_L_law_685 rfl ?_
                                      refine MF.iadd C e_L_law_686 ?_
                                      refine MF.xald C K e_L_law_687 (fun v131 => ?_)
                                      refine MF.aload_n C e_L_law_688 0 rfl rfl ?_
                                      refine MF.iload_n C e_L_law_689 3 rfl rfl ?_
                                      refine MF.iconst (v := (nI 2)) C e_L_law_690 rfl ?_
                                      refine MF.iadd C e_L_law_691 ?_
                                      refine MF.xald C K e_L_law_692 (fun v132 => ?_)
                                      refine MF.callVI (As := [.int v131, .int v132]) C (R_X7_find hD v131 v132 s2) m_X7_find k_L_83 kO_0 rfl (by decide) e_L_law_693 rfl rfl (Nat.le_of_ble_eq_true rfl) (fun v133 s134 => ?_)
                                      refine MF.aload_n C e_L_law_696 2 rfl rfl ?_
                                      refine MF.aload_n C e_L_law_697 0 rfl rfl ?_
                                      refine MF.iload_n C e_L_law_698 3 rfl rfl ?_
                                      refine MF.iconst (v := (nI 1)) C e_L_law_699 rfl ?_
                                      refine MF.iadd C e_L_law_700 ?_
                                      refine MF.xald C K e_L_law_701 (fun v135 => ?_)
                                      refine MF.aload_n C e_L_law_702 0 rfl rfl ?_
                                      refine MF.iload_n C e_L_law_703 3 rfl rfl ?_
                                      refine MF.iconst (v := (nI 2)) C e_L_law_704 rfl ?_
                                      refine MF.iadd C e_L_law_705 ?_
                                      refine MF.xald C K e_L_law_706 (fun v136 => ?_)
                                      refine MF.callVI (As := [.int v135, .int v136]) C (R_X8_find hD v135 v136 s134) m_X8_find k_L_86 kO_70 rfl (by decide) e_L_law_707 rfl rfl (Nat.le_of_ble_eq_true rfl) (fun v137 s138 => ?_)
                                      refine MF.icmp_eq (tgt := 1128) C e_L_law_710 (by decide) (fun _ => ?_) (fun _ => ?_)
                                      · exact hj6 s138
                                      · refine MF.iconst (v := (nI 0)) C e_L_law_713 rfl ?_
                                        exact MF.lend0
                                    · refine MF.split (fun h17 => ?_) (fun h17 => ?_)
                                      · refine MF.tabIn (tgt := 715) C e_L_law_33 h17 (by decide) (by decide) rfl (by decide) ?_
                                        refine MF.aload_n C e_L_law_715 1 rfl rfl ?_
                                        refine MF.aload_n C e_L_law_716 0 rfl rfl ?_
                                        refine MF.iload_n C e_L_law_717 3 rfl rfl ?_
                                        refine MF.iconst (v := (nI 1)) C e_L_law_718 rfl ?_
                                        refine MF.iadd C e_L_law_719 ?_
                                        refine MF.xald C K e_L_law_720 (fun v139 => ?_)
                                        refine MF.aload_n C e_L_law_721 0 rfl rfl ?_
                                        refine MF.iload_n C e_L_law_722 3 rfl rfl ?_
                                        refine MF.iconst (v := (nI 2)) C e_L_law_723 rfl ?_
                                        refine MF.iadd C e_L_law_724 ?_
                                        refine MF.xald C K e_L_law_725 (fun v140 => ?_)
                                        refine MF.aload_n C e_L_law_726 0 rfl rfl ?_
                                        refine MF.iload_n C e_L_law_727 3 rfl rfl ?_
                                        refine MF.iconst (v := (nI 3)) C e_L_law_728 rfl ?_
                                        refine MF.iadd C e_L_law_729 ?_
                                        refine MF.xald C K e_L_law_730 (fun v141 => ?_)
                                        refine MF.aload_n C e_L_law_731 0 rfl rfl ?_
                                        refine MF.iload_n C e_L_law_732 3 rfl rfl ?_
                                        refine MF.iconst (v := (nI 4)) C e_L_law_733 rfl ?_
                                        refine MF.iadd C e_L_law_734 ?_
                                        refine MF.xald C K e_L_law_735 (fun v142 => ?_)
                                        refine MF.callVI (As := [.int v139, .int v140, .int v141, .int v142]) C (R_X7_stage hD v139 v140 v141 v142 s2) m_X7_stage k_L_87 kO_0 rfl (by decide) e_L_law_736 rfl rfl (Nat.le_of_ble_eq_true rfl) (fun v143 s144 => ?_)
                                        refine MF.aload_n C e_L_law_739 2 rfl rfl ?_
                                        refine MF.aload_n C e_L_law_740 0 rfl rfl ?_
                                        refine MF.iload_n C e_L_law_741 3 rfl rfl ?_
                                        refine MF.iconst (v := (nI 1)) C e_L_law_742 rfl ?_
                                        refine MF.iadd C e_L_law_743 ?_
                                        refine MF.xald C K e_L_law_744 (fun v145 => ?_)
                                        refine MF.aload_n C e_L_law_745 0 rfl rfl ?_
                                        refine MF.iload_n C e_L_law_746 3 rfl rfl ?_
                                        refine MF.iconst (v := (nI 2)) C e_L_law_747 rfl ?_
                                        refine MF.iadd C e_L_law_748 ?_
                                        refine MF.xald C K e_L_law_749 (fun v146 => ?_)
                                        refine MF.aload_n C e_L_law_750 0 rfl rfl ?_
                                        refine MF.iload_n C e_L_law_751 3 rfl rfl ?_
                                        refine MF.iconst (v := (nI 3)) C e_L_law_752 rfl ?_
                                        refine MF.iadd C e_L_law_753 ?_
                                        refine MF.xald C K e_L_law_754 (fun v147 => ?_)
                                        refine MF.aload_n C e_L_law_755 0 rfl rfl ?_
                                        refine MF.iload_n C e_L_law_756 3 rfl rfl ?_
                                        refine MF.iconst (v := (nI 4)) C e_L_law_757 rfl ?_
                                        refine MF.iadd C e_L_law_758 ?_
                                        refine MF.xald C K e_L_law_759 (fun v148 => ?_)
                                        refine MF.callVI (As := [.int v145, .int v146, .int v147, .int v148]) C (R_X8_stage hD v145 v146 v147 v148 s144) m_X8_stage k_L_90 kO_70 rfl (by decide) e_L_law_760 rfl rfl (Nat.le_of_ble_eq_true rfl) (fun v149 s150 => ?_)
                                        refine MF.icmp_eq (tgt := 1128) C e_L_law_763 (by decide) (fun _ => ?_) (fun _ => ?_)
                                        · exact hj6 s150
                                        · refine MF.iconst (v := (nI 0)) C e_L_law_766 rfl ?_
                                          exact MF.lend0
                                      · refine MF.split (fun h18 => ?_) (fun h18 => ?_)
                                        · refine MF.tabIn (tgt := 768) C e_L_law_33 h18 (by decide) (by decide) rfl (by decide) ?_
                                          refine MF.aload_n C e_L_law_768 1 rfl rfl ?_
                                          refine MF.aload_n C e_L_law_769 0 rfl rfl ?_
                                          refine MF.iload_n C e_L_law_770 3 rfl rfl ?_
                                          refine MF.iconst (v := (nI 1)) C e_L_law_771 rfl ?_
                                          refine MF.iadd C e_L_law_772 ?_
                                          refine MF.xald C K e_L_law_773 (fun v151 => ?_)
                                          refine MF.callVI (As := [.int v151]) C (R_X7_forbid hD v151 s2) m_X7_forbid k_L_91 kO_0 rfl (by decide) e_L_law_774 rfl rfl (Nat.le_of_ble_eq_true rfl) (fun v152 s153 => ?_)
                                          refine MF.aload_n C e_L_law_777 2 rfl rfl ?_
                                          refine MF.aload_n C e_L_law_778 0 rfl rfl ?_
                                          refine MF.iload_n C e_L_law_779 3 rfl rfl ?_
                                          refine MF.iconst (v := (nI 1)) C e_L_law_780 rfl ?_
                                          refine MF.iadd C e_L_law_781 ?_
                                          refine MF.xald C K e_L_law_782 (fun v154 => ?_)
                                          refine MF.callVI (As := [.int v154]) C (R_X8_forbid hD v154 s153) m_X8_forbid k_L_94 kO_70 rfl (by decide) e_L_law_783 rfl rfl (Nat.le_of_ble_eq_true rfl) (fun v155 s156 => ?_)
                                          refine MF.icmp_eq (tgt := 1128) C e_L_law_786 (by decide) (fun _ => ?_) (fun _ => ?_)
                                          · exact hj6 s156
                                          · refine MF.iconst (v := (nI 0)) C e_L_law_789 rfl ?_
                                            exact MF.lend0
                                        · refine MF.split (fun h19 => ?_) (fun h19 => ?_)
                                          · refine MF.tabIn (tgt := 791) C e_L_law_33 h19 (by decide) (by decide) rfl (by decide) ?_
                                            refine MF.aload_n C e_L_law_791 1 rfl rfl ?_
                                            refine MF.aload_n C e_L_law_792 0 rfl rfl ?_
                                            refine MF.iload_n C e_L_law_793 3 rfl rfl ?_
                                            refine MF.iconst (v := (nI 1)) C e_L_law_794 rfl ?_
                                            refine MF.iadd C e_L_law_795 ?_
                                            refine MF.xald C K e_L_law_796 (fun v157 => ?_)
                                            refine MF.callVI (As := [.int v157]) C (R_X7_rents hD v157 s2) m_X7_rents k_L_95 kO_0 rfl (by decide) e_L_law_797 rfl rfl (Nat.le_of_ble_eq_true rfl) (fun v158 s159 => ?_)
                                            refine MF.aload_n C e_L_law_800 2 rfl rfl ?_
                                            refine MF.aload_n C e_L_law_801 0 rfl rfl ?_
                                            refine MF.iload_n C e_L_law_802 3 rfl rfl ?_
                                            refine MF.iconst (v := (nI 1)) C e_L_law_803 rfl ?_
                                            refine MF.iadd C e_L_law_804 ?_
                                            refine MF.xald C K e_L_law_805 (fun v160 => ?_)
                                            refine MF.callVI (As := [.int v160]) C (R_X8_rents hD v160 s159) m_X8_rents k_L_98 kO_70 rfl (by decide) e_L_law_806 rfl rfl (Nat.le_of_ble_eq_true rfl) (fun v161 s162 => ?_)
                                            refine MF.icmp_eq (tgt := 1128) C e_L_law_809 (by decide) (fun _ => ?_) (fun _ => ?_)
                                            · exact hj6 s162
                                            · refine MF.iconst (v := (nI 0)) C e_L_law_812 rfl ?_
                                              exact MF.lend0
                                          · refine MF.split (fun h20 => ?_) (fun h20 => ?_)
                                            · refine MF.tabIn (tgt := 814) C e_L_law_33 h20 (by decide) (by decide) rfl (by decide) ?_
                                              refine MF.aload_n C e_L_law_814 1 rfl rfl ?_
                                              refine MF.aload_n C e_L_law_815 0 rfl rfl ?_
                                              refine MF.iload_n C e_L_law_816 3 rfl rfl ?_
                                              refine MF.iconst (v := (nI 1)) C e_L_law_817 rfl ?_
                                              refine MF.iadd C e_L_law_818 ?_
                                              refine MF.xald C K e_L_law_819 (fun v163 => ?_)
                                              refine MF.aload_n C e_L_law_820 0 rfl rfl ?_
                                              refine MF.iload_n C e_L_law_821 3 rfl rfl ?_
                                              refine MF.iconst (v := (nI 2)) C e_L_law_822 rfl ?_
                                              refine MF.iadd C e_L_law_823 ?_
                                              refine MF.xald C K e_L_law_824 (fun v164 => ?_)
                                              refine MF.aload_n C e_L_law_825 0 rfl rfl ?_
                                              refine MF.iload_n C e_L_law_826 3 rfl rfl ?_
                                              refine MF.iconst (v := (nI 3)) C e_L_law_827 rfl ?_
                                              refine MF.iadd C e_L_law_828 ?_
                                              refine MF.xald C K e_L_law_829 (fun v165 => ?_)
                                              refine MF.aload_n C e_L_law_830 0 rfl rfl ?_
                                              refine MF.iload_n C e_L_law_831 3 rfl rfl ?_
                                              refine MF.iconst (v := (nI 4)) C e_L_law_832 rfl ?_
                                              refine MF.iadd C e_L_law_833 ?_
                                              refine MF.xald C K e_L_law_834 (fun v166 => ?_)
                                              refine MF.callVI (As := [.int v163, .int v164, .int v165, .int v166]) C (R_X7_landlords hD v163 v164 v165 v166 s2) m_X7_landlords k_L_99 kO_0 rfl (by decide) e_L_law_835 rfl rfl (Nat.le_of_ble_eq_true rfl) (fun v167 s168 => ?_)
                                              refine MF.aload_n C e_L_law_838 2 rfl rfl ?_
                                              refine MF.aload_n C e_L_law_839 0 rfl rfl ?_
                                              refine MF.iload_n C e_L_law_840 3 rfl rfl ?_
                                              refine MF.iconst (v := (nI 1)) C e_L_law_841 rfl ?_
                                              refine MF.iadd C e_L_law_842 ?_
                                              refine MF.xald C K e_L_law_843 (fun v169 => ?_)
                                              refine MF.aload_n C e_L_law_844 0 rfl rfl ?_
                                              refine MF.iload_n C e_L_law_845 3 rfl rfl ?_
                                              refine MF.iconst (v := (nI 2)) C e_L_law_846 rfl ?_
                                              refine MF.iadd C e_L_law_847 ?_
                                              refine MF.xald C K e_L_law_848 (fun v170 => ?_)
                                              refine MF.aload_n C e_L_law_849 0 rfl rfl ?_
                                              refine MF.iload_n C e_L_law_850 3 rfl rfl ?_
                                              refine MF.iconst (v := (nI 3)) C e_L_law_851 rfl ?_
                                              refine MF.iadd C e_L_law_852 ?_
                                              refine MF.xald C K e_L_law_853 (fun v171 => ?_)
                                              refine MF.aload_n C e_L_law_854 0 rfl rfl ?_
                                              refine MF.iload_n C e_L_law_855 3 rfl rfl ?_
                                              refine MF.iconst (v := (nI 4)) C e_L_law_856 rfl ?_
                                              refine MF.iadd C e_L_law_857 ?_
                                              refine MF.xald C K e_L_law_858 (fun v172 => ?_)
                                              refine MF.callVI (As := [.int v169, .int v170, .int v171, .int v172]) C (R_X8_landlords hD v169 v170 v171 v172 s168) m_X8_landlords k_L_102 kO_70 rfl (by decide) e_L_law_859 rfl rfl (Nat.le_of_ble_eq_true rfl) (fun v173 s174 => ?_)
                                              refine MF.icmp_eq (tgt := 1128) C e_L_law_862 (by decide) (fun _ => ?_) (fun _ => ?_)
                                              · exact hj6 s174
                                              · refine MF.iconst (v := (nI 0)) C e_L_law_865 rfl ?_
                                                exact MF.lend0
                                            · refine MF.split (fun h21 => ?_) (fun h21 => ?_)
                                              · refine MF.tabIn (tgt := 867) C e_L_law_33 h21 (by decide) (by decide) rfl (by decide) ?_
                                                refine MF.aload_n C e_L_law_867 1 rfl rfl ?_
                                                refine MF.aload_n C e_L_law_868 0 rfl rfl ?_
                                                refine MF.iload_n C e_L_law_869 3 rfl rfl ?_
                                                refine MF.iconst (v := (nI 1)) C e_L_law_870 rfl ?_
                                                refine MF.iadd C e_L_law_871 ?_
                                                refine MF.xald C K e_L_law_872 (fun v175 => ?_)
                                                refine MF.aload_n C e_L_law_873 0 rfl rfl ?_
                                                refine MF.iload_n C e_L_law_874 3 rfl rfl ?_
                                                refine MF.iconst (v := (nI 2)) C e_L_law_875 rfl ?_
                                                refine MF.iadd C e_L_law_876 ?_
                                                refine MF.xald C K e_L_law_877 (fun v176 => ?_)
                                                refine MF.callVI (As := [.int v175, .int v176]) C (R_X7_round hD v175 v176 s2) m_X7_round k_L_103 kO_0 rfl (by decide) e_L_law_878 rfl rfl (Nat.le_of_ble_eq_true rfl) (fun v177 s178 => ?_)
                                                refine MF.aload_n C e_L_law_881 2 rfl rfl ?_
                                                refine MF.aload_n C e_L_law_882 0 rfl rfl ?_
                                                refine MF.iload_n C e_L_law_883 3 rfl rfl ?_
                                                refine MF.iconst (v := (nI 1)) C e_L_law_884 rfl ?_
                                                refine MF.iadd C e_L_law_885 ?_
                                                refine MF.xald C K e_L_law_886 (fun v179 => ?_)
                                                refine MF.aload_n C e_L_law_887 0 rfl rfl ?_
                                                refine MF.iload_n C e_L_law_888 3 rfl rfl ?_
                                                refine MF.iconst (v := (nI 2)) C e_L_law_889 rfl ?_
                                                refine MF.iadd C e_L_law_890 ?_
                                                refine MF.xald C K e_L_law_891 (fun v180 => ?_)
                                                refine MF.callVI (As := [.int v179, .int v180]) C (R_X8_round hD v179 v180 s178) m_X8_round k_L_106 kO_70 rfl (by decide) e_L_law_892 rfl rfl (Nat.le_of_ble_eq_true rfl) (fun v181 s182 => ?_)
                                                refine MF.icmp_eq (tgt := 1128) C e_L_law_895 (by decide) (fun _ => ?_) (fun _ => ?_)
                                                · exact hj6 s182
                                                · refine MF.iconst (v := (nI 0)) C e_L_law_898 rfl ?_
                                                  exact MF.lend0
                                              · refine MF.split (fun h22 => ?_) (fun h22 => ?_)
                                                · refine MF.tabIn (tgt := 900) C e_L_law_33 h22 (by decide) (by decide) rfl (by decide) ?_
                                                  refine MF.aload_n C e_L_law_900 1 rfl rfl ?_
                                                  refine MF.aload_n C e_L_law_901 0 rfl rfl ?_
                                                  refine MF.iload_n C e_L_law_902 3 rfl rfl ?_
                                                  refine MF.iconst (v := (nI 1)) C e_L_law_903 rfl ?_
                                                  refine MF.iadd C e_L_law_904 ?_
                                                  refine MF.xald C K e_L_law_905 (fun v183 => ?_)
                                                  refine MF.aload_n C e_L_law_906 0 rfl rfl ?_
                                                  refine MF.iload_n C e_L_law_907 3 rfl rfl ?_
                                                  refine MF.iconst (v := (nI 2)) C e_L_law_908 rfl ?_
                                                  refine MF.iadd C e_L_law_909 ?_
                                                  refine MF.xald C K e_L_law_910 (fun v184 => ?_)
                                                  refine MF.aload_n C e_L_law_911 0 rfl rfl ?_
                                                  refine MF.iload_n C e_L_law_912 3 rfl rfl ?_
                                                  refine MF.iconst (v := (nI 3)) C e_L_law_913 rfl ?_
                                                  refine MF.iadd C e_L_law_914 ?_
                                                  refine MF.xald C K e_L_law_915 (fun v185 => ?_)
                                                  refine MF.callVI (As := [.int v183, .int v184, .int v185]) C (R_X7_reading hD v183 v184 v185 s2) m_X7_reading k_L_107 kO_0 rfl (by decide) e_L_law_916 rfl rfl (Nat.le_of_ble_eq_true rfl) (fun v186 s187 => ?_)
                                                  refine MF.aload_n C e_L_law_919 2 rfl rfl ?_
                                                  refine MF.aload_n C e_L_law_920 0 rfl rfl ?_
                                                  refine MF.iload_n C e_L_law_921 3 rfl rfl ?_
                                                  refine MF.iconst (v := (nI 1)) C e_L_law_922 rfl ?_
                                                  refine MF.iadd C e_L_law_923 ?_
                                                  refine MF.xald C K e_L_law_924 (fun v188 => ?_)
                                                  refine MF.aload_n C e_L_law_925 0 rfl rfl ?_
                                                  refine MF.iload_n C e_L_law_926 3 rfl rfl ?_
                                                  refine MF.iconst (v := (nI 2)) C e_L_law_927 rfl ?_
                                                  refine MF.iadd C e_L_law_928 ?_
                                                  refine MF.xald C K e_L_law_929 (fun v189 => ?_)
                                                  refine MF.aload_n C e_L_law_930 0 rfl rfl ?_
                                                  refine MF.iload_n C e_L_law_931 3 rfl rfl ?_
                                                  refine MF.iconst (v := (nI 3)) C e_L_law_932 rfl ?_
                                                  refine MF.iadd C e_L_law_933 ?_
                                                  refine MF.xald C K e_L_law_934 (fun v190 => ?_)
                                                  refine MF.callVI (As := [.int v188, .int v189, .int v190]) C (R_X8_reading hD v188 v189 v190 s187) m_X8_reading k_L_110 kO_70 rfl (by decide) e_L_law_935 rfl rfl (Nat.le_of_ble_eq_true rfl) (fun v191 s192 => ?_)
                                                  refine MF.icmp_eq (tgt := 1128) C e_L_law_938 (by decide) (fun _ => ?_) (fun _ => ?_)
                                                  · exact hj6 s192
                                                  · refine MF.iconst (v := (nI 0)) C e_L_law_941 rfl ?_
                                                    exact MF.lend0
                                                · refine MF.split (fun h23 => ?_) (fun h23 => ?_)
                                                  · refine MF.tabIn (tgt := 943) C e_L_law_33 h23 (by decide) (by decide) rfl (by decide) ?_
                                                    refine MF.aload_n C e_L_law_943 1 rfl rfl ?_
                                                    refine MF.callVI (As := []) C (R_X7_burn hD s2) m_X7_burn k_L_111 kO_0 rfl (by decide) e_L_law_944 rfl rfl (Nat.le_of_ble_eq_true rfl) (fun v193 s194 => ?_)
                                                    refine MF.aload_n C e_L_law_947 2 rfl rfl ?_
                                                    refine MF.callVI (As := []) C (R_X8_burn hD s194) m_X8_burn k_L_114 kO_70 rfl (by decide) e_L_law_948 rfl rfl (Nat.le_of_ble_eq_true rfl) (fun v195 s196 => ?_)
                                                    refine MF.icmp_eq (tgt := 1128) C e_L_law_951 (by decide) (fun _ => ?_) (fun _ => ?_)
                                                    · exact hj6 s196
                                                    · refine MF.iconst (v := (nI 0)) C e_L_law_954 rfl ?_
                                                      exact MF.lend0
                                                  · refine MF.split (fun h24 => ?_) (fun h24 => ?_)
                                                    · refine MF.tabIn (tgt := 956) C e_L_law_33 h24 (by decide) (by decide) rfl (by decide) ?_
                                                      refine MF.aload_n C e_L_law_956 1 rfl rfl ?_
                                                      refine MF.aload_n C e_L_law_957 0 rfl rfl ?_
                                                      refine MF.iload_n C e_L_law_958 3 rfl rfl ?_
                                                      refine MF.iconst (v := (nI 1)) C e_L_law_959 rfl ?_
                                                      refine MF.iadd C e_L_law_960 ?_
                                                      refine MF.xald C K e_L_law_961 (fun v197 => ?_)
                                                      refine MF.callVI (As := [.int v197]) C (R_X7_truly hD v197 s2) m_X7_truly k_L_115 kO_0 rfl (by decide) e_L_law_962 rfl rfl (Nat.le_of_ble_eq_true rfl) (fun v198 s199 => ?_)
                                                      refine MF.aload_n C e_L_law_965 2 rfl rfl ?_
                                                      refine MF.aload_n C e_L_law_966 0 rfl rfl ?_
                                                      refine MF.iload_n C e_L_law_967 3 rfl rfl ?_
                                                      refine MF.iconst (v := (nI 1)) C e_L_law_968 rfl ?_
                                                      refine MF.iadd C e_L_law_969 ?_
                                                      refine MF.xald C K e_L_law_970 (fun v200 => ?_)
                                                      refine MF.callVI (As := [.int v200]) C (R_X8_truly hD v200 s199) m_X8_truly k_L_118 kO_70 rfl (by decide) e_L_law_971 rfl rfl (Nat.le_of_ble_eq_true rfl) (fun v201 s202 => ?_)
                                                      refine MF.icmp_eq (tgt := 1128) C e_L_law_974 (by decide) (fun _ => ?_) (fun _ => ?_)
                                                      · exact hj6 s202
                                                      · refine MF.iconst (v := (nI 0)) C e_L_law_977 rfl ?_
                                                        exact MF.lend0
                                                    · refine MF.split (fun h25 => ?_) (fun h25 => ?_)
                                                      · refine MF.tabIn (tgt := 979) C e_L_law_33 h25 (by decide) (by decide) rfl (by decide) ?_
                                                        refine MF.aload_n C e_L_law_979 1 rfl rfl ?_
                                                        refine MF.aload_n C e_L_law_980 0 rfl rfl ?_
                                                        refine MF.iload_n C e_L_law_981 3 rfl rfl ?_
                                                        refine MF.iconst (v := (nI 1)) C e_L_law_982 rfl ?_
                                                        refine MF.iadd C e_L_law_983 ?_
                                                        refine MF.xald C K e_L_law_984 (fun v203 => ?_)
                                                        refine MF.aload_n C e_L_law_985 0 rfl rfl ?_
                                                        refine MF.iload_n C e_L_law_986 3 rfl rfl ?_
                                                        refine MF.iconst (v := (nI 2)) C e_L_law_987 rfl ?_
                                                        refine MF.iadd C e_L_law_988 ?_
                                                        refine MF.xald C K e_L_law_989 (fun v204 => ?_)
                                                        refine MF.aload_n C e_L_law_990 0 rfl rfl ?_
                                                        refine MF.iload_n C e_L_law_991 3 rfl rfl ?_
                                                        refine MF.iconst (v := (nI 3)) C e_L_law_992 rfl ?_
                                                        refine MF.iadd C e_L_law_993 ?_
                                                        refine MF.xald C K e_L_law_994 (fun v205 => ?_)
                                                        refine MF.callVI (As := [.int v203, .int v204, .int v205]) C (R_X7_drawn hD v203 v204 v205 s2) m_X7_drawn k_L_119 kO_0 rfl (by decide) e_L_law_995 rfl rfl (Nat.le_of_ble_eq_true rfl) (fun v206 s207 => ?_)
                                                        refine MF.aload_n C e_L_law_998 2 rfl rfl ?_
                                                        refine MF.aload_n C e_L_law_999 0 rfl rfl ?_
                                                        refine MF.iload_n C e_L_law_1000 3 rfl rfl ?_
                                                        refine MF.iconst (v := (nI 1)) C e_L_law_1001 rfl ?_
                                                        refine MF.iadd C e_L_law_1002 ?_
                                                        refine MF.xald C K e_L_law_1003 (fun v208 => ?_)
                                                        refine MF.aload_n C e_L_law_1004 0 rfl rfl ?_
                                                        refine MF.iload_n C e_L_law_1005 3 rfl rfl ?_
                                                        refine MF.iconst (v := (nI 2)) C e_L_law_1006 rfl ?_
                                                        refine MF.iadd C e_L_law_1007 ?_
                                                        refine MF.xald C K e_L_law_1008 (fun v209 => ?_)
                                                        refine MF.aload_n C e_L_law_1009 0 rfl rfl ?_
                                                        refine MF.iload_n C e_L_law_1010 3 rfl rfl ?_
                                                        refine MF.iconst (v := (nI 3)) C e_L_law_1011 rfl ?_
                                                        refine MF.iadd C e_L_law_1012 ?_
                                                        refine MF.xald C K e_L_law_1013 (fun v210 => ?_)
                                                        refine MF.callVI (As := [.int v208, .int v209, .int v210]) C (R_X8_drawn hD v208 v209 v210 s207) m_X8_drawn k_L_122 kO_70 rfl (by decide) e_L_law_1014 rfl rfl (Nat.le_of_ble_eq_true rfl) (fun v211 s212 => ?_)
                                                        refine MF.icmp_eq (tgt := 1128) C e_L_law_1017 (by decide) (fun _ => ?_) (fun _ => ?_)
                                                        · exact hj6 s212
                                                        · refine MF.iconst (v := (nI 0)) C e_L_law_1020 rfl ?_
                                                          exact MF.lend0
                                                      · refine MF.split (fun h26 => ?_) (fun h26 => ?_)
                                                        · refine MF.tabIn (tgt := 1022) C e_L_law_33 h26 (by decide) (by decide) rfl (by decide) ?_
                                                          refine MF.aload_n C e_L_law_1022 1 rfl rfl ?_
                                                          refine MF.aload_n C e_L_law_1023 0 rfl rfl ?_
                                                          refine MF.iload_n C e_L_law_1024 3 rfl rfl ?_
                                                          refine MF.iconst (v := (nI 1)) C e_L_law_1025 rfl ?_
                                                          refine MF.iadd C e_L_law_1026 ?_
                                                          refine MF.xald C K e_L_law_1027 (fun v213 => ?_)
                                                          refine MF.callVI (As := [.int v213]) C (R_X7_image hD v213 s2) m_X7_image k_L_123 kO_0 rfl (by decide) e_L_law_1028 rfl rfl (Nat.le_of_ble_eq_true rfl) (fun v214 s215 => ?_)
                                                          refine MF.aload_n C e_L_law_1031 2 rfl rfl ?_
                                                          refine MF.aload_n C e_L_law_1032 0 rfl rfl ?_
                                                          refine MF.iload_n C e_L_law_1033 3 rfl rfl ?_
                                                          refine MF.iconst (v := (nI 1)) C e_L_law_1034 rfl ?_
                                                          refine MF.iadd C e_L_law_1035 ?_
                                                          refine MF.xald C K e_L_law_1036 (fun v216 => ?_)
                                                          refine MF.callVI (As := [.int v216]) C (R_X8_image hD v216 s215) m_X8_image k_L_126 kO_70 rfl (by decide) e_L_law_1037 rfl rfl (Nat.le_of_ble_eq_true rfl) (fun v217 s218 => ?_)
                                                          refine MF.icmp_eq (tgt := 1128) C e_L_law_1040 (by decide) (fun _ => ?_) (fun _ => ?_)
                                                          · exact hj6 s218
                                                          · refine MF.iconst (v := (nI 0)) C e_L_law_1043 rfl ?_
                                                            exact MF.lend0
                                                        · refine MF.split (fun h27 => ?_) (fun h27 => ?_)
                                                          · refine MF.tabIn (tgt := 1045) C e_L_law_33 h27 (by decide) (by decide) rfl (by decide) ?_
                                                            refine MF.aload_n C e_L_law_1045 1 rfl rfl ?_
                                                            refine MF.aload_n C e_L_law_1046 0 rfl rfl ?_
                                                            refine MF.iload_n C e_L_law_1047 3 rfl rfl ?_
                                                            refine MF.iconst (v := (nI 1)) C e_L_law_1048 rfl ?_
                                                            refine MF.iadd C e_L_law_1049 ?_
                                                            refine MF.xald C K e_L_law_1050 (fun v219 => ?_)
                                                            refine MF.callVI (As := [.int v219]) C (R_X7_from hD v219 s2) m_X7_from k_L_127 kO_0 rfl (by decide) e_L_law_1051 rfl rfl (Nat.le_of_ble_eq_true rfl) (fun v220 s221 => ?_)
                                                            refine MF.aload_n C e_L_law_1054 2 rfl rfl ?_
                                                            refine MF.aload_n C e_L_law_1055 0 rfl rfl ?_
                                                            refine MF.iload_n C e_L_law_1056 3 rfl rfl ?_
                                                            refine MF.iconst (v := (nI 1)) C e_L_law_1057 rfl ?_
                                                            refine MF.iadd C e_L_law_1058 ?_
                                                            refine MF.xald C K e_L_law_1059 (fun v222 => ?_)
                                                            refine MF.callVI (As := [.int v222]) C (R_X8_from hD v222 s221) m_X8_from k_L_130 kO_70 rfl (by decide) e_L_law_1060 rfl rfl (Nat.le_of_ble_eq_true rfl) (fun v223 s224 => ?_)
                                                            refine MF.icmp_eq (tgt := 1128) C e_L_law_1063 (by decide) (fun _ => ?_) (fun _ => ?_)
                                                            · exact hj6 s224
                                                            · refine MF.iconst (v := (nI 0)) C e_L_law_1066 rfl ?_
                                                              exact MF.lend0
                                                          · refine MF.split (fun h28 => ?_) (fun h28 => ?_)
                                                            · refine MF.tabIn (tgt := 1068) C e_L_law_33 h28 (by decide) (by decide) rfl (by decide) ?_
                                                              refine MF.aload_n C e_L_law_1068 1 rfl rfl ?_
                                                              refine MF.aload_n C e_L_law_1069 0 rfl rfl ?_
                                                              refine MF.iload_n C e_L_law_1070 3 rfl rfl ?_
                                                              refine MF.iconst (v := (nI 1)) C e_L_law_1071 rfl ?_
                                                              refine MF.iadd C e_L_law_1072 ?_
                                                              refine MF.xald C K e_L_law_1073 (fun v225 => ?_)
                                                              refine MF.callVI (As := [.int v225]) C (R_X7_status hD v225 s2) m_X7_status k_L_131 kO_0 rfl (by decide) e_L_law_1074 rfl rfl (Nat.le_of_ble_eq_true rfl) (fun v226 s227 => ?_)
                                                              refine MF.aload_n C e_L_law_1077 2 rfl rfl ?_
                                                              refine MF.aload_n C e_L_law_1078 0 rfl rfl ?_
                                                              refine MF.iload_n C e_L_law_1079 3 rfl rfl ?_
                                                              refine MF.iconst (v := (nI 1)) C e_L_law_1080 rfl ?_
                                                              refine MF.iadd C e_L_law_1081 ?_
                                                              refine MF.xald C K e_L_law_1082 (fun v228 => ?_)
                                                              refine MF.callVI (As := [.int v228]) C (R_X8_status hD v228 s227) m_X8_status k_L_134 kO_70 rfl (by decide) e_L_law_1083 rfl rfl (Nat.le_of_ble_eq_true rfl) (fun v229 s230 => ?_)
                                                              refine MF.icmp_eq (tgt := 1128) C e_L_law_1086 (by decide) (fun _ => ?_) (fun _ => ?_)
                                                              · exact hj6 s230
                                                              · refine MF.iconst (v := (nI 0)) C e_L_law_1089 rfl ?_
                                                                exact MF.lend0
                                                            · refine MF.split (fun h29 => ?_) (fun h29 => ?_)
                                                              · refine MF.tabIn (tgt := 1091) C e_L_law_33 h29 (by decide) (by decide) rfl (by decide) ?_
                                                                refine MF.aload_n C e_L_law_1091 1 rfl rfl ?_
                                                                refine MF.aload_n C e_L_law_1092 0 rfl rfl ?_
                                                                refine MF.iload_n C e_L_law_1093 3 rfl rfl ?_
                                                                refine MF.iconst (v := (nI 1)) C e_L_law_1094 rfl ?_
                                                                refine MF.iadd C e_L_law_1095 ?_
                                                                refine MF.xald C K e_L_law_1096 (fun v231 => ?_)
                                                                refine MF.callVI (As := [.int v231]) C (R_X7_count hD v231 s2) m_X7_count k_L_135 kO_0 rfl (by decide) e_L_law_1097 rfl rfl (Nat.le_of_ble_eq_true rfl) (fun v232 s233 => ?_)
                                                                refine MF.aload_n C e_L_law_1100 2 rfl rfl ?_
                                                                refine MF.aload_n C e_L_law_1101 0 rfl rfl ?_
                                                                refine MF.iload_n C e_L_law_1102 3 rfl rfl ?_
                                                                refine MF.iconst (v := (nI 1)) C e_L_law_1103 rfl ?_
                                                                refine MF.iadd C e_L_law_1104 ?_
                                                                refine MF.xald C K e_L_law_1105 (fun v234 => ?_)
                                                                refine MF.callVI (As := [.int v234]) C (R_X8_count hD v234 s233) m_X8_count k_L_138 kO_70 rfl (by decide) e_L_law_1106 rfl rfl (Nat.le_of_ble_eq_true rfl) (fun v235 s236 => ?_)
                                                                refine MF.icmp_eq (tgt := 1128) C e_L_law_1109 (by decide) (fun _ => ?_) (fun _ => ?_)
                                                                · exact hj6 s236
                                                                · refine MF.iconst (v := (nI 0)) C e_L_law_1112 rfl ?_
                                                                  exact MF.lend0
                                                              · refine MF.split (fun h30 => ?_) (fun h30 => ?_)
                                                                · refine MF.tabIn (tgt := 1114) C e_L_law_33 h30 (by decide) (by decide) rfl (by decide) ?_
                                                                  refine MF.aload_n C e_L_law_1114 1 rfl rfl ?_
                                                                  refine MF.callVL (As := []) C (R_X7_digest hD s2) m_X7_digest k_L_139 kO_0 rfl (by decide) e_L_law_1115 rfl rfl (Nat.le_of_ble_eq_true rfl) (fun v237 => ?_)
                                                                  refine MF.aload_n C e_L_law_1118 2 rfl rfl ?_
                                                                  refine MF.callVL (As := []) C (R_X8_digest hD s2) m_X8_digest k_L_143 kO_70 rfl (by decide) e_L_law_1119 rfl rfl (Nat.le_of_ble_eq_true rfl) (fun v238 => ?_)
                                                                  refine MF.lcmp C e_L_law_1122 ?_
                                                                  refine MF.if_eq (tgt := 1128) C e_L_law_1123 (by decide) (fun _ => ?_) (fun _ => ?_)
                                                                  · exact hj6 s2
                                                                  · refine MF.iconst (v := (nI 0)) C e_L_law_1126 rfl ?_
                                                                    exact MF.lend0
                                                                · refine MF.tabOut (tgt := 1128) C e_L_law_33 (by have q0 : _ ≠ (0 : Int) := i32_ne h0; have q1 : _ ≠ (1 : Int) := i32_ne h1; have q2 : _ ≠ (2 : Int) := i32_ne h2; have q3 : _ ≠ (3 : Int) := i32_ne h3; have q4 : _ ≠ (4 : Int) := i32_ne h4; have q5 : _ ≠ (5 : Int) := i32_ne h5; have q6 : _ ≠ (6 : Int) := i32_ne h6; have q7 : _ ≠ (7 : Int) := i32_ne h7; have q8 : _ ≠ (8 : Int) := i32_ne h8; have q9 : _ ≠ (9 : Int) := i32_ne h9; have q10 : _ ≠ (10 : Int) := i32_ne h10; have q11 : _ ≠ (11 : Int) := i32_ne h11; have q12 : _ ≠ (12 : Int) := i32_ne h12; have q13 : _ ≠ (13 : Int) := i32_ne h13; have q14 : _ ≠ (14 : Int) := i32_ne h14; have q15 : _ ≠ (15 : Int) := i32_ne h15; have q16 : _ ≠ (16 : Int) := i32_ne h16; have q17 : _ ≠ (17 : Int) := i32_ne h17; have q18 : _ ≠ (18 : Int) := i32_ne h18; have q19 : _ ≠ (19 : Int) := i32_ne h19; have q20 : _ ≠ (20 : Int) := i32_ne h20; have q21 : _ ≠ (21 : Int) := i32_ne h21; have q22 : _ ≠ (22 : Int) := i32_ne h22; have q23 : _ ≠ (23 : Int) := i32_ne h23; have q24 : _ ≠ (24 : Int) := i32_ne h24; have q25 : _ ≠ (25 : Int) := i32_ne h25; have q26 : _ ≠ (26 : Int) := i32_ne h26; have q27 : _ ≠ (27 : Int) := i32_ne h27; have q28 : _ ≠ (28 : Int) := i32_ne h28; have q29 : _ ≠ (29 : Int) := i32_ne h29; have q30 : _ ≠ (30 : Int) := i32_ne h30; omega) (by decide) ?_
                                                                  exact hj6 s2
end LWK
