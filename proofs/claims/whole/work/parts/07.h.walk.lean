section WK
variable {l : Launch} {E : EX}
theorem e_X8_which_0 : Dc cX8_which 0 (.iload_n 1) 1 1 := ⟨by decide +kernel, rfl⟩
theorem e_X8_which_1 : Dc cX8_which 1 (.ifCond .lt 22) 3 4 := ⟨by decide +kernel, rfl⟩
theorem e_X8_which_4 : Dc cX8_which 4 (.iload_n 2) 1 5 := ⟨by decide +kernel, rfl⟩
theorem e_X8_which_5 : Dc cX8_which 5 (.invokestatic 116) 3 8 := ⟨by decide +kernel, rfl⟩
theorem e_X8_which_8 : Dc cX8_which 8 (.ifCond .eq 15) 3 11 := ⟨by decide +kernel, rfl⟩
theorem e_X8_which_11 : Dc cX8_which 11 (.iload_n 3) 1 12 := ⟨by decide +kernel, rfl⟩
theorem e_X8_which_12 : Dc cX8_which 12 (.invokestatic 116) 3 15 := ⟨by decide +kernel, rfl⟩
theorem e_X8_which_15 : Dc cX8_which 15 (.ifCond .eq 8) 3 18 := ⟨by decide +kernel, rfl⟩
theorem e_X8_which_18 : Dc cX8_which 18 (.iload_n 2) 1 19 := ⟨by decide +kernel, rfl⟩
theorem e_X8_which_19 : Dc cX8_which 19 (.iload_n 3) 1 20 := ⟨by decide +kernel, rfl⟩
theorem e_X8_which_20 : Dc cX8_which 20 (.if_icmp .le 10) 3 23 := ⟨by decide +kernel, rfl⟩
theorem e_X8_which_23 : Dc cX8_which 23 (.aload_n 0) 1 24 := ⟨by decide +kernel, rfl⟩
theorem e_X8_which_24 : Dc cX8_which 24 (.bipush (-2)) 2 26 := ⟨by decide +kernel, rfl⟩
theorem e_X8_which_26 : Dc cX8_which 26 (.invokevirtual 88) 3 29 := ⟨by decide +kernel, rfl⟩
theorem e_X8_which_29 : Dc cX8_which 29 (.ireturn) 1 30 := ⟨by decide +kernel, rfl⟩
theorem e_X8_which_30 : Dc cX8_which 30 (.iconst 0) 1 31 := ⟨by decide +kernel, rfl⟩
theorem e_X8_which_31 : Dc cX8_which 31 (.istore 4) 2 33 := ⟨by decide +kernel, rfl⟩
theorem e_X8_which_33 : Dc cX8_which 33 (.aload_n 0) 1 34 := ⟨by decide +kernel, rfl⟩
theorem e_X8_which_34 : Dc cX8_which 34 (.invokevirtual 176) 3 37 := ⟨by decide +kernel, rfl⟩
theorem e_X8_which_37 : Dc cX8_which 37 (.iload_n 2) 1 38 := ⟨by decide +kernel, rfl⟩
theorem e_X8_which_38 : Dc cX8_which 38 (.istore 5) 2 40 := ⟨by decide +kernel, rfl⟩
theorem e_X8_which_40 : Dc cX8_which 40 (.iload 5) 2 42 := ⟨by decide +kernel, rfl⟩
theorem e_X8_which_42 : Dc cX8_which 42 (.iload_n 3) 1 43 := ⟨by decide +kernel, rfl⟩
theorem e_X8_which_43 : Dc cX8_which 43 (.if_icmp .gt 21) 3 46 := ⟨by decide +kernel, rfl⟩
theorem e_X8_which_46 : Dc cX8_which 46 (.iload 4) 2 48 := ⟨by decide +kernel, rfl⟩
theorem e_X8_which_48 : Dc cX8_which 48 (.aload_n 0) 1 49 := ⟨by decide +kernel, rfl⟩
theorem e_X8_which_49 : Dc cX8_which 49 (.iload_n 1) 1 50 := ⟨by decide +kernel, rfl⟩
theorem e_X8_which_50 : Dc cX8_which 50 (.iload 5) 2 52 := ⟨by decide +kernel, rfl⟩
theorem e_X8_which_52 : Dc cX8_which 52 (.invokevirtual 182) 3 55 := ⟨by decide +kernel, rfl⟩
theorem e_X8_which_55 : Dc cX8_which 55 (.ior) 1 56 := ⟨by decide +kernel, rfl⟩
theorem e_X8_which_56 : Dc cX8_which 56 (.istore 4) 2 58 := ⟨by decide +kernel, rfl⟩
theorem e_X8_which_58 : Dc cX8_which 58 (.iinc 5 1) 3 61 := ⟨by decide +kernel, rfl⟩
theorem e_X8_which_61 : Dc cX8_which 61 (.goto (-21)) 3 64 := ⟨by decide +kernel, rfl⟩
theorem e_X8_which_64 : Dc cX8_which 64 (.iload 4) 2 66 := ⟨by decide +kernel, rfl⟩
theorem e_X8_which_66 : Dc cX8_which 66 (.ireturn) 1 67 := ⟨by decide +kernel, rfl⟩
set_option maxHeartbeats 4000000 in
set_option maxRecDepth 20000 in
theorem R_X8_which (hD : DD E) (x1 : Int32) (x2 : Int32) (x3 : Int32) (s : Sg) : ∀ v τ, (f_X8_which x1 x2 x3 s) = some (v, τ) → RI l E 6 M_X8_which [.ref (ead E 70), .int x1, .int x2, .int x3] s v τ := by
  refine ofI hD (by decide +kernel) (Nat.le_of_ble_eq_true rfl) (fun X C => ?_)
  show MF l E X (fun q : Int32 × Sg => QI E X q.1 q.2) (f_X8_which x1 x2 x3 s) s 0 [(0, .ref (ead E 70)), (1, .int x1), (2, .int x2), (3, .int x3)] []
  unfold f_X8_which
  refine MF.iload_n C e_X8_which_0 1 rfl rfl ?_
  refine MF.if_lt (tgt := 23) C e_X8_which_1 (by decide) (fun _ => ?_) (fun _ => ?_)
  · refine MF.aload_n C e_X8_which_23 0 rfl rfl ?_
    refine MF.bipush (v := (-2 : Int32)) C e_X8_which_24 (by decide) ?_
    refine MF.callVI (As := [.int (-2 : Int32)]) C (R_X8_bad hD (-2 : Int32) s) m_X8_bad k_X8_88 kO_70 rfl (by decide) e_X8_which_26 rfl rfl (Nat.le_of_ble_eq_true rfl) (fun v1 s2 => ?_)
    exact MF.iret C e_X8_which_29
  · refine MF.iload_n C e_X8_which_4 2 rfl rfl ?_
    refine MF.callSP (As := [.int x2]) C (R_X8_isHour hD x2 s) m_X8_isHour k_X8_116 (by decide) e_X8_which_5 rfl rfl (Nat.le_of_ble_eq_true rfl) (fun v3 => ?_)
    refine MF.if_eq (tgt := 23) C e_X8_which_8 (by decide) (fun _ => ?_) (fun _ => ?_)
    · refine MF.aload_n C e_X8_which_23 0 rfl rfl ?_
      refine MF.bipush (v := (-2 : Int32)) C e_X8_which_24 (by decide) ?_
      refine MF.callVI (As := [.int (-2 : Int32)]) C (R_X8_bad hD (-2 : Int32) s) m_X8_bad k_X8_88 kO_70 rfl (by decide) e_X8_which_26 rfl rfl (Nat.le_of_ble_eq_true rfl) (fun v4 s5 => ?_)
      exact MF.iret C e_X8_which_29
    · refine MF.iload_n C e_X8_which_11 3 rfl rfl ?_
      refine MF.callSP (As := [.int x3]) C (R_X8_isHour hD x3 s) m_X8_isHour k_X8_116 (by decide) e_X8_which_12 rfl rfl (Nat.le_of_ble_eq_true rfl) (fun v6 => ?_)
      refine MF.if_eq (tgt := 23) C e_X8_which_15 (by decide) (fun _ => ?_) (fun _ => ?_)
      · refine MF.aload_n C e_X8_which_23 0 rfl rfl ?_
        refine MF.bipush (v := (-2 : Int32)) C e_X8_which_24 (by decide) ?_
        refine MF.callVI (As := [.int (-2 : Int32)]) C (R_X8_bad hD (-2 : Int32) s) m_X8_bad k_X8_88 kO_70 rfl (by decide) e_X8_which_26 rfl rfl (Nat.le_of_ble_eq_true rfl) (fun v7 s8 => ?_)
        exact MF.iret C e_X8_which_29
      · refine MF.iload_n C e_X8_which_18 2 rfl rfl ?_
        refine MF.iload_n C e_X8_which_19 3 rfl rfl ?_
        refine MF.icmp_le (tgt := 30) C e_X8_which_20 (by decide) (fun _ => ?_) (fun _ => ?_)
        · refine MF.iconst (v := (nI 0)) C e_X8_which_30 rfl ?_
          refine MF.istore (lv' := [(0, .ref (ead E 70)), (1, .int x1), (2, .int x2), (3, .int x3), (4, .int (nI 0))]) C e_X8_which_31 (by decide) rfl ?_
          refine MF.aload_n C e_X8_which_33 0 rfl rfl ?_
          refine MF.callVU (As := []) C (R_X8_runAll hD s) m_X8_runAll k_X8_176 kO_70 rfl (by decide) e_X8_which_34 rfl rfl (Nat.le_of_ble_eq_true rfl) (fun s9 => ?_)
          refine MF.iload_n C e_X8_which_37 2 rfl rfl ?_
          refine MF.istore (lv' := [(0, .ref (ead E 70)), (1, .int x1), (2, .int x2), (3, .int x3), (4, .int (nI 0)), (5, .int x2)]) C e_X8_which_38 (by decide) rfl ?_
          refine MF.sub [0, 1, 3, 4, 5] rfl ?_
          refine MF.loop2 (fun i10 i11 => s9) (fun i10 i11 => [(0, .ref (ead E 70)), (1, .int x1), (3, .int x3), (4, .int i10), (5, .int i11)]) (fun self12 hself12 i10 i11 => ?_) fu (nI 0) x2
          unfold b_X8_which_40
          refine MF.iload C e_X8_which_40 4 rfl ?_
          refine MF.iload_n C e_X8_which_42 2 rfl rfl ?_
          refine MF.icmp_gt (tgt := 64) C e_X8_which_43 (by decide) (fun _ => ?_) (fun _ => ?_)
          · refine MF.iload C e_X8_which_64 3 rfl ?_
            exact MF.iret C e_X8_which_66
          · refine MF.iload C e_X8_which_46 3 rfl ?_
            refine MF.aload_n C e_X8_which_48 0 rfl rfl ?_
            refine MF.iload_n C e_X8_which_49 1 rfl rfl ?_
            refine MF.iload C e_X8_which_50 4 rfl ?_
            refine MF.callVP (As := [.int x1, .int i11]) C (R_X8_whichIn hD x1 i11 s9) m_X8_whichIn k_X8_182 kO_70 rfl (by decide) e_X8_which_52 rfl rfl (Nat.le_of_ble_eq_true rfl) (fun v13 => ?_)
            refine MF.ior C e_X8_which_55 ?_
            refine MF.nmI (fun v14 => ?_)
            refine MF.istore (lv' := [(0, .ref (ead E 70)), (1, .int x1), (3, .int x3), (4, .int v14), (5, .int i11)]) C e_X8_which_56 (by decide) rfl ?_
            refine MF.iinc (v := (nI 1)) (lv' := [(0, .ref (ead E 70)), (1, .int x1), (3, .int x3), (4, .int v14), (5, .int (i11 + (nI 1)))]) C e_X8_which_58 4 rfl rfl (by decide) rfl ?_
            refine MF.goto (tgt := 40) C e_X8_which_61 (by decide) ?_
            exact hself12 v14 (i11 + (nI 1))
        · refine MF.aload_n C e_X8_which_23 0 rfl rfl ?_
          refine MF.bipush (v := (-2 : Int32)) C e_X8_which_24 (by decide) ?_
          refine MF.callVI (As := [.int (-2 : Int32)]) C (R_X8_bad hD (-2 : Int32) s) m_X8_bad k_X8_88 kO_70 rfl (by decide) e_X8_which_26 rfl rfl (Nat.le_of_ble_eq_true rfl) (fun v15 s16 => ?_)
          exact MF.iret C e_X8_which_29
theorem e_X8_first_0 : Dc cX8_first 0 (.iconst 0) 1 1 := ⟨by decide +kernel, rfl⟩
theorem e_X8_first_1 : Dc cX8_first 1 (.istore_n 1) 1 2 := ⟨by decide +kernel, rfl⟩
theorem e_X8_first_2 : Dc cX8_first 2 (.iload_n 0) 1 3 := ⟨by decide +kernel, rfl⟩
theorem e_X8_first_3 : Dc cX8_first 3 (.ifCond .le 17) 3 6 := ⟨by decide +kernel, rfl⟩
theorem e_X8_first_6 : Dc cX8_first 6 (.iload_n 0) 1 7 := ⟨by decide +kernel, rfl⟩
theorem e_X8_first_7 : Dc cX8_first 7 (.iload_n 1) 1 8 := ⟨by decide +kernel, rfl⟩
theorem e_X8_first_8 : Dc cX8_first 8 (.ishr) 1 9 := ⟨by decide +kernel, rfl⟩
theorem e_X8_first_9 : Dc cX8_first 9 (.iconst 1) 1 10 := ⟨by decide +kernel, rfl⟩
theorem e_X8_first_10 : Dc cX8_first 10 (.iand) 1 11 := ⟨by decide +kernel, rfl⟩
theorem e_X8_first_11 : Dc cX8_first 11 (.ifCond .ne 9) 3 14 := ⟨by decide +kernel, rfl⟩
theorem e_X8_first_14 : Dc cX8_first 14 (.iinc 1 1) 3 17 := ⟨by decide +kernel, rfl⟩
theorem e_X8_first_17 : Dc cX8_first 17 (.goto (-15)) 3 20 := ⟨by decide +kernel, rfl⟩
theorem e_X8_first_20 : Dc cX8_first 20 (.iload_n 0) 1 21 := ⟨by decide +kernel, rfl⟩
theorem e_X8_first_21 : Dc cX8_first 21 (.ifCond .ne 7) 3 24 := ⟨by decide +kernel, rfl⟩
theorem e_X8_first_24 : Dc cX8_first 24 (.iconst (-1)) 1 25 := ⟨by decide +kernel, rfl⟩
theorem e_X8_first_25 : Dc cX8_first 25 (.goto 4) 3 28 := ⟨by decide +kernel, rfl⟩
theorem e_X8_first_28 : Dc cX8_first 28 (.iload_n 1) 1 29 := ⟨by decide +kernel, rfl⟩
theorem e_X8_first_29 : Dc cX8_first 29 (.ireturn) 1 30 := ⟨by decide +kernel, rfl⟩
set_option maxHeartbeats 4000000 in
set_option maxRecDepth 20000 in
theorem R_X8_first (hD : DD E) (x0 : Int32) (s : Sg) : ∀ v, (f_X8_first x0 s) = some v → RI l E 0 M_X8_first [.int x0] s v s := by
  refine ofP hD (by decide +kernel) (Nat.le_of_ble_eq_true rfl) (fun X C => ?_)
  show MF l E X (fun q : Int32 => QI E X q s) (f_X8_first x0 s) s 0 [(0, .int x0)] []
  unfold f_X8_first
  refine MF.iconst (v := (nI 0)) C e_X8_first_0 rfl ?_
  refine MF.istore_n (lv' := [(0, .int x0), (1, .int (nI 0))]) C e_X8_first_1 (by decide) rfl ?_
  refine MF.join (fun j : Int32 → Option Int32 => ∀ (a1 : Int32), MF l E X (fun q : Int32 => QI E X q s) (j a1) s 20 [(0, .int x0), (1, .int a1)] []) ?_ (fun j2 hj2 => ?_)
  · intro a1
    refine MF.iload_n C e_X8_first_20 0 rfl rfl ?_
    refine MF.if_ne (tgt := 28) C e_X8_first_21 (by decide) (fun _ => ?_) (fun _ => ?_)
    · refine MF.iload_n C e_X8_first_28 1 rfl rfl ?_
      exact MF.iretp C e_X8_first_29
    · refine MF.iconst (v := (-1 : Int32)) C e_X8_first_24 rfl ?_
      refine MF.goto (tgt := 29) C e_X8_first_25 (by decide) ?_
      exact MF.iretp C e_X8_first_29
  refine MF.loop1 (fun i3 => s) (fun i3 => [(0, .int x0), (1, .int i3)]) (fun self4 hself4 i3 => ?_) fu (nI 0)
  unfold b_X8_first_2
  refine MF.iload_n C e_X8_first_2 0 rfl rfl ?_
  refine MF.if_le (tgt := 20) C e_X8_first_3 (by decide) (fun _ => ?_) (fun _ => ?_)
  · exact hj2 i3
  · refine MF.iload_n C e_X8_first_6 0 rfl rfl ?_
    refine MF.iload_n C e_X8_first_7 1 rfl rfl ?_
    refine MF.ishr C e_X8_first_8 ?_
    refine MF.iconst (v := (nI 1)) C e_X8_first_9 rfl ?_
    refine MF.iand C e_X8_first_10 ?_
    refine MF.if_ne (tgt := 20) C e_X8_first_11 (by decide) (fun _ => ?_) (fun _ => ?_)
    · exact hj2 i3
    · refine MF.iinc (v := (nI 1)) (lv' := [(0, .int x0), (1, .int (i3 + (nI 1)))]) C e_X8_first_14 1 rfl rfl (by decide) rfl ?_
      refine MF.goto (tgt := 2) C e_X8_first_17 (by decide) ?_
      exact hself4 (i3 + (nI 1))
theorem e_X8_letter_0 : Dc cX8_letter 0 (.aload_n 0) 1 1 := ⟨by decide +kernel, rfl⟩
theorem e_X8_letter_1 : Dc cX8_letter 1 (.iload_n 1) 1 2 := ⟨by decide +kernel, rfl⟩
theorem e_X8_letter_2 : Dc cX8_letter 2 (.invokevirtual 113) 3 5 := ⟨by decide +kernel, rfl⟩
theorem e_X8_letter_5 : Dc cX8_letter 5 (.ifCond .eq 22) 3 8 := ⟨by decide +kernel, rfl⟩
theorem e_X8_letter_8 : Dc cX8_letter 8 (.iload_n 2) 1 9 := ⟨by decide +kernel, rfl⟩
theorem e_X8_letter_9 : Dc cX8_letter 9 (.invokestatic 116) 3 12 := ⟨by decide +kernel, rfl⟩
theorem e_X8_letter_12 : Dc cX8_letter 12 (.ifCond .eq 15) 3 15 := ⟨by decide +kernel, rfl⟩
theorem e_X8_letter_15 : Dc cX8_letter 15 (.iload_n 3) 1 16 := ⟨by decide +kernel, rfl⟩
theorem e_X8_letter_16 : Dc cX8_letter 16 (.invokestatic 116) 3 19 := ⟨by decide +kernel, rfl⟩
theorem e_X8_letter_19 : Dc cX8_letter 19 (.ifCond .eq 8) 3 22 := ⟨by decide +kernel, rfl⟩
theorem e_X8_letter_22 : Dc cX8_letter 22 (.iload_n 2) 1 23 := ⟨by decide +kernel, rfl⟩
theorem e_X8_letter_23 : Dc cX8_letter 23 (.iload_n 3) 1 24 := ⟨by decide +kernel, rfl⟩
theorem e_X8_letter_24 : Dc cX8_letter 24 (.if_icmp .le 10) 3 27 := ⟨by decide +kernel, rfl⟩
theorem e_X8_letter_27 : Dc cX8_letter 27 (.aload_n 0) 1 28 := ⟨by decide +kernel, rfl⟩
theorem e_X8_letter_28 : Dc cX8_letter 28 (.bipush (-2)) 2 30 := ⟨by decide +kernel, rfl⟩
theorem e_X8_letter_30 : Dc cX8_letter 30 (.invokevirtual 88) 3 33 := ⟨by decide +kernel, rfl⟩
theorem e_X8_letter_33 : Dc cX8_letter 33 (.ireturn) 1 34 := ⟨by decide +kernel, rfl⟩
theorem e_X8_letter_34 : Dc cX8_letter 34 (.aload_n 0) 1 35 := ⟨by decide +kernel, rfl⟩
theorem e_X8_letter_35 : Dc cX8_letter 35 (.invokevirtual 176) 3 38 := ⟨by decide +kernel, rfl⟩
theorem e_X8_letter_38 : Dc cX8_letter 38 (.aload_n 0) 1 39 := ⟨by decide +kernel, rfl⟩
theorem e_X8_letter_39 : Dc cX8_letter 39 (.aload_n 0) 1 40 := ⟨by decide +kernel, rfl⟩
theorem e_X8_letter_40 : Dc cX8_letter 40 (.iload_n 1) 1 41 := ⟨by decide +kernel, rfl⟩
theorem e_X8_letter_41 : Dc cX8_letter 41 (.iload_n 2) 1 42 := ⟨by decide +kernel, rfl⟩
theorem e_X8_letter_42 : Dc cX8_letter 42 (.invokevirtual 179) 3 45 := ⟨by decide +kernel, rfl⟩
theorem e_X8_letter_45 : Dc cX8_letter 45 (.iload_n 3) 1 46 := ⟨by decide +kernel, rfl⟩
theorem e_X8_letter_46 : Dc cX8_letter 46 (.invokevirtual 182) 3 49 := ⟨by decide +kernel, rfl⟩
theorem e_X8_letter_49 : Dc cX8_letter 49 (.invokestatic 185) 3 52 := ⟨by decide +kernel, rfl⟩
theorem e_X8_letter_52 : Dc cX8_letter 52 (.istore 4) 2 54 := ⟨by decide +kernel, rfl⟩
theorem e_X8_letter_54 : Dc cX8_letter 54 (.iload 4) 2 56 := ⟨by decide +kernel, rfl⟩
theorem e_X8_letter_56 : Dc cX8_letter 56 (.iconst (-1)) 1 57 := ⟨by decide +kernel, rfl⟩
theorem e_X8_letter_57 : Dc cX8_letter 57 (.if_icmp .ne 7) 3 60 := ⟨by decide +kernel, rfl⟩
theorem e_X8_letter_60 : Dc cX8_letter 60 (.iconst 2) 1 61 := ⟨by decide +kernel, rfl⟩
theorem e_X8_letter_61 : Dc cX8_letter 61 (.goto 14) 3 64 := ⟨by decide +kernel, rfl⟩
theorem e_X8_letter_64 : Dc cX8_letter 64 (.iload 4) 2 66 := ⟨by decide +kernel, rfl⟩
theorem e_X8_letter_66 : Dc cX8_letter 66 (.iload_n 1) 1 67 := ⟨by decide +kernel, rfl⟩
theorem e_X8_letter_67 : Dc cX8_letter 67 (.if_icmp .ne 7) 3 70 := ⟨by decide +kernel, rfl⟩
theorem e_X8_letter_70 : Dc cX8_letter 70 (.iconst 0) 1 71 := ⟨by decide +kernel, rfl⟩
theorem e_X8_letter_71 : Dc cX8_letter 71 (.goto 4) 3 74 := ⟨by decide +kernel, rfl⟩
theorem e_X8_letter_74 : Dc cX8_letter 74 (.iconst 1) 1 75 := ⟨by decide +kernel, rfl⟩
theorem e_X8_letter_75 : Dc cX8_letter 75 (.ireturn) 1 76 := ⟨by decide +kernel, rfl⟩
set_option maxHeartbeats 4000000 in
set_option maxRecDepth 20000 in
theorem R_X8_letter (hD : DD E) (x1 : Int32) (x2 : Int32) (x3 : Int32) (s : Sg) : ∀ v τ, (f_X8_letter x1 x2 x3 s) = some (v, τ) → RI l E 6 M_X8_letter [.ref (ead E 70), .int x1, .int x2, .int x3] s v τ := by
  refine ofI hD (by decide +kernel) (Nat.le_of_ble_eq_true rfl) (fun X C => ?_)
  show MF l E X (fun q : Int32 × Sg => QI E X q.1 q.2) (f_X8_letter x1 x2 x3 s) s 0 [(0, .ref (ead E 70)), (1, .int x1), (2, .int x2), (3, .int x3)] []
  unfold f_X8_letter
  refine MF.aload_n C e_X8_letter_0 0 rfl rfl ?_
  refine MF.iload_n C e_X8_letter_1 1 rfl rfl ?_
  refine MF.callVP (As := [.int x1]) C (R_X8_isStreet hD x1 s) m_X8_isStreet k_X8_113 kO_70 rfl (by decide) e_X8_letter_2 rfl rfl (Nat.le_of_ble_eq_true rfl) (fun v1 => ?_)
  refine MF.if_eq (tgt := 27) C e_X8_letter_5 (by decide) (fun _ => ?_) (fun _ => ?_)
  · refine MF.aload_n C e_X8_letter_27 0 rfl rfl ?_
    refine MF.bipush (v := (-2 : Int32)) C e_X8_letter_28 (by decide) ?_
    refine MF.callVI (As := [.int (-2 : Int32)]) C (R_X8_bad hD (-2 : Int32) s) m_X8_bad k_X8_88 kO_70 rfl (by decide) e_X8_letter_30 rfl rfl (Nat.le_of_ble_eq_true rfl) (fun v2 s3 => ?_)
    exact MF.iret C e_X8_letter_33
  · refine MF.iload_n C e_X8_letter_8 2 rfl rfl ?_
    refine MF.callSP (As := [.int x2]) C (R_X8_isHour hD x2 s) m_X8_isHour k_X8_116 (by decide) e_X8_letter_9 rfl rfl (Nat.le_of_ble_eq_true rfl) (fun v4 => ?_)
    refine MF.if_eq (tgt := 27) C e_X8_letter_12 (by decide) (fun _ => ?_) (fun _ => ?_)
    · refine MF.aload_n C e_X8_letter_27 0 rfl rfl ?_
      refine MF.bipush (v := (-2 : Int32)) C e_X8_letter_28 (by decide) ?_
      refine MF.callVI (As := [.int (-2 : Int32)]) C (R_X8_bad hD (-2 : Int32) s) m_X8_bad k_X8_88 kO_70 rfl (by decide) e_X8_letter_30 rfl rfl (Nat.le_of_ble_eq_true rfl) (fun v5 s6 => ?_)
      exact MF.iret C e_X8_letter_33
    · refine MF.iload_n C e_X8_letter_15 3 rfl rfl ?_
      refine MF.callSP (As := [.int x3]) C (R_X8_isHour hD x3 s) m_X8_isHour k_X8_116 (by decide) e_X8_letter_16 rfl rfl (Nat.le_of_ble_eq_true rfl) (fun v7 => ?_)
      refine MF.if_eq (tgt := 27) C e_X8_letter_19 (by decide) (fun _ => ?_) (fun _ => ?_)
      · refine MF.aload_n C e_X8_letter_27 0 rfl rfl ?_
        refine MF.bipush (v := (-2 : Int32)) C e_X8_letter_28 (by decide) ?_
        refine MF.callVI (As := [.int (-2 : Int32)]) C (R_X8_bad hD (-2 : Int32) s) m_X8_bad k_X8_88 kO_70 rfl (by decide) e_X8_letter_30 rfl rfl (Nat.le_of_ble_eq_true rfl) (fun v8 s9 => ?_)
        exact MF.iret C e_X8_letter_33
      · refine MF.iload_n C e_X8_letter_22 2 rfl rfl ?_
        refine MF.iload_n C e_X8_letter_23 3 rfl rfl ?_
        refine MF.icmp_le (tgt := 34) C e_X8_letter_24 (by decide) (fun _ => ?_) (fun _ => ?_)
        · refine MF.aload_n C e_X8_letter_34 0 rfl rfl ?_
          refine MF.callVU (As := []) C (R_X8_runAll hD s) m_X8_runAll k_X8_176 kO_70 rfl (by decide) e_X8_letter_35 rfl rfl (Nat.le_of_ble_eq_true rfl) (fun s10 => ?_)
          refine MF.aload_n C e_X8_letter_38 0 rfl rfl ?_
          refine MF.aload_n C e_X8_letter_39 0 rfl rfl ?_
          refine MF.iload_n C e_X8_letter_40 1 rfl rfl ?_
          refine MF.iload_n C e_X8_letter_41 2 rfl rfl ?_
          refine MF.callVP (As := [.int x1, .int x2]) C (R_X8_nameIn hD x1 x2 s10) m_X8_nameIn k_X8_179 kO_70 rfl (by decide) e_X8_letter_42 rfl rfl (Nat.le_of_ble_eq_true rfl) (fun v11 => ?_)
          refine MF.iload_n C e_X8_letter_45 3 rfl rfl ?_
          refine MF.callVP (As := [.int v11, .int x3]) C (R_X8_whichIn hD v11 x3 s10) m_X8_whichIn k_X8_182 kO_70 rfl (by decide) e_X8_letter_46 rfl rfl (Nat.le_of_ble_eq_true rfl) (fun v12 => ?_)
          refine MF.callSP (As := [.int v12]) C (R_X8_first hD v12 s10) m_X8_first k_X8_185 (by decide) e_X8_letter_49 rfl rfl (Nat.le_of_ble_eq_true rfl) (fun v13 => ?_)
          refine MF.istore (lv' := [(0, .ref (ead E 70)), (1, .int x1), (2, .int x2), (3, .int x3), (4, .int v13)]) C e_X8_letter_52 (by decide) rfl ?_
          refine MF.iload C e_X8_letter_54 4 rfl ?_
          refine MF.iconst (v := (-1 : Int32)) C e_X8_letter_56 rfl ?_
          refine MF.icmp_ne (tgt := 64) C e_X8_letter_57 (by decide) (fun _ => ?_) (fun _ => ?_)
          · refine MF.iload C e_X8_letter_64 4 rfl ?_
            refine MF.iload_n C e_X8_letter_66 1 rfl rfl ?_
            refine MF.icmp_ne (tgt := 74) C e_X8_letter_67 (by decide) (fun _ => ?_) (fun _ => ?_)
            · refine MF.iconst (v := (nI 1)) C e_X8_letter_74 rfl ?_
              exact MF.iret C e_X8_letter_75
            · refine MF.iconst (v := (nI 0)) C e_X8_letter_70 rfl ?_
              refine MF.goto (tgt := 75) C e_X8_letter_71 (by decide) ?_
              exact MF.iret C e_X8_letter_75
          · refine MF.iconst (v := (nI 2)) C e_X8_letter_60 rfl ?_
            refine MF.goto (tgt := 75) C e_X8_letter_61 (by decide) ?_
            exact MF.iret C e_X8_letter_75
        · refine MF.aload_n C e_X8_letter_27 0 rfl rfl ?_
          refine MF.bipush (v := (-2 : Int32)) C e_X8_letter_28 (by decide) ?_
          refine MF.callVI (As := [.int (-2 : Int32)]) C (R_X8_bad hD (-2 : Int32) s) m_X8_bad k_X8_88 kO_70 rfl (by decide) e_X8_letter_30 rfl rfl (Nat.le_of_ble_eq_true rfl) (fun v14 s15 => ?_)
          exact MF.iret C e_X8_letter_33
theorem e_X8_cab_0 : Dc cX8_cab 0 (.aload_n 0) 1 1 := ⟨by decide +kernel, rfl⟩
theorem e_X8_cab_1 : Dc cX8_cab 1 (.iload_n 1) 1 2 := ⟨by decide +kernel, rfl⟩
theorem e_X8_cab_2 : Dc cX8_cab 2 (.invokevirtual 113) 3 5 := ⟨by decide +kernel, rfl⟩
theorem e_X8_cab_5 : Dc cX8_cab 5 (.ifCond .eq 22) 3 8 := ⟨by decide +kernel, rfl⟩
theorem e_X8_cab_8 : Dc cX8_cab 8 (.iload_n 2) 1 9 := ⟨by decide +kernel, rfl⟩
theorem e_X8_cab_9 : Dc cX8_cab 9 (.invokestatic 116) 3 12 := ⟨by decide +kernel, rfl⟩
theorem e_X8_cab_12 : Dc cX8_cab 12 (.ifCond .eq 15) 3 15 := ⟨by decide +kernel, rfl⟩
theorem e_X8_cab_15 : Dc cX8_cab 15 (.iload_n 3) 1 16 := ⟨by decide +kernel, rfl⟩
theorem e_X8_cab_16 : Dc cX8_cab 16 (.i2l) 1 17 := ⟨by decide +kernel, rfl⟩
theorem e_X8_cab_17 : Dc cX8_cab 17 (.lconst 0) 1 18 := ⟨by decide +kernel, rfl⟩
theorem e_X8_cab_18 : Dc cX8_cab 18 (.ldc2_w 82) 3 21 := ⟨by decide +kernel, rfl⟩
theorem e_X8_cab_21 : Dc cX8_cab 21 (.invokestatic 75) 3 24 := ⟨by decide +kernel, rfl⟩
theorem e_X8_cab_24 : Dc cX8_cab 24 (.ifCond .ne 10) 3 27 := ⟨by decide +kernel, rfl⟩
theorem e_X8_cab_27 : Dc cX8_cab 27 (.aload_n 0) 1 28 := ⟨by decide +kernel, rfl⟩
theorem e_X8_cab_28 : Dc cX8_cab 28 (.bipush (-2)) 2 30 := ⟨by decide +kernel, rfl⟩
theorem e_X8_cab_30 : Dc cX8_cab 30 (.invokevirtual 88) 3 33 := ⟨by decide +kernel, rfl⟩
theorem e_X8_cab_33 : Dc cX8_cab 33 (.ireturn) 1 34 := ⟨by decide +kernel, rfl⟩
theorem e_X8_cab_34 : Dc cX8_cab 34 (.aload_n 0) 1 35 := ⟨by decide +kernel, rfl⟩
theorem e_X8_cab_35 : Dc cX8_cab 35 (.invokevirtual 176) 3 38 := ⟨by decide +kernel, rfl⟩
theorem e_X8_cab_38 : Dc cX8_cab 38 (.aload_n 0) 1 39 := ⟨by decide +kernel, rfl⟩
theorem e_X8_cab_39 : Dc cX8_cab 39 (.aload_n 0) 1 40 := ⟨by decide +kernel, rfl⟩
theorem e_X8_cab_40 : Dc cX8_cab 40 (.iload_n 1) 1 41 := ⟨by decide +kernel, rfl⟩
theorem e_X8_cab_41 : Dc cX8_cab 41 (.iload_n 2) 1 42 := ⟨by decide +kernel, rfl⟩
theorem e_X8_cab_42 : Dc cX8_cab 42 (.invokevirtual 179) 3 45 := ⟨by decide +kernel, rfl⟩
theorem e_X8_cab_45 : Dc cX8_cab 45 (.iload_n 2) 1 46 := ⟨by decide +kernel, rfl⟩
theorem e_X8_cab_46 : Dc cX8_cab 46 (.iload_n 3) 1 47 := ⟨by decide +kernel, rfl⟩
theorem e_X8_cab_47 : Dc cX8_cab 47 (.if_icmp .ge 7) 3 50 := ⟨by decide +kernel, rfl⟩
theorem e_X8_cab_50 : Dc cX8_cab 50 (.iconst 0) 1 51 := ⟨by decide +kernel, rfl⟩
theorem e_X8_cab_51 : Dc cX8_cab 51 (.goto 6) 3 54 := ⟨by decide +kernel, rfl⟩
theorem e_X8_cab_54 : Dc cX8_cab 54 (.iload_n 2) 1 55 := ⟨by decide +kernel, rfl⟩
theorem e_X8_cab_55 : Dc cX8_cab 55 (.iload_n 3) 1 56 := ⟨by decide +kernel, rfl⟩
theorem e_X8_cab_56 : Dc cX8_cab 56 (.isub) 1 57 := ⟨by decide +kernel, rfl⟩
theorem e_X8_cab_57 : Dc cX8_cab 57 (.invokevirtual 182) 3 60 := ⟨by decide +kernel, rfl⟩
theorem e_X8_cab_60 : Dc cX8_cab 60 (.invokestatic 185) 3 63 := ⟨by decide +kernel, rfl⟩
theorem e_X8_cab_63 : Dc cX8_cab 63 (.ireturn) 1 64 := ⟨by decide +kernel, rfl⟩
set_option maxHeartbeats 4000000 in
set_option maxRecDepth 20000 in
theorem R_X8_cab (hD : DD E) (x1 : Int32) (x2 : Int32) (x3 : Int32) (s : Sg) : ∀ v τ, (f_X8_cab x1 x2 x3 s) = some (v, τ) → RI l E 6 M_X8_cab [.ref (ead E 70), .int x1, .int x2, .int x3] s v τ := by
  refine ofI hD (by decide +kernel) (Nat.le_of_ble_eq_true rfl) (fun X C => ?_)
  show MF l E X (fun q : Int32 × Sg => QI E X q.1 q.2) (f_X8_cab x1 x2 x3 s) s 0 [(0, .ref (ead E 70)), (1, .int x1), (2, .int x2), (3, .int x3)] []
  unfold f_X8_cab
  refine MF.aload_n C e_X8_cab_0 0 rfl rfl ?_
  refine MF.iload_n C e_X8_cab_1 1 rfl rfl ?_
  refine MF.callVP (As := [.int x1]) C (R_X8_isStreet hD x1 s) m_X8_isStreet k_X8_113 kO_70 rfl (by decide) e_X8_cab_2 rfl rfl (Nat.le_of_ble_eq_true rfl) (fun v1 => ?_)
  refine MF.if_eq (tgt := 27) C e_X8_cab_5 (by decide) (fun _ => ?_) (fun _ => ?_)
  · refine MF.aload_n C e_X8_cab_27 0 rfl rfl ?_
    refine MF.bipush (v := (-2 : Int32)) C e_X8_cab_28 (by decide) ?_
    refine MF.callVI (As := [.int (-2 : Int32)]) C (R_X8_bad hD (-2 : Int32) s) m_X8_bad k_X8_88 kO_70 rfl (by decide) e_X8_cab_30 rfl rfl (Nat.le_of_ble_eq_true rfl) (fun v2 s3 => ?_)
    exact MF.iret C e_X8_cab_33
  · refine MF.iload_n C e_X8_cab_8 2 rfl rfl ?_
    refine MF.callSP (As := [.int x2]) C (R_X8_isHour hD x2 s) m_X8_isHour k_X8_116 (by decide) e_X8_cab_9 rfl rfl (Nat.le_of_ble_eq_true rfl) (fun v4 => ?_)
    refine MF.if_eq (tgt := 27) C e_X8_cab_12 (by decide) (fun _ => ?_) (fun _ => ?_)
    · refine MF.aload_n C e_X8_cab_27 0 rfl rfl ?_
      refine MF.bipush (v := (-2 : Int32)) C e_X8_cab_28 (by decide) ?_
      refine MF.callVI (As := [.int (-2 : Int32)]) C (R_X8_bad hD (-2 : Int32) s) m_X8_bad k_X8_88 kO_70 rfl (by decide) e_X8_cab_30 rfl rfl (Nat.le_of_ble_eq_true rfl) (fun v5 s6 => ?_)
      exact MF.iret C e_X8_cab_33
    · refine MF.iload_n C e_X8_cab_15 3 rfl rfl ?_
      refine MF.i2l C e_X8_cab_16 ?_
      refine MF.lconst (v := (0 : Int64)) C e_X8_cab_17 (by decide) ?_
      refine MF.ldc2 C e_X8_cab_18 t_X8_82 ?_
      refine MF.callSP (As := [.long (Int32.toInt64 x3), .long (0 : Int64), .long (23 : Int64)]) C (R_X8_in hD (Int32.toInt64 x3) (0 : Int64) (23 : Int64) s) m_X8_in k_X8_75 (by decide) e_X8_cab_21 rfl rfl (Nat.le_of_ble_eq_true rfl) (fun v7 => ?_)
      refine MF.if_ne (tgt := 34) C e_X8_cab_24 (by decide) (fun _ => ?_) (fun _ => ?_)
      · refine MF.aload_n C e_X8_cab_34 0 rfl rfl ?_
        refine MF.callVU (As := []) C (R_X8_runAll hD s) m_X8_runAll k_X8_176 kO_70 rfl (by decide) e_X8_cab_35 rfl rfl (Nat.le_of_ble_eq_true rfl) (fun s8 => ?_)
        refine MF.aload_n C e_X8_cab_38 0 rfl rfl ?_
        refine MF.aload_n C e_X8_cab_39 0 rfl rfl ?_
        refine MF.iload_n C e_X8_cab_40 1 rfl rfl ?_
        refine MF.iload_n C e_X8_cab_41 2 rfl rfl ?_
        refine MF.callVP (As := [.int x1, .int x2]) C (R_X8_nameIn hD x1 x2 s8) m_X8_nameIn k_X8_179 kO_70 rfl (by decide) e_X8_cab_42 rfl rfl (Nat.le_of_ble_eq_true rfl) (fun v9 => ?_)
        refine MF.iload_n C e_X8_cab_45 2 rfl rfl ?_
        refine MF.iload_n C e_X8_cab_46 3 rfl rfl ?_
        refine MF.join (fun j : Int32 → Option (Int32 × Sg) => ∀ (a10 : Int32), MF l E X (fun q : Int32 × Sg => QI E X q.1 q.2) (j a10) s8 57 [] [.int a10, .int v9, .ref (ead E 70)]) ?_ (fun j11 hj11 => ?_)
        · intro a10
          refine MF.callVP (As := [.int v9, .int a10]) C (R_X8_whichIn hD v9 a10 s8) m_X8_whichIn k_X8_182 kO_70 rfl (by decide) e_X8_cab_57 rfl rfl (Nat.le_of_ble_eq_true rfl) (fun v12 => ?_)
          refine MF.callSP (As := [.int v12]) C (R_X8_first hD v12 s8) m_X8_first k_X8_185 (by decide) e_X8_cab_60 rfl rfl (Nat.le_of_ble_eq_true rfl) (fun v13 => ?_)
          exact MF.iret C e_X8_cab_63
        refine MF.icmp_ge (tgt := 54) C e_X8_cab_47 (by decide) (fun _ => ?_) (fun _ => ?_)
        · refine MF.iload_n C e_X8_cab_54 2 rfl rfl ?_
          refine MF.iload_n C e_X8_cab_55 3 rfl rfl ?_
          refine MF.isub C e_X8_cab_56 ?_
          refine MF.sub [] rfl ?_
          exact hj11 (x2 - x3)
        · refine MF.iconst (v := (nI 0)) C e_X8_cab_50 rfl ?_
          refine MF.goto (tgt := 57) C e_X8_cab_51 (by decide) ?_
          refine MF.sub [] rfl ?_
          exact hj11 (nI 0)
      · refine MF.aload_n C e_X8_cab_27 0 rfl rfl ?_
        refine MF.bipush (v := (-2 : Int32)) C e_X8_cab_28 (by decide) ?_
        refine MF.callVI (As := [.int (-2 : Int32)]) C (R_X8_bad hD (-2 : Int32) s) m_X8_bad k_X8_88 kO_70 rfl (by decide) e_X8_cab_30 rfl rfl (Nat.le_of_ble_eq_true rfl) (fun v14 s15 => ?_)
        exact MF.iret C e_X8_cab_33
theorem e_X8_find_0 : Dc cX8_find 0 (.aload_n 0) 1 1 := ⟨by decide +kernel, rfl⟩
theorem e_X8_find_1 : Dc cX8_find 1 (.iload_n 1) 1 2 := ⟨by decide +kernel, rfl⟩
theorem e_X8_find_2 : Dc cX8_find 2 (.invokevirtual 188) 3 5 := ⟨by decide +kernel, rfl⟩
theorem e_X8_find_5 : Dc cX8_find 5 (.ifCond .eq 13) 3 8 := ⟨by decide +kernel, rfl⟩
theorem e_X8_find_8 : Dc cX8_find 8 (.iload_n 2) 1 9 := ⟨by decide +kernel, rfl⟩
theorem e_X8_find_9 : Dc cX8_find 9 (.i2l) 1 10 := ⟨by decide +kernel, rfl⟩
theorem e_X8_find_10 : Dc cX8_find 10 (.lconst 0) 1 11 := ⟨by decide +kernel, rfl⟩
theorem e_X8_find_11 : Dc cX8_find 11 (.lconst 1) 1 12 := ⟨by decide +kernel, rfl⟩
theorem e_X8_find_12 : Dc cX8_find 12 (.invokestatic 75) 3 15 := ⟨by decide +kernel, rfl⟩
theorem e_X8_find_15 : Dc cX8_find 15 (.ifCond .ne 10) 3 18 := ⟨by decide +kernel, rfl⟩
theorem e_X8_find_18 : Dc cX8_find 18 (.aload_n 0) 1 19 := ⟨by decide +kernel, rfl⟩
theorem e_X8_find_19 : Dc cX8_find 19 (.bipush (-2)) 2 21 := ⟨by decide +kernel, rfl⟩
theorem e_X8_find_21 : Dc cX8_find 21 (.invokevirtual 88) 3 24 := ⟨by decide +kernel, rfl⟩
theorem e_X8_find_24 : Dc cX8_find 24 (.ireturn) 1 25 := ⟨by decide +kernel, rfl⟩
theorem e_X8_find_25 : Dc cX8_find 25 (.iconst 0) 1 26 := ⟨by decide +kernel, rfl⟩
theorem e_X8_find_26 : Dc cX8_find 26 (.istore_n 3) 1 27 := ⟨by decide +kernel, rfl⟩
theorem e_X8_find_27 : Dc cX8_find 27 (.ldc 191) 2 29 := ⟨by decide +kernel, rfl⟩
theorem e_X8_find_29 : Dc cX8_find 29 (.istore 4) 2 31 := ⟨by decide +kernel, rfl⟩
theorem e_X8_find_31 : Dc cX8_find 31 (.aload_n 0) 1 32 := ⟨by decide +kernel, rfl⟩
theorem e_X8_find_32 : Dc cX8_find 32 (.invokevirtual 176) 3 35 := ⟨by decide +kernel, rfl⟩
theorem e_X8_find_35 : Dc cX8_find 35 (.iconst 0) 1 36 := ⟨by decide +kernel, rfl⟩
theorem e_X8_find_36 : Dc cX8_find 36 (.istore 5) 2 38 := ⟨by decide +kernel, rfl⟩
theorem e_X8_find_38 : Dc cX8_find 38 (.iload 5) 2 40 := ⟨by decide +kernel, rfl⟩
theorem e_X8_find_40 : Dc cX8_find 40 (.bipush 24) 2 42 := ⟨by decide +kernel, rfl⟩
theorem e_X8_find_42 : Dc cX8_find 42 (.if_icmp .ge 97) 3 45 := ⟨by decide +kernel, rfl⟩
theorem e_X8_find_45 : Dc cX8_find 45 (.iconst 0) 1 46 := ⟨by decide +kernel, rfl⟩
theorem e_X8_find_46 : Dc cX8_find 46 (.istore 6) 2 48 := ⟨by decide +kernel, rfl⟩
theorem e_X8_find_48 : Dc cX8_find 48 (.iconst 0) 1 49 := ⟨by decide +kernel, rfl⟩
theorem e_X8_find_49 : Dc cX8_find 49 (.istore 7) 2 51 := ⟨by decide +kernel, rfl⟩
theorem e_X8_find_51 : Dc cX8_find 51 (.iload 7) 2 53 := ⟨by decide +kernel, rfl⟩
theorem e_X8_find_53 : Dc cX8_find 53 (.aload_n 0) 1 54 := ⟨by decide +kernel, rfl⟩
theorem e_X8_find_54 : Dc cX8_find 54 (.invokevirtual 71) 3 57 := ⟨by decide +kernel, rfl⟩
theorem e_X8_find_57 : Dc cX8_find 57 (.if_icmp .ge 46) 3 60 := ⟨by decide +kernel, rfl⟩
theorem e_X8_find_60 : Dc cX8_find 60 (.aload_n 0) 1 61 := ⟨by decide +kernel, rfl⟩
theorem e_X8_find_61 : Dc cX8_find 61 (.aload_n 0) 1 62 := ⟨by decide +kernel, rfl⟩
theorem e_X8_find_62 : Dc cX8_find 62 (.iload 7) 2 64 := ⟨by decide +kernel, rfl⟩
theorem e_X8_find_64 : Dc cX8_find 64 (.iload 5) 2 66 := ⟨by decide +kernel, rfl⟩
theorem e_X8_find_66 : Dc cX8_find 66 (.invokevirtual 179) 3 69 := ⟨by decide +kernel, rfl⟩
theorem e_X8_find_69 : Dc cX8_find 69 (.iload 5) 2 71 := ⟨by decide +kernel, rfl⟩
theorem e_X8_find_71 : Dc cX8_find 71 (.invokevirtual 182) 3 74 := ⟨by decide +kernel, rfl⟩
theorem e_X8_find_74 : Dc cX8_find 74 (.iload_n 1) 1 75 := ⟨by decide +kernel, rfl⟩
theorem e_X8_find_75 : Dc cX8_find 75 (.iand) 1 76 := ⟨by decide +kernel, rfl⟩
theorem e_X8_find_76 : Dc cX8_find 76 (.invokestatic 192) 3 79 := ⟨by decide +kernel, rfl⟩
theorem e_X8_find_79 : Dc cX8_find 79 (.istore 8) 2 81 := ⟨by decide +kernel, rfl⟩
theorem e_X8_find_81 : Dc cX8_find 81 (.iload 8) 2 83 := ⟨by decide +kernel, rfl⟩
theorem e_X8_find_83 : Dc cX8_find 83 (.iload 6) 2 85 := ⟨by decide +kernel, rfl⟩
theorem e_X8_find_85 : Dc cX8_find 85 (.if_icmp .le 8) 3 88 := ⟨by decide +kernel, rfl⟩
theorem e_X8_find_88 : Dc cX8_find 88 (.iload 8) 2 90 := ⟨by decide +kernel, rfl⟩
theorem e_X8_find_90 : Dc cX8_find 90 (.goto 5) 3 93 := ⟨by decide +kernel, rfl⟩
theorem e_X8_find_93 : Dc cX8_find 93 (.iload 6) 2 95 := ⟨by decide +kernel, rfl⟩
theorem e_X8_find_95 : Dc cX8_find 95 (.istore 6) 2 97 := ⟨by decide +kernel, rfl⟩
theorem e_X8_find_97 : Dc cX8_find 97 (.iinc 7 1) 3 100 := ⟨by decide +kernel, rfl⟩
theorem e_X8_find_100 : Dc cX8_find 100 (.goto (-49)) 3 103 := ⟨by decide +kernel, rfl⟩
theorem e_X8_find_103 : Dc cX8_find 103 (.iload 6) 2 105 := ⟨by decide +kernel, rfl⟩
theorem e_X8_find_105 : Dc cX8_find 105 (.iload 4) 2 107 := ⟨by decide +kernel, rfl⟩
theorem e_X8_find_107 : Dc cX8_find 107 (.if_icmp .ge 8) 3 110 := ⟨by decide +kernel, rfl⟩
theorem e_X8_find_110 : Dc cX8_find 110 (.iload 5) 2 112 := ⟨by decide +kernel, rfl⟩
theorem e_X8_find_112 : Dc cX8_find 112 (.goto 4) 3 115 := ⟨by decide +kernel, rfl⟩
theorem e_X8_find_115 : Dc cX8_find 115 (.iload_n 3) 1 116 := ⟨by decide +kernel, rfl⟩
theorem e_X8_find_116 : Dc cX8_find 116 (.istore_n 3) 1 117 := ⟨by decide +kernel, rfl⟩
theorem e_X8_find_117 : Dc cX8_find 117 (.iload 6) 2 119 := ⟨by decide +kernel, rfl⟩
theorem e_X8_find_119 : Dc cX8_find 119 (.iload 4) 2 121 := ⟨by decide +kernel, rfl⟩
theorem e_X8_find_121 : Dc cX8_find 121 (.if_icmp .ge 8) 3 124 := ⟨by decide +kernel, rfl⟩
theorem e_X8_find_124 : Dc cX8_find 124 (.iload 6) 2 126 := ⟨by decide +kernel, rfl⟩
theorem e_X8_find_126 : Dc cX8_find 126 (.goto 5) 3 129 := ⟨by decide +kernel, rfl⟩
theorem e_X8_find_129 : Dc cX8_find 129 (.iload 4) 2 131 := ⟨by decide +kernel, rfl⟩
theorem e_X8_find_131 : Dc cX8_find 131 (.istore 4) 2 133 := ⟨by decide +kernel, rfl⟩
theorem e_X8_find_133 : Dc cX8_find 133 (.iinc 5 1) 3 136 := ⟨by decide +kernel, rfl⟩
theorem e_X8_find_136 : Dc cX8_find 136 (.goto (-98)) 3 139 := ⟨by decide +kernel, rfl⟩
theorem e_X8_find_139 : Dc cX8_find 139 (.iload_n 2) 1 140 := ⟨by decide +kernel, rfl⟩
theorem e_X8_find_140 : Dc cX8_find 140 (.ifCond .ne 7) 3 143 := ⟨by decide +kernel, rfl⟩
theorem e_X8_find_143 : Dc cX8_find 143 (.iload_n 3) 1 144 := ⟨by decide +kernel, rfl⟩
theorem e_X8_find_144 : Dc cX8_find 144 (.goto 5) 3 147 := ⟨by decide +kernel, rfl⟩
theorem e_X8_find_147 : Dc cX8_find 147 (.iload 4) 2 149 := ⟨by decide +kernel, rfl⟩
theorem e_X8_find_149 : Dc cX8_find 149 (.ireturn) 1 150 := ⟨by decide +kernel, rfl⟩
set_option maxHeartbeats 4000000 in
set_option maxRecDepth 20000 in
theorem R_X8_find (hD : DD E) (x1 : Int32) (x2 : Int32) (s : Sg) : ∀ v τ, (f_X8_find x1 x2 s) = some (v, τ) → RI l E 6 M_X8_find [.ref (ead E 70), .int x1, .int x2] s v τ := by
  refine ofI hD (by decide +kernel) (Nat.le_of_ble_eq_true rfl) (fun X C => ?_)
  show MF l E X (fun q : Int32 × Sg => QI E X q.1 q.2) (f_X8_find x1 x2 s) s 0 [(0, .ref (ead E 70)), (1, .int x1), (2, .int x2)] []
  unfold f_X8_find
  refine MF.aload_n C e_X8_find_0 0 rfl rfl ?_
  refine MF.iload_n C e_X8_find_1 1 rfl rfl ?_
  refine MF.callVP (As := [.int x1]) C (R_X8_areStreets hD x1 s) m_X8_areStreets k_X8_188 kO_70 rfl (by decide) e_X8_find_2 rfl rfl (Nat.le_of_ble_eq_true rfl) (fun v1 => ?_)
  refine MF.if_eq (tgt := 18) C e_X8_find_5 (by decide) (fun _ => ?_) (fun _ => ?_)
  · refine MF.aload_n C e_X8_find_18 0 rfl rfl ?_
    refine MF.bipush (v := (-2 : Int32)) C e_X8_find_19 (by decide) ?_
    refine MF.callVI (As := [.int (-2 : Int32)]) C (R_X8_bad hD (-2 : Int32) s) m_X8_bad k_X8_88 kO_70 rfl (by decide) e_X8_find_21 rfl rfl (Nat.le_of_ble_eq_true rfl) (fun v2 s3 => ?_)
    exact MF.iret C e_X8_find_24
  · refine MF.iload_n C e_X8_find_8 2 rfl rfl ?_
    refine MF.i2l C e_X8_find_9 ?_
    refine MF.lconst (v := (0 : Int64)) C e_X8_find_10 (by decide) ?_
    refine MF.lconst (v := (1 : Int64)) C e_X8_find_11 (by decide) ?_
    refine MF.callSP (As := [.long (Int32.toInt64 x2), .long (0 : Int64), .long (1 : Int64)]) C (R_X8_in hD (Int32.toInt64 x2) (0 : Int64) (1 : Int64) s) m_X8_in k_X8_75 (by decide) e_X8_find_12 rfl rfl (Nat.le_of_ble_eq_true rfl) (fun v4 => ?_)
    refine MF.if_ne (tgt := 25) C e_X8_find_15 (by decide) (fun _ => ?_) (fun _ => ?_)
    · refine MF.iconst (v := (nI 0)) C e_X8_find_25 rfl ?_
      refine MF.istore_n (lv' := [(0, .ref (ead E 70)), (1, .int x1), (2, .int x2), (3, .int (nI 0))]) C e_X8_find_26 (by decide) rfl ?_
      refine MF.ldc C e_X8_find_27 t_X8_191 ?_
      refine MF.istore (lv' := [(0, .ref (ead E 70)), (1, .int x1), (2, .int x2), (3, .int (nI 0)), (4, .int (nI 1000000))]) C e_X8_find_29 (by decide) rfl ?_
      refine MF.aload_n C e_X8_find_31 0 rfl rfl ?_
      refine MF.callVU (As := []) C (R_X8_runAll hD s) m_X8_runAll k_X8_176 kO_70 rfl (by decide) e_X8_find_32 rfl rfl (Nat.le_of_ble_eq_true rfl) (fun s5 => ?_)
      refine MF.iconst (v := (nI 0)) C e_X8_find_35 rfl ?_
      refine MF.istore (lv' := [(0, .ref (ead E 70)), (1, .int x1), (2, .int x2), (3, .int (nI 0)), (4, .int (nI 1000000)), (5, .int (nI 0))]) C e_X8_find_36 (by decide) rfl ?_
      refine MF.join (fun j : Int32 → Int32 → Option (Int32 × Sg) => ∀ (a6 : Int32) (a7 : Int32), MF l E X (fun q : Int32 × Sg => QI E X q.1 q.2) (j a6 a7) s5 139 [(2, .int x2), (3, .int a6), (4, .int a7)] []) ?_ (fun j8 hj8 => ?_)
      · intro a6 a7
        refine MF.iload_n C e_X8_find_139 0 rfl rfl ?_
        refine MF.if_ne (tgt := 147) C e_X8_find_140 (by decide) (fun _ => ?_) (fun _ => ?_)
        · refine MF.iload C e_X8_find_147 2 rfl ?_
          exact MF.iret C e_X8_find_149
        · refine MF.iload_n C e_X8_find_143 1 rfl rfl ?_
          refine MF.goto (tgt := 149) C e_X8_find_144 (by decide) ?_
          exact MF.iret C e_X8_find_149
      refine MF.loop3 (fun i9 i10 i11 => s5) (fun i9 i10 i11 => [(0, .ref (ead E 70)), (1, .int x1), (2, .int x2), (3, .int i9), (4, .int i10), (5, .int i11)]) (fun self12 hself12 i9 i10 i11 => ?_) fu (nI 0) (nI 1000000) (nI 0)
      unfold b_X8_find_38
      refine MF.iload C e_X8_find_38 5 rfl ?_
      refine MF.bipush (v := (nI 24)) C e_X8_find_40 (by decide) ?_
      refine MF.icmp_ge (tgt := 139) C e_X8_find_42 (by decide) (fun _ => ?_) (fun _ => ?_)
      · refine MF.sub [2, 3, 4] rfl ?_
        exact hj8 i9 i10
      · refine MF.iconst (v := (nI 0)) C e_X8_find_45 rfl ?_
        refine MF.istore (lv' := [(0, .ref (ead E 70)), (1, .int x1), (2, .int x2), (3, .int i9), (4, .int i10), (5, .int i11), (6, .int (nI 0))]) C e_X8_find_46 (by decide) rfl ?_
        refine MF.iconst (v := (nI 0)) C e_X8_find_48 rfl ?_
        refine MF.istore (lv' := [(0, .ref (ead E 70)), (1, .int x1), (2, .int x2), (3, .int i9), (4, .int i10), (5, .int i11), (6, .int (nI 0)), (7, .int (nI 0))]) C e_X8_find_49 (by decide) rfl ?_
        refine MF.join (fun j : Int32 → Option (Int32 × Sg) => ∀ (a13 : Int32), MF l E X (fun q : Int32 × Sg => QI E X q.1 q.2) (j a13) s5 103 [(0, .ref (ead E 70)), (1, .int x1), (2, .int x2), (3, .int i9), (4, .int i10), (5, .int i11), (6, .int a13)] []) ?_ (fun j14 hj14 => ?_)
        · intro a13
          refine MF.iload C e_X8_find_103 6 rfl ?_
          refine MF.iload C e_X8_find_105 4 rfl ?_
          refine MF.join (fun j : Int32 → Option (Int32 × Sg) => ∀ (a15 : Int32), MF l E X (fun q : Int32 × Sg => QI E X q.1 q.2) (j a15) s5 116 [(0, .ref (ead E 70)), (1, .int x1), (2, .int x2), (4, .int i10), (5, .int i11), (6, .int a13)] [.int a15]) ?_ (fun j16 hj16 => ?_)
          · intro a15
            refine MF.istore_n (lv' := [(0, .ref (ead E 70)), (1, .int x1), (2, .int x2), (3, .int a15), (4, .int i10), (5, .int i11), (6, .int a13)]) C e_X8_find_116 (by decide) rfl ?_
            refine MF.iload C e_X8_find_117 6 rfl ?_
            refine MF.iload C e_X8_find_119 4 rfl ?_
            refine MF.join (fun j : Int32 → Option (Int32 × Sg) => ∀ (a17 : Int32), MF l E X (fun q : Int32 × Sg => QI E X q.1 q.2) (j a17) s5 131 [(0, .ref (ead E 70)), (1, .int x1), (2, .int x2), (3, .int a15), (5, .int i11)] [.int a17]) ?_ (fun j18 hj18 => ?_)
            · intro a17
              refine MF.istore (lv' := [(0, .ref (ead E 70)), (1, .int x1), (2, .int x2), (3, .int a15), (4, .int a17), (5, .int i11)]) C e_X8_find_131 (by decide) rfl ?_
              refine MF.iinc (v := (nI 1)) (lv' := [(0, .ref (ead E 70)), (1, .int x1), (2, .int x2), (3, .int a15), (4, .int a17), (5, .int (i11 + (nI 1)))]) C e_X8_find_133 5 rfl rfl (by decide) rfl ?_
              refine MF.goto (tgt := 38) C e_X8_find_136 (by decide) ?_
              exact hself12 a15 a17 (i11 + (nI 1))
            refine MF.icmp_ge (tgt := 129) C e_X8_find_121 (by decide) (fun _ => ?_) (fun _ => ?_)
            · refine MF.iload C e_X8_find_129 4 rfl ?_
              refine MF.sub [0, 1, 2, 3, 5] rfl ?_
              exact hj18 i10
            · refine MF.iload C e_X8_find_124 6 rfl ?_
              refine MF.goto (tgt := 131) C e_X8_find_126 (by decide) ?_
              refine MF.sub [0, 1, 2, 3, 5] rfl ?_
              exact hj18 a13
          refine MF.icmp_ge (tgt := 115) C e_X8_find_107 (by decide) (fun _ => ?_) (fun _ => ?_)
          · refine MF.iload_n C e_X8_find_115 3 rfl rfl ?_
            refine MF.sub [0, 1, 2, 4, 5, 6] rfl ?_
            exact hj16 i9
          · refine MF.iload C e_X8_find_110 5 rfl ?_
            refine MF.goto (tgt := 116) C e_X8_find_112 (by decide) ?_
            refine MF.sub [0, 1, 2, 4, 5, 6] rfl ?_
            exact hj16 i11
        refine MF.loop2 (fun i19 i20 => s5) (fun i19 i20 => [(0, .ref (ead E 70)), (1, .int x1), (2, .int x2), (3, .int i9), (4, .int i10), (5, .int i11), (6, .int i19), (7, .int i20)]) (fun self21 hself21 i19 i20 => ?_) fu (nI 0) (nI 0)
        unfold b_X8_find_51
        refine MF.iload C e_X8_find_51 7 rfl ?_
        refine MF.aload_n C e_X8_find_53 0 rfl rfl ?_
        refine MF.callVP (As := []) C (R_X8_streets hD s5) m_X8_streets k_X8_71 kO_70 rfl (by decide) e_X8_find_54 rfl rfl (Nat.le_of_ble_eq_true rfl) (fun v22 => ?_)
        refine MF.icmp_ge (tgt := 103) C e_X8_find_57 (by decide) (fun _ => ?_) (fun _ => ?_)
        · refine MF.sub [0, 1, 2, 3, 4, 5, 6] rfl ?_
          exact hj14 i19
        · refine MF.aload_n C e_X8_find_60 0 rfl rfl ?_
          refine MF.aload_n C e_X8_find_61 0 rfl rfl ?_
          refine MF.iload C e_X8_find_62 7 rfl ?_
          refine MF.iload C e_X8_find_64 5 rfl ?_
          refine MF.callVP (As := [.int i20, .int i11]) C (R_X8_nameIn hD i20 i11 s5) m_X8_nameIn k_X8_179 kO_70 rfl (by decide) e_X8_find_66 rfl rfl (Nat.le_of_ble_eq_true rfl) (fun v23 => ?_)
          refine MF.iload C e_X8_find_69 5 rfl ?_
          refine MF.callVP (As := [.int v23, .int i11]) C (R_X8_whichIn hD v23 i11 s5) m_X8_whichIn k_X8_182 kO_70 rfl (by decide) e_X8_find_71 rfl rfl (Nat.le_of_ble_eq_true rfl) (fun v24 => ?_)
          refine MF.iload_n C e_X8_find_74 1 rfl rfl ?_
          refine MF.iand C e_X8_find_75 ?_
          refine MF.callSP (As := [.int (v24 &&& x1)]) C (R_X8_bits hD (v24 &&& x1) s5) m_X8_bits k_X8_192 (by decide) e_X8_find_76 rfl rfl (Nat.le_of_ble_eq_true rfl) (fun v25 => ?_)
          refine MF.istore (lv' := [(0, .ref (ead E 70)), (1, .int x1), (2, .int x2), (3, .int i9), (4, .int i10), (5, .int i11), (6, .int i19), (7, .int i20), (8, .int v25)]) C e_X8_find_79 (by decide) rfl ?_
          refine MF.iload C e_X8_find_81 8 rfl ?_
          refine MF.iload C e_X8_find_83 6 rfl ?_
          refine MF.join (fun j : Int32 → Option (Int32 × Sg) => ∀ (a26 : Int32), MF l E X (fun q : Int32 × Sg => QI E X q.1 q.2) (j a26) s5 95 [(0, .ref (ead E 70)), (1, .int x1), (2, .int x2), (3, .int i9), (4, .int i10), (5, .int i11), (7, .int i20)] [.int a26]) ?_ (fun j27 hj27 => ?_)
          · intro a26
            refine MF.istore (lv' := [(0, .ref (ead E 70)), (1, .int x1), (2, .int x2), (3, .int i9), (4, .int i10), (5, .int i11), (6, .int a26), (7, .int i20)]) C e_X8_find_95 (by decide) rfl ?_
            refine MF.iinc (v := (nI 1)) (lv' := [(0, .ref (ead E 70)), (1, .int x1), (2, .int x2), (3, .int i9), (4, .int i10), (5, .int i11), (6, .int a26), (7, .int (i20 + (nI 1)))]) C e_X8_find_97 7 rfl rfl (by decide) rfl ?_
            refine MF.goto (tgt := 51) C e_X8_find_100 (by decide) ?_
            exact hself21 a26 (i20 + (nI 1))
          refine MF.icmp_le (tgt := 93) C e_X8_find_85 (by decide) (fun _ => ?_) (fun _ => ?_)
          · refine MF.iload C e_X8_find_93 6 rfl ?_
            refine MF.sub [0, 1, 2, 3, 4, 5, 7] rfl ?_
            exact hj27 i19
          · refine MF.iload C e_X8_find_88 8 rfl ?_
            refine MF.goto (tgt := 95) C e_X8_find_90 (by decide) ?_
            refine MF.sub [0, 1, 2, 3, 4, 5, 7] rfl ?_
            exact hj27 v25
    · refine MF.aload_n C e_X8_find_18 0 rfl rfl ?_
      refine MF.bipush (v := (-2 : Int32)) C e_X8_find_19 (by decide) ?_
      refine MF.callVI (As := [.int (-2 : Int32)]) C (R_X8_bad hD (-2 : Int32) s) m_X8_bad k_X8_88 kO_70 rfl (by decide) e_X8_find_21 rfl rfl (Nat.le_of_ble_eq_true rfl) (fun v28 s29 => ?_)
      exact MF.iret C e_X8_find_24
theorem e_X8_stageOne_0 : Dc cX8_stageOne 0 (.aload_n 0) 1 1 := ⟨by decide +kernel, rfl⟩
theorem e_X8_stageOne_1 : Dc cX8_stageOne 1 (.getfield 44) 3 4 := ⟨by decide +kernel, rfl⟩
theorem e_X8_stageOne_4 : Dc cX8_stageOne 4 (.iload_n 1) 1 5 := ⟨by decide +kernel, rfl⟩
theorem e_X8_stageOne_5 : Dc cX8_stageOne 5 (.iload_n 2) 1 6 := ⟨by decide +kernel, rfl⟩
theorem e_X8_stageOne_6 : Dc cX8_stageOne 6 (.iastore) 1 7 := ⟨by decide +kernel, rfl⟩
theorem e_X8_stageOne_7 : Dc cX8_stageOne 7 (.aload_n 0) 1 8 := ⟨by decide +kernel, rfl⟩
theorem e_X8_stageOne_8 : Dc cX8_stageOne 8 (.getfield 47) 3 11 := ⟨by decide +kernel, rfl⟩
theorem e_X8_stageOne_11 : Dc cX8_stageOne 11 (.iload_n 1) 1 12 := ⟨by decide +kernel, rfl⟩
theorem e_X8_stageOne_12 : Dc cX8_stageOne 12 (.iload_n 3) 1 13 := ⟨by decide +kernel, rfl⟩
theorem e_X8_stageOne_13 : Dc cX8_stageOne 13 (.iastore) 1 14 := ⟨by decide +kernel, rfl⟩
theorem e_X8_stageOne_14 : Dc cX8_stageOne 14 (.aload_n 0) 1 15 := ⟨by decide +kernel, rfl⟩
theorem e_X8_stageOne_15 : Dc cX8_stageOne 15 (.getfield 50) 3 18 := ⟨by decide +kernel, rfl⟩
theorem e_X8_stageOne_18 : Dc cX8_stageOne 18 (.iload_n 1) 1 19 := ⟨by decide +kernel, rfl⟩
theorem e_X8_stageOne_19 : Dc cX8_stageOne 19 (.iload 4) 2 21 := ⟨by decide +kernel, rfl⟩
theorem e_X8_stageOne_21 : Dc cX8_stageOne 21 (.iastore) 1 22 := ⟨by decide +kernel, rfl⟩
theorem e_X8_stageOne_22 : Dc cX8_stageOne 22 (.return_) 1 23 := ⟨by decide +kernel, rfl⟩
set_option maxHeartbeats 4000000 in
set_option maxRecDepth 20000 in
theorem R_X8_stageOne (hD : DD E) (x1 : Int32) (x2 : Int32) (x3 : Int32) (x4 : Int32) (s : Sg) : ∀ τ, (f_X8_stageOne x1 x2 x3 x4 s) = some τ → RV l E 0 M_X8_stageOne [.ref (ead E 70), .int x1, .int x2, .int x3, .int x4] s τ := by
  refine ofU hD (by decide +kernel) (Nat.le_of_ble_eq_true rfl) (fun X C => ?_)
  show MF l E X (fun q : Sg => QV E X q) (f_X8_stageOne x1 x2 x3 x4 s) s 0 [(0, .ref (ead E 70)), (1, .int x1), (2, .int x2), (3, .int x3), (4, .int x4)] []
  unfold f_X8_stageOne
  refine MF.aload_n C e_X8_stageOne_0 0 rfl rfl ?_
  refine MF.getR (j := 82) C cf_X8 l_X8_44 e_X8_stageOne_1 kF_70_12 ?_
  refine MF.iload_n C e_X8_stageOne_4 1 rfl rfl ?_
  refine MF.iload_n C e_X8_stageOne_5 2 rfl rfl ?_
  refine MF.iast C e_X8_stageOne_6 kA_82 (fun s1 => ?_)
  refine MF.aload_n C e_X8_stageOne_7 0 rfl rfl ?_
  refine MF.getR (j := 83) C cf_X8 l_X8_47 e_X8_stageOne_8 kF_70_13 ?_
  refine MF.iload_n C e_X8_stageOne_11 1 rfl rfl ?_
  refine MF.iload_n C e_X8_stageOne_12 3 rfl rfl ?_
  refine MF.iast C e_X8_stageOne_13 kA_83 (fun s2 => ?_)
  refine MF.aload_n C e_X8_stageOne_14 0 rfl rfl ?_
  refine MF.getR (j := 84) C cf_X8 l_X8_50 e_X8_stageOne_15 kF_70_14 ?_
  refine MF.iload_n C e_X8_stageOne_18 1 rfl rfl ?_
  refine MF.iload C e_X8_stageOne_19 4 rfl ?_
  refine MF.iast C e_X8_stageOne_21 kA_84 (fun s3 => ?_)
  exact MF.vret C e_X8_stageOne_22
theorem e_X8_gives_0 : Dc cX8_gives 0 (.aload_n 0) 1 1 := ⟨by decide +kernel, rfl⟩
theorem e_X8_gives_1 : Dc cX8_gives 1 (.iload_n 1) 1 2 := ⟨by decide +kernel, rfl⟩
theorem e_X8_gives_2 : Dc cX8_gives 2 (.putfield 165) 3 5 := ⟨by decide +kernel, rfl⟩
theorem e_X8_gives_5 : Dc cX8_gives 5 (.aload_n 0) 1 6 := ⟨by decide +kernel, rfl⟩
theorem e_X8_gives_6 : Dc cX8_gives 6 (.iconst 0) 1 7 := ⟨by decide +kernel, rfl⟩
theorem e_X8_gives_7 : Dc cX8_gives 7 (.iload 4) 2 9 := ⟨by decide +kernel, rfl⟩
theorem e_X8_gives_9 : Dc cX8_gives 9 (.iload_n 2) 1 10 := ⟨by decide +kernel, rfl⟩
theorem e_X8_gives_10 : Dc cX8_gives 10 (.iload 5) 2 12 := ⟨by decide +kernel, rfl⟩
theorem e_X8_gives_12 : Dc cX8_gives 12 (.invokevirtual 195) 3 15 := ⟨by decide +kernel, rfl⟩
theorem e_X8_gives_15 : Dc cX8_gives 15 (.aload_n 0) 1 16 := ⟨by decide +kernel, rfl⟩
theorem e_X8_gives_16 : Dc cX8_gives 16 (.iconst 1) 1 17 := ⟨by decide +kernel, rfl⟩
theorem e_X8_gives_17 : Dc cX8_gives 17 (.iload 4) 2 19 := ⟨by decide +kernel, rfl⟩
theorem e_X8_gives_19 : Dc cX8_gives 19 (.iload_n 3) 1 20 := ⟨by decide +kernel, rfl⟩
theorem e_X8_gives_20 : Dc cX8_gives 20 (.iload 5) 2 22 := ⟨by decide +kernel, rfl⟩
theorem e_X8_gives_22 : Dc cX8_gives 22 (.invokevirtual 195) 3 25 := ⟨by decide +kernel, rfl⟩
theorem e_X8_gives_25 : Dc cX8_gives 25 (.aload_n 0) 1 26 := ⟨by decide +kernel, rfl⟩
theorem e_X8_gives_26 : Dc cX8_gives 26 (.aload_n 0) 1 27 := ⟨by decide +kernel, rfl⟩
theorem e_X8_gives_27 : Dc cX8_gives 27 (.invokevirtual 169) 3 30 := ⟨by decide +kernel, rfl⟩
theorem e_X8_gives_30 : Dc cX8_gives 30 (.invokevirtual 172) 3 33 := ⟨by decide +kernel, rfl⟩
theorem e_X8_gives_33 : Dc cX8_gives 33 (.aload_n 0) 1 34 := ⟨by decide +kernel, rfl⟩
theorem e_X8_gives_34 : Dc cX8_gives 34 (.getfield 23) 3 37 := ⟨by decide +kernel, rfl⟩
theorem e_X8_gives_37 : Dc cX8_gives 37 (.bipush 7) 2 39 := ⟨by decide +kernel, rfl⟩
theorem e_X8_gives_39 : Dc cX8_gives 39 (.iload 6) 2 41 := ⟨by decide +kernel, rfl⟩
theorem e_X8_gives_41 : Dc cX8_gives 41 (.imul) 1 42 := ⟨by decide +kernel, rfl⟩
theorem e_X8_gives_42 : Dc cX8_gives 42 (.iload 4) 2 44 := ⟨by decide +kernel, rfl⟩
theorem e_X8_gives_44 : Dc cX8_gives 44 (.iadd) 1 45 := ⟨by decide +kernel, rfl⟩
theorem e_X8_gives_45 : Dc cX8_gives 45 (.iaload) 1 46 := ⟨by decide +kernel, rfl⟩
theorem e_X8_gives_46 : Dc cX8_gives 46 (.iload 5) 2 48 := ⟨by decide +kernel, rfl⟩
theorem e_X8_gives_48 : Dc cX8_gives 48 (.if_icmp .ne 7) 3 51 := ⟨by decide +kernel, rfl⟩
theorem e_X8_gives_51 : Dc cX8_gives 51 (.iconst 1) 1 52 := ⟨by decide +kernel, rfl⟩
theorem e_X8_gives_52 : Dc cX8_gives 52 (.goto 4) 3 55 := ⟨by decide +kernel, rfl⟩
theorem e_X8_gives_55 : Dc cX8_gives 55 (.iconst 0) 1 56 := ⟨by decide +kernel, rfl⟩
theorem e_X8_gives_56 : Dc cX8_gives 56 (.istore 7) 2 58 := ⟨by decide +kernel, rfl⟩
theorem e_X8_gives_58 : Dc cX8_gives 58 (.iload 7) 2 60 := ⟨by decide +kernel, rfl⟩
theorem e_X8_gives_60 : Dc cX8_gives 60 (.ifCond .eq 18) 3 63 := ⟨by decide +kernel, rfl⟩
theorem e_X8_gives_63 : Dc cX8_gives 63 (.aload_n 0) 1 64 := ⟨by decide +kernel, rfl⟩
theorem e_X8_gives_64 : Dc cX8_gives 64 (.iload_n 1) 1 65 := ⟨by decide +kernel, rfl⟩
theorem e_X8_gives_65 : Dc cX8_gives 65 (.putfield 199) 3 68 := ⟨by decide +kernel, rfl⟩
theorem e_X8_gives_68 : Dc cX8_gives 68 (.aload_n 0) 1 69 := ⟨by decide +kernel, rfl⟩
theorem e_X8_gives_69 : Dc cX8_gives 69 (.iload_n 2) 1 70 := ⟨by decide +kernel, rfl⟩
theorem e_X8_gives_70 : Dc cX8_gives 70 (.putfield 202) 3 73 := ⟨by decide +kernel, rfl⟩
theorem e_X8_gives_73 : Dc cX8_gives 73 (.aload_n 0) 1 74 := ⟨by decide +kernel, rfl⟩
theorem e_X8_gives_74 : Dc cX8_gives 74 (.iload_n 3) 1 75 := ⟨by decide +kernel, rfl⟩
theorem e_X8_gives_75 : Dc cX8_gives 75 (.putfield 205) 3 78 := ⟨by decide +kernel, rfl⟩
theorem e_X8_gives_78 : Dc cX8_gives 78 (.iload 7) 2 80 := ⟨by decide +kernel, rfl⟩
theorem e_X8_gives_80 : Dc cX8_gives 80 (.ireturn) 1 81 := ⟨by decide +kernel, rfl⟩
set_option maxHeartbeats 4000000 in
set_option maxRecDepth 20000 in
theorem R_X8_gives (hD : DD E) (x1 : Int32) (x2 : Int32) (x3 : Int32) (x4 : Int32) (x5 : Int32) (x6 : Int32) (s : Sg) : ∀ v τ, (f_X8_gives x1 x2 x3 x4 x5 x6 s) = some (v, τ) → RI l E 5 M_X8_gives [.ref (ead E 70), .int x1, .int x2, .int x3, .int x4, .int x5, .int x6] s v τ := by
  refine ofI hD (by decide +kernel) (Nat.le_of_ble_eq_true rfl) (fun X C => ?_)
  show MF l E X (fun q : Int32 × Sg => QI E X q.1 q.2) (f_X8_gives x1 x2 x3 x4 x5 x6 s) s 0 [(0, .ref (ead E 70)), (1, .int x1), (2, .int x2), (3, .int x3), (4, .int x4), (5, .int x5), (6, .int x6)] []
  unfold f_X8_gives
  refine MF.aload_n C e_X8_gives_0 0 rfl rfl ?_
  refine MF.iload_n C e_X8_gives_1 1 rfl rfl ?_
  refine MF.put C cf_X8 l_X8_165 p_X8_11 e_X8_gives_2 kF_70_11 rfl ?_
  refine MF.nmS (fun s1 => ?_)
  refine MF.aload_n C e_X8_gives_5 0 rfl rfl ?_
  refine MF.iconst (v := (nI 0)) C e_X8_gives_6 rfl ?_
  refine MF.iload C e_X8_gives_7 4 rfl ?_
  refine MF.iload_n C e_X8_gives_9 2 rfl rfl ?_
  refine MF.iload C e_X8_gives_10 5 rfl ?_
  refine MF.callVU (As := [.int (nI 0), .int x4, .int x2, .int x5]) C (R_X8_stageOne hD (nI 0) x4 x2 x5 s1) m_X8_stageOne k_X8_195 kO_70 rfl (by decide) e_X8_gives_12 rfl rfl (Nat.le_of_ble_eq_true rfl) (fun s2 => ?_)
  refine MF.aload_n C e_X8_gives_15 0 rfl rfl ?_
  refine MF.iconst (v := (nI 1)) C e_X8_gives_16 rfl ?_
  refine MF.iload C e_X8_gives_17 4 rfl ?_
  refine MF.iload_n C e_X8_gives_19 3 rfl rfl ?_
  refine MF.iload C e_X8_gives_20 5 rfl ?_
  refine MF.callVU (As := [.int (nI 1), .int x4, .int x3, .int x5]) C (R_X8_stageOne hD (nI 1) x4 x3 x5 s2) m_X8_stageOne k_X8_195 kO_70 rfl (by decide) e_X8_gives_22 rfl rfl (Nat.le_of_ble_eq_true rfl) (fun s3 => ?_)
  refine MF.aload_n C e_X8_gives_25 0 rfl rfl ?_
  refine MF.aload_n C e_X8_gives_26 0 rfl rfl ?_
  refine MF.callVP (As := []) C (R_X8_allEvents hD s3) m_X8_allEvents k_X8_169 kO_70 rfl (by decide) e_X8_gives_27 rfl rfl (Nat.le_of_ble_eq_true rfl) (fun v4 => ?_)
  refine MF.callVU (As := [.int v4]) C (R_X8_run hD v4 s3) m_X8_run k_X8_172 kO_70 rfl (by decide) e_X8_gives_30 rfl rfl (Nat.le_of_ble_eq_true rfl) (fun s5 => ?_)
  refine MF.aload_n C e_X8_gives_33 0 rfl rfl ?_
  refine MF.getR (j := 75) C cf_X8 l_X8_23 e_X8_gives_34 kF_70_4 ?_
  refine MF.bipush (v := (nI 7)) C e_X8_gives_37 (by decide) ?_
  refine MF.iload C e_X8_gives_39 6 rfl ?_
  refine MF.imul C e_X8_gives_41 ?_
  refine MF.iload C e_X8_gives_42 4 rfl ?_
  refine MF.iadd C e_X8_gives_44 ?_
  refine MF.iald C e_X8_gives_45 kA_75 (fun v6 => ?_)
  refine MF.iload C e_X8_gives_46 5 rfl ?_
  refine MF.join (fun j : Int32 → Option (Int32 × Sg) => ∀ (a7 : Int32), MF l E X (fun q : Int32 × Sg => QI E X q.1 q.2) (j a7) s5 56 [(0, .ref (ead E 70)), (1, .int x1), (2, .int x2), (3, .int x3)] [.int a7]) ?_ (fun j8 hj8 => ?_)
  · intro a7
    refine MF.istore (lv' := [(0, .ref (ead E 70)), (1, .int x1), (2, .int x2), (3, .int x3), (7, .int a7)]) C e_X8_gives_56 (by decide) rfl ?_
    refine MF.iload C e_X8_gives_58 4 rfl ?_
    refine MF.if_eq (tgt := 78) C e_X8_gives_60 (by decide) (fun _ => ?_) (fun _ => ?_)
    · refine MF.iload C e_X8_gives_78 4 rfl ?_
      exact MF.nret C e_X8_gives_80 rfl
    · refine MF.aload_n C e_X8_gives_63 0 rfl rfl ?_
      refine MF.iload_n C e_X8_gives_64 1 rfl rfl ?_
      refine MF.put C cf_X8 l_X8_199 p_X8_15 e_X8_gives_65 kF_70_15 rfl ?_
      refine MF.nmS (fun s9 => ?_)
      refine MF.aload_n C e_X8_gives_68 0 rfl rfl ?_
      refine MF.iload_n C e_X8_gives_69 2 rfl rfl ?_
      refine MF.put C cf_X8 l_X8_202 p_X8_16 e_X8_gives_70 kF_70_16 rfl ?_
      refine MF.nmS (fun s10 => ?_)
      refine MF.aload_n C e_X8_gives_73 0 rfl rfl ?_
      refine MF.iload_n C e_X8_gives_74 3 rfl rfl ?_
      refine MF.put C cf_X8 l_X8_205 p_X8_17 e_X8_gives_75 kF_70_17 rfl ?_
      refine MF.nmS (fun s11 => ?_)
      refine MF.iload C e_X8_gives_78 4 rfl ?_
      exact MF.nret C e_X8_gives_80 rfl
  refine MF.icmp_ne (tgt := 55) C e_X8_gives_48 (by decide) (fun _ => ?_) (fun _ => ?_)
  · refine MF.iconst (v := (nI 0)) C e_X8_gives_55 rfl ?_
    refine MF.sub [0, 1, 2, 3] rfl ?_
    exact hj8 (nI 0)
  · refine MF.iconst (v := (nI 1)) C e_X8_gives_51 rfl ?_
    refine MF.goto (tgt := 56) C e_X8_gives_52 (by decide) ?_
    refine MF.sub [0, 1, 2, 3] rfl ?_
    exact hj8 (nI 1)
theorem e_X8_tryStages_0 : Dc cX8_tryStages 0 (.aload_n 0) 1 1 := ⟨by decide +kernel, rfl⟩
theorem e_X8_tryStages_1 : Dc cX8_tryStages 1 (.iconst 0) 1 2 := ⟨by decide +kernel, rfl⟩
theorem e_X8_tryStages_2 : Dc cX8_tryStages 2 (.iconst 0) 1 3 := ⟨by decide +kernel, rfl⟩
theorem e_X8_tryStages_3 : Dc cX8_tryStages 3 (.iconst 0) 1 4 := ⟨by decide +kernel, rfl⟩
theorem e_X8_tryStages_4 : Dc cX8_tryStages 4 (.iload_n 1) 1 5 := ⟨by decide +kernel, rfl⟩
theorem e_X8_tryStages_5 : Dc cX8_tryStages 5 (.iload_n 2) 1 6 := ⟨by decide +kernel, rfl⟩
theorem e_X8_tryStages_6 : Dc cX8_tryStages 6 (.iload_n 3) 1 7 := ⟨by decide +kernel, rfl⟩
theorem e_X8_tryStages_7 : Dc cX8_tryStages 7 (.invokevirtual 208) 3 10 := ⟨by decide +kernel, rfl⟩
theorem e_X8_tryStages_10 : Dc cX8_tryStages 10 (.ifCond .eq 5) 3 13 := ⟨by decide +kernel, rfl⟩
theorem e_X8_tryStages_13 : Dc cX8_tryStages 13 (.iconst 1) 1 14 := ⟨by decide +kernel, rfl⟩
theorem e_X8_tryStages_14 : Dc cX8_tryStages 14 (.ireturn) 1 15 := ⟨by decide +kernel, rfl⟩
theorem e_X8_tryStages_15 : Dc cX8_tryStages 15 (.iconst 0) 1 16 := ⟨by decide +kernel, rfl⟩
theorem e_X8_tryStages_16 : Dc cX8_tryStages 16 (.istore 4) 2 18 := ⟨by decide +kernel, rfl⟩
theorem e_X8_tryStages_18 : Dc cX8_tryStages 18 (.iload 4) 2 20 := ⟨by decide +kernel, rfl⟩
theorem e_X8_tryStages_20 : Dc cX8_tryStages 20 (.iload_n 3) 1 21 := ⟨by decide +kernel, rfl⟩
theorem e_X8_tryStages_21 : Dc cX8_tryStages 21 (.if_icmp .gt 25) 3 24 := ⟨by decide +kernel, rfl⟩
theorem e_X8_tryStages_24 : Dc cX8_tryStages 24 (.aload_n 0) 1 25 := ⟨by decide +kernel, rfl⟩
theorem e_X8_tryStages_25 : Dc cX8_tryStages 25 (.iconst 1) 1 26 := ⟨by decide +kernel, rfl⟩
theorem e_X8_tryStages_26 : Dc cX8_tryStages 26 (.iload 4) 2 28 := ⟨by decide +kernel, rfl⟩
theorem e_X8_tryStages_28 : Dc cX8_tryStages 28 (.iconst 0) 1 29 := ⟨by decide +kernel, rfl⟩
theorem e_X8_tryStages_29 : Dc cX8_tryStages 29 (.iload_n 1) 1 30 := ⟨by decide +kernel, rfl⟩
theorem e_X8_tryStages_30 : Dc cX8_tryStages 30 (.iload_n 2) 1 31 := ⟨by decide +kernel, rfl⟩
theorem e_X8_tryStages_31 : Dc cX8_tryStages 31 (.iload_n 3) 1 32 := ⟨by decide +kernel, rfl⟩
theorem e_X8_tryStages_32 : Dc cX8_tryStages 32 (.invokevirtual 208) 3 35 := ⟨by decide +kernel, rfl⟩
theorem e_X8_tryStages_35 : Dc cX8_tryStages 35 (.ifCond .eq 5) 3 38 := ⟨by decide +kernel, rfl⟩
theorem e_X8_tryStages_38 : Dc cX8_tryStages 38 (.iconst 1) 1 39 := ⟨by decide +kernel, rfl⟩
theorem e_X8_tryStages_39 : Dc cX8_tryStages 39 (.ireturn) 1 40 := ⟨by decide +kernel, rfl⟩
theorem e_X8_tryStages_40 : Dc cX8_tryStages 40 (.iinc 4 1) 3 43 := ⟨by decide +kernel, rfl⟩
theorem e_X8_tryStages_43 : Dc cX8_tryStages 43 (.goto (-25)) 3 46 := ⟨by decide +kernel, rfl⟩
theorem e_X8_tryStages_46 : Dc cX8_tryStages 46 (.iconst 0) 1 47 := ⟨by decide +kernel, rfl⟩
theorem e_X8_tryStages_47 : Dc cX8_tryStages 47 (.istore 4) 2 49 := ⟨by decide +kernel, rfl⟩
theorem e_X8_tryStages_49 : Dc cX8_tryStages 49 (.iload 4) 2 51 := ⟨by decide +kernel, rfl⟩
theorem e_X8_tryStages_51 : Dc cX8_tryStages 51 (.iload_n 3) 1 52 := ⟨by decide +kernel, rfl⟩
theorem e_X8_tryStages_52 : Dc cX8_tryStages 52 (.if_icmp .gt 44) 3 55 := ⟨by decide +kernel, rfl⟩
theorem e_X8_tryStages_55 : Dc cX8_tryStages 55 (.iload 4) 2 57 := ⟨by decide +kernel, rfl⟩
theorem e_X8_tryStages_57 : Dc cX8_tryStages 57 (.iconst 1) 1 58 := ⟨by decide +kernel, rfl⟩
theorem e_X8_tryStages_58 : Dc cX8_tryStages 58 (.iadd) 1 59 := ⟨by decide +kernel, rfl⟩
theorem e_X8_tryStages_59 : Dc cX8_tryStages 59 (.istore 5) 2 61 := ⟨by decide +kernel, rfl⟩
theorem e_X8_tryStages_61 : Dc cX8_tryStages 61 (.iload 5) 2 63 := ⟨by decide +kernel, rfl⟩
theorem e_X8_tryStages_63 : Dc cX8_tryStages 63 (.iload_n 3) 1 64 := ⟨by decide +kernel, rfl⟩
theorem e_X8_tryStages_64 : Dc cX8_tryStages 64 (.if_icmp .gt 26) 3 67 := ⟨by decide +kernel, rfl⟩
theorem e_X8_tryStages_67 : Dc cX8_tryStages 67 (.aload_n 0) 1 68 := ⟨by decide +kernel, rfl⟩
theorem e_X8_tryStages_68 : Dc cX8_tryStages 68 (.iconst 2) 1 69 := ⟨by decide +kernel, rfl⟩
theorem e_X8_tryStages_69 : Dc cX8_tryStages 69 (.iload 4) 2 71 := ⟨by decide +kernel, rfl⟩
theorem e_X8_tryStages_71 : Dc cX8_tryStages 71 (.iload 5) 2 73 := ⟨by decide +kernel, rfl⟩
theorem e_X8_tryStages_73 : Dc cX8_tryStages 73 (.iload_n 1) 1 74 := ⟨by decide +kernel, rfl⟩
theorem e_X8_tryStages_74 : Dc cX8_tryStages 74 (.iload_n 2) 1 75 := ⟨by decide +kernel, rfl⟩
theorem e_X8_tryStages_75 : Dc cX8_tryStages 75 (.iload_n 3) 1 76 := ⟨by decide +kernel, rfl⟩
theorem e_X8_tryStages_76 : Dc cX8_tryStages 76 (.invokevirtual 208) 3 79 := ⟨by decide +kernel, rfl⟩
theorem e_X8_tryStages_79 : Dc cX8_tryStages 79 (.ifCond .eq 5) 3 82 := ⟨by decide +kernel, rfl⟩
theorem e_X8_tryStages_82 : Dc cX8_tryStages 82 (.iconst 1) 1 83 := ⟨by decide +kernel, rfl⟩
theorem e_X8_tryStages_83 : Dc cX8_tryStages 83 (.ireturn) 1 84 := ⟨by decide +kernel, rfl⟩
theorem e_X8_tryStages_84 : Dc cX8_tryStages 84 (.iinc 5 1) 3 87 := ⟨by decide +kernel, rfl⟩
theorem e_X8_tryStages_87 : Dc cX8_tryStages 87 (.goto (-26)) 3 90 := ⟨by decide +kernel, rfl⟩
theorem e_X8_tryStages_90 : Dc cX8_tryStages 90 (.iinc 4 1) 3 93 := ⟨by decide +kernel, rfl⟩
theorem e_X8_tryStages_93 : Dc cX8_tryStages 93 (.goto (-44)) 3 96 := ⟨by decide +kernel, rfl⟩
theorem e_X8_tryStages_96 : Dc cX8_tryStages 96 (.iconst 0) 1 97 := ⟨by decide +kernel, rfl⟩
theorem e_X8_tryStages_97 : Dc cX8_tryStages 97 (.ireturn) 1 98 := ⟨by decide +kernel, rfl⟩
set_option maxHeartbeats 4000000 in
set_option maxRecDepth 20000 in
theorem R_X8_tryStages (hD : DD E) (x1 : Int32) (x2 : Int32) (x3 : Int32) (s : Sg) : ∀ v τ, (f_X8_tryStages x1 x2 x3 s) = some (v, τ) → RI l E 6 M_X8_tryStages [.ref (ead E 70), .int x1, .int x2, .int x3] s v τ := by
  refine ofI hD (by decide +kernel) (Nat.le_of_ble_eq_true rfl) (fun X C => ?_)
  show MF l E X (fun q : Int32 × Sg => QI E X q.1 q.2) (f_X8_tryStages x1 x2 x3 s) s 0 [(0, .ref (ead E 70)), (1, .int x1), (2, .int x2), (3, .int x3)] []
  unfold f_X8_tryStages
  refine MF.aload_n C e_X8_tryStages_0 0 rfl rfl ?_
  refine MF.iconst (v := (nI 0)) C e_X8_tryStages_1 rfl ?_
  refine MF.iconst (v := (nI 0)) C e_X8_tryStages_2 rfl ?_
  refine MF.iconst (v := (nI 0)) C e_X8_tryStages_3 rfl ?_
  refine MF.iload_n C e_X8_tryStages_4 1 rfl rfl ?_
  refine MF.iload_n C e_X8_tryStages_5 2 rfl rfl ?_
  refine MF.iload_n C e_X8_tryStages_6 3 rfl rfl ?_
  refine MF.callVI (As := [.int (nI 0), .int (nI 0), .int (nI 0), .int x1, .int x2, .int x3]) C (R_X8_gives hD (nI 0) (nI 0) (nI 0) x1 x2 x3 s) m_X8_gives k_X8_208 kO_70 rfl (by decide) e_X8_tryStages_7 rfl rfl (Nat.le_of_ble_eq_true rfl) (fun v1 s2 => ?_)
  refine MF.if_eq (tgt := 15) C e_X8_tryStages_10 (by decide) (fun _ => ?_) (fun _ => ?_)
  · refine MF.iconst (v := (nI 0)) C e_X8_tryStages_15 rfl ?_
    refine MF.istore (lv' := [(0, .ref (ead E 70)), (1, .int x1), (2, .int x2), (3, .int x3), (4, .int (nI 0))]) C e_X8_tryStages_16 (by decide) rfl ?_
    refine MF.join (fun j : Sg → Option (Int32 × Sg) => ∀ (s3 : Sg), MF l E X (fun q : Int32 × Sg => QI E X q.1 q.2) (j s3) s3 46 [(0, .ref (ead E 70)), (1, .int x1), (2, .int x2), (3, .int x3)] []) ?_ (fun j4 hj4 => ?_)
    · intro s3
      refine MF.iconst (v := (nI 0)) C e_X8_tryStages_46 rfl ?_
      refine MF.istore (lv' := [(0, .ref (ead E 70)), (1, .int x1), (2, .int x2), (3, .int x3), (4, .int (nI 0))]) C e_X8_tryStages_47 (by decide) rfl ?_
      refine MF.loop2 (fun i5 s6 => s6) (fun i5 s6 => [(0, .ref (ead E 70)), (1, .int x1), (2, .int x2), (3, .int x3), (4, .int i5)]) (fun self7 hself7 i5 s6 => ?_) fu (nI 0) s3
      unfold b_X8_tryStages_49
      refine MF.iload C e_X8_tryStages_49 4 rfl ?_
      refine MF.iload_n C e_X8_tryStages_51 3 rfl rfl ?_
      refine MF.icmp_gt (tgt := 96) C e_X8_tryStages_52 (by decide) (fun _ => ?_) (fun _ => ?_)
      · refine MF.iconst (v := (nI 0)) C e_X8_tryStages_96 rfl ?_
        exact MF.nret C e_X8_tryStages_97 rfl
      · refine MF.iload C e_X8_tryStages_55 4 rfl ?_
        refine MF.iconst (v := (nI 1)) C e_X8_tryStages_57 rfl ?_
        refine MF.iadd C e_X8_tryStages_58 ?_
        refine MF.nmI (fun v8 => ?_)
        refine MF.istore (lv' := [(0, .ref (ead E 70)), (1, .int x1), (2, .int x2), (3, .int x3), (4, .int i5), (5, .int v8)]) C e_X8_tryStages_59 (by decide) rfl ?_
        refine MF.join (fun j : Sg → Option (Int32 × Sg) => ∀ (s9 : Sg), MF l E X (fun q : Int32 × Sg => QI E X q.1 q.2) (j s9) s9 90 [(0, .ref (ead E 70)), (1, .int x1), (2, .int x2), (3, .int x3), (4, .int i5)] []) ?_ (fun j10 hj10 => ?_)
        · intro s9
          refine MF.iinc (v := (nI 1)) (lv' := [(0, .ref (ead E 70)), (1, .int x1), (2, .int x2), (3, .int x3), (4, .int (i5 + (nI 1)))]) C e_X8_tryStages_90 4 rfl rfl (by decide) rfl ?_
          refine MF.goto (tgt := 49) C e_X8_tryStages_93 (by decide) ?_
          exact hself7 (i5 + (nI 1)) s9
        refine MF.loop2 (fun i11 s12 => s12) (fun i11 s12 => [(0, .ref (ead E 70)), (1, .int x1), (2, .int x2), (3, .int x3), (4, .int i5), (5, .int i11)]) (fun self13 hself13 i11 s12 => ?_) fu v8 s6
        unfold b_X8_tryStages_61
        refine MF.iload C e_X8_tryStages_61 5 rfl ?_
        refine MF.iload_n C e_X8_tryStages_63 3 rfl rfl ?_
        refine MF.icmp_gt (tgt := 90) C e_X8_tryStages_64 (by decide) (fun _ => ?_) (fun _ => ?_)
        · refine MF.sub [0, 1, 2, 3, 4] rfl ?_
          exact hj10 s12
        · refine MF.aload_n C e_X8_tryStages_67 0 rfl rfl ?_
          refine MF.iconst (v := (nI 2)) C e_X8_tryStages_68 rfl ?_
          refine MF.iload C e_X8_tryStages_69 4 rfl ?_
          refine MF.iload C e_X8_tryStages_71 5 rfl ?_
          refine MF.iload_n C e_X8_tryStages_73 1 rfl rfl ?_
          refine MF.iload_n C e_X8_tryStages_74 2 rfl rfl ?_
          refine MF.iload_n C e_X8_tryStages_75 3 rfl rfl ?_
          refine MF.callVI (As := [.int (nI 2), .int i5, .int i11, .int x1, .int x2, .int x3]) C (R_X8_gives hD (nI 2) i5 i11 x1 x2 x3 s12) m_X8_gives k_X8_208 kO_70 rfl (by decide) e_X8_tryStages_76 rfl rfl (Nat.le_of_ble_eq_true rfl) (fun v14 s15 => ?_)
          refine MF.if_eq (tgt := 84) C e_X8_tryStages_79 (by decide) (fun _ => ?_) (fun _ => ?_)
          · refine MF.iinc (v := (nI 1)) (lv' := [(0, .ref (ead E 70)), (1, .int x1), (2, .int x2), (3, .int x3), (4, .int i5), (5, .int (i11 + (nI 1)))]) C e_X8_tryStages_84 5 rfl rfl (by decide) rfl ?_
            refine MF.goto (tgt := 61) C e_X8_tryStages_87 (by decide) ?_
            exact hself13 (i11 + (nI 1)) s15
          · refine MF.iconst (v := (nI 1)) C e_X8_tryStages_82 rfl ?_
            exact MF.nret C e_X8_tryStages_83 rfl
    refine MF.loop2 (fun i16 s17 => s17) (fun i16 s17 => [(0, .ref (ead E 70)), (1, .int x1), (2, .int x2), (3, .int x3), (4, .int i16)]) (fun self18 hself18 i16 s17 => ?_) fu (nI 0) s2
    unfold b_X8_tryStages_18
    refine MF.iload C e_X8_tryStages_18 4 rfl ?_
    refine MF.iload_n C e_X8_tryStages_20 3 rfl rfl ?_
    refine MF.icmp_gt (tgt := 46) C e_X8_tryStages_21 (by decide) (fun _ => ?_) (fun _ => ?_)
    · refine MF.sub [0, 1, 2, 3] rfl ?_
      exact hj4 s17
    · refine MF.aload_n C e_X8_tryStages_24 0 rfl rfl ?_
      refine MF.iconst (v := (nI 1)) C e_X8_tryStages_25 rfl ?_
      refine MF.iload C e_X8_tryStages_26 4 rfl ?_
      refine MF.iconst (v := (nI 0)) C e_X8_tryStages_28 rfl ?_
      refine MF.iload_n C e_X8_tryStages_29 1 rfl rfl ?_
      refine MF.iload_n C e_X8_tryStages_30 2 rfl rfl ?_
      refine MF.iload_n C e_X8_tryStages_31 3 rfl rfl ?_
      refine MF.callVI (As := [.int (nI 1), .int i16, .int (nI 0), .int x1, .int x2, .int x3]) C (R_X8_gives hD (nI 1) i16 (nI 0) x1 x2 x3 s17) m_X8_gives k_X8_208 kO_70 rfl (by decide) e_X8_tryStages_32 rfl rfl (Nat.le_of_ble_eq_true rfl) (fun v19 s20 => ?_)
      refine MF.if_eq (tgt := 40) C e_X8_tryStages_35 (by decide) (fun _ => ?_) (fun _ => ?_)
      · refine MF.iinc (v := (nI 1)) (lv' := [(0, .ref (ead E 70)), (1, .int x1), (2, .int x2), (3, .int x3), (4, .int (i16 + (nI 1)))]) C e_X8_tryStages_40 4 rfl rfl (by decide) rfl ?_
        refine MF.goto (tgt := 18) C e_X8_tryStages_43 (by decide) ?_
        exact hself18 (i16 + (nI 1)) s20
      · refine MF.iconst (v := (nI 1)) C e_X8_tryStages_38 rfl ?_
        exact MF.nret C e_X8_tryStages_39 rfl
  · refine MF.iconst (v := (nI 1)) C e_X8_tryStages_13 rfl ?_
    exact MF.nret C e_X8_tryStages_14 rfl
theorem e_X8_stage_0 : Dc cX8_stage 0 (.aload_n 0) 1 1 := ⟨by decide +kernel, rfl⟩
theorem e_X8_stage_1 : Dc cX8_stage 1 (.iload_n 1) 1 2 := ⟨by decide +kernel, rfl⟩
theorem e_X8_stage_2 : Dc cX8_stage 2 (.invokevirtual 113) 3 5 := ⟨by decide +kernel, rfl⟩
theorem e_X8_stage_5 : Dc cX8_stage 5 (.ifCond .eq 23) 3 8 := ⟨by decide +kernel, rfl⟩
theorem e_X8_stage_8 : Dc cX8_stage 8 (.iload_n 2) 1 9 := ⟨by decide +kernel, rfl⟩
theorem e_X8_stage_9 : Dc cX8_stage 9 (.invokestatic 100) 3 12 := ⟨by decide +kernel, rfl⟩
theorem e_X8_stage_12 : Dc cX8_stage 12 (.ifCond .eq 16) 3 15 := ⟨by decide +kernel, rfl⟩
theorem e_X8_stage_15 : Dc cX8_stage 15 (.iload_n 3) 1 16 := ⟨by decide +kernel, rfl⟩
theorem e_X8_stage_16 : Dc cX8_stage 16 (.invokestatic 116) 3 19 := ⟨by decide +kernel, rfl⟩
theorem e_X8_stage_19 : Dc cX8_stage 19 (.ifCond .eq 9) 3 22 := ⟨by decide +kernel, rfl⟩
theorem e_X8_stage_22 : Dc cX8_stage 22 (.iload 4) 2 24 := ⟨by decide +kernel, rfl⟩
theorem e_X8_stage_24 : Dc cX8_stage 24 (.iconst (-1)) 1 25 := ⟨by decide +kernel, rfl⟩
theorem e_X8_stage_25 : Dc cX8_stage 25 (.if_icmp .ge 10) 3 28 := ⟨by decide +kernel, rfl⟩
theorem e_X8_stage_28 : Dc cX8_stage 28 (.aload_n 0) 1 29 := ⟨by decide +kernel, rfl⟩
theorem e_X8_stage_29 : Dc cX8_stage 29 (.bipush (-10)) 2 31 := ⟨by decide +kernel, rfl⟩
theorem e_X8_stage_31 : Dc cX8_stage 31 (.invokevirtual 88) 3 34 := ⟨by decide +kernel, rfl⟩
theorem e_X8_stage_34 : Dc cX8_stage 34 (.ireturn) 1 35 := ⟨by decide +kernel, rfl⟩
theorem e_X8_stage_35 : Dc cX8_stage 35 (.aload_n 0) 1 36 := ⟨by decide +kernel, rfl⟩
theorem e_X8_stage_36 : Dc cX8_stage 36 (.iload_n 1) 1 37 := ⟨by decide +kernel, rfl⟩
theorem e_X8_stage_37 : Dc cX8_stage 37 (.iload_n 2) 1 38 := ⟨by decide +kernel, rfl⟩
theorem e_X8_stage_38 : Dc cX8_stage 38 (.iload_n 3) 1 39 := ⟨by decide +kernel, rfl⟩
theorem e_X8_stage_39 : Dc cX8_stage 39 (.invokevirtual 212) 3 42 := ⟨by decide +kernel, rfl⟩
theorem e_X8_stage_42 : Dc cX8_stage 42 (.ifCond .ne 5) 3 45 := ⟨by decide +kernel, rfl⟩
theorem e_X8_stage_45 : Dc cX8_stage 45 (.iconst (-1)) 1 46 := ⟨by decide +kernel, rfl⟩
theorem e_X8_stage_46 : Dc cX8_stage 46 (.ireturn) 1 47 := ⟨by decide +kernel, rfl⟩
theorem e_X8_stage_47 : Dc cX8_stage 47 (.iload 4) 2 49 := ⟨by decide +kernel, rfl⟩
theorem e_X8_stage_49 : Dc cX8_stage 49 (.iconst (-1)) 1 50 := ⟨by decide +kernel, rfl⟩
theorem e_X8_stage_50 : Dc cX8_stage 50 (.if_icmp .ne 10) 3 53 := ⟨by decide +kernel, rfl⟩
theorem e_X8_stage_53 : Dc cX8_stage 53 (.aload_n 0) 1 54 := ⟨by decide +kernel, rfl⟩
theorem e_X8_stage_54 : Dc cX8_stage 54 (.getfield 199) 3 57 := ⟨by decide +kernel, rfl⟩
theorem e_X8_stage_57 : Dc cX8_stage 57 (.goto 33) 3 60 := ⟨by decide +kernel, rfl⟩
theorem e_X8_stage_60 : Dc cX8_stage 60 (.iload 4) 2 62 := ⟨by decide +kernel, rfl⟩
theorem e_X8_stage_62 : Dc cX8_stage 62 (.aload_n 0) 1 63 := ⟨by decide +kernel, rfl⟩
theorem e_X8_stage_63 : Dc cX8_stage 63 (.getfield 199) 3 66 := ⟨by decide +kernel, rfl⟩
theorem e_X8_stage_66 : Dc cX8_stage 66 (.if_icmp .lt 8) 3 69 := ⟨by decide +kernel, rfl⟩
theorem e_X8_stage_69 : Dc cX8_stage 69 (.bipush (-5)) 2 71 := ⟨by decide +kernel, rfl⟩
theorem e_X8_stage_71 : Dc cX8_stage 71 (.goto 19) 3 74 := ⟨by decide +kernel, rfl⟩
theorem e_X8_stage_74 : Dc cX8_stage 74 (.iload 4) 2 76 := ⟨by decide +kernel, rfl⟩
theorem e_X8_stage_76 : Dc cX8_stage 76 (.ifCond .ne 10) 3 79 := ⟨by decide +kernel, rfl⟩
theorem e_X8_stage_79 : Dc cX8_stage 79 (.aload_n 0) 1 80 := ⟨by decide +kernel, rfl⟩
theorem e_X8_stage_80 : Dc cX8_stage 80 (.getfield 202) 3 83 := ⟨by decide +kernel, rfl⟩
theorem e_X8_stage_83 : Dc cX8_stage 83 (.goto 7) 3 86 := ⟨by decide +kernel, rfl⟩
theorem e_X8_stage_86 : Dc cX8_stage 86 (.aload_n 0) 1 87 := ⟨by decide +kernel, rfl⟩
theorem e_X8_stage_87 : Dc cX8_stage 87 (.getfield 205) 3 90 := ⟨by decide +kernel, rfl⟩
theorem e_X8_stage_90 : Dc cX8_stage 90 (.ireturn) 1 91 := ⟨by decide +kernel, rfl⟩
set_option maxHeartbeats 4000000 in
set_option maxRecDepth 20000 in
theorem R_X8_stage (hD : DD E) (x1 : Int32) (x2 : Int32) (x3 : Int32) (x4 : Int32) (s : Sg) : ∀ v τ, (f_X8_stage x1 x2 x3 x4 s) = some (v, τ) → RI l E 7 M_X8_stage [.ref (ead E 70), .int x1, .int x2, .int x3, .int x4] s v τ := by
  refine ofI hD (by decide +kernel) (Nat.le_of_ble_eq_true rfl) (fun X C => ?_)
  show MF l E X (fun q : Int32 × Sg => QI E X q.1 q.2) (f_X8_stage x1 x2 x3 x4 s) s 0 [(0, .ref (ead E 70)), (1, .int x1), (2, .int x2), (3, .int x3), (4, .int x4)] []
  unfold f_X8_stage
  refine MF.aload_n C e_X8_stage_0 0 rfl rfl ?_
  refine MF.iload_n C e_X8_stage_1 1 rfl rfl ?_
  refine MF.callVP (As := [.int x1]) C (R_X8_isStreet hD x1 s) m_X8_isStreet k_X8_113 kO_70 rfl (by decide) e_X8_stage_2 rfl rfl (Nat.le_of_ble_eq_true rfl) (fun v1 => ?_)
  refine MF.if_eq (tgt := 28) C e_X8_stage_5 (by decide) (fun _ => ?_) (fun _ => ?_)
  · refine MF.aload_n C e_X8_stage_28 0 rfl rfl ?_
    refine MF.bipush (v := (-10 : Int32)) C e_X8_stage_29 (by decide) ?_
    refine MF.callVI (As := [.int (-10 : Int32)]) C (R_X8_bad hD (-10 : Int32) s) m_X8_bad k_X8_88 kO_70 rfl (by decide) e_X8_stage_31 rfl rfl (Nat.le_of_ble_eq_true rfl) (fun v2 s3 => ?_)
    exact MF.iret C e_X8_stage_34
  · refine MF.iload_n C e_X8_stage_8 2 rfl rfl ?_
    refine MF.callSP (As := [.int x2]) C (R_X8_isWord hD x2 s) m_X8_isWord k_X8_100 (by decide) e_X8_stage_9 rfl rfl (Nat.le_of_ble_eq_true rfl) (fun v4 => ?_)
    refine MF.if_eq (tgt := 28) C e_X8_stage_12 (by decide) (fun _ => ?_) (fun _ => ?_)
    · refine MF.aload_n C e_X8_stage_28 0 rfl rfl ?_
      refine MF.bipush (v := (-10 : Int32)) C e_X8_stage_29 (by decide) ?_
      refine MF.callVI (As := [.int (-10 : Int32)]) C (R_X8_bad hD (-10 : Int32) s) m_X8_bad k_X8_88 kO_70 rfl (by decide) e_X8_stage_31 rfl rfl (Nat.le_of_ble_eq_true rfl) (fun v5 s6 => ?_)
      exact MF.iret C e_X8_stage_34
    · refine MF.iload_n C e_X8_stage_15 3 rfl rfl ?_
      refine MF.callSP (As := [.int x3]) C (R_X8_isHour hD x3 s) m_X8_isHour k_X8_116 (by decide) e_X8_stage_16 rfl rfl (Nat.le_of_ble_eq_true rfl) (fun v7 => ?_)
      refine MF.if_eq (tgt := 28) C e_X8_stage_19 (by decide) (fun _ => ?_) (fun _ => ?_)
      · refine MF.aload_n C e_X8_stage_28 0 rfl rfl ?_
        refine MF.bipush (v := (-10 : Int32)) C e_X8_stage_29 (by decide) ?_
        refine MF.callVI (As := [.int (-10 : Int32)]) C (R_X8_bad hD (-10 : Int32) s) m_X8_bad k_X8_88 kO_70 rfl (by decide) e_X8_stage_31 rfl rfl (Nat.le_of_ble_eq_true rfl) (fun v8 s9 => ?_)
        exact MF.iret C e_X8_stage_34
      · refine MF.iload C e_X8_stage_22 4 rfl ?_
        refine MF.iconst (v := (-1 : Int32)) C e_X8_stage_24 rfl ?_
        refine MF.icmp_ge (tgt := 35) C e_X8_stage_25 (by decide) (fun _ => ?_) (fun _ => ?_)
        · refine MF.aload_n C e_X8_stage_35 0 rfl rfl ?_
          refine MF.iload_n C e_X8_stage_36 1 rfl rfl ?_
          refine MF.iload_n C e_X8_stage_37 2 rfl rfl ?_
          refine MF.iload_n C e_X8_stage_38 3 rfl rfl ?_
          refine MF.callVI (As := [.int x1, .int x2, .int x3]) C (R_X8_tryStages hD x1 x2 x3 s) m_X8_tryStages k_X8_212 kO_70 rfl (by decide) e_X8_stage_39 rfl rfl (Nat.le_of_ble_eq_true rfl) (fun v10 s11 => ?_)
          refine MF.if_ne (tgt := 47) C e_X8_stage_42 (by decide) (fun _ => ?_) (fun _ => ?_)
          · refine MF.iload C e_X8_stage_47 4 rfl ?_
            refine MF.iconst (v := (-1 : Int32)) C e_X8_stage_49 rfl ?_
            refine MF.icmp_ne (tgt := 60) C e_X8_stage_50 (by decide) (fun _ => ?_) (fun _ => ?_)
            · refine MF.iload C e_X8_stage_60 4 rfl ?_
              refine MF.aload_n C e_X8_stage_62 0 rfl rfl ?_
              refine MF.get C cf_X8 l_X8_199 e_X8_stage_63 kF_70_15 ?_
              refine MF.icmp_lt (tgt := 74) C e_X8_stage_66 (by decide) (fun _ => ?_) (fun _ => ?_)
              · refine MF.iload C e_X8_stage_74 4 rfl ?_
                refine MF.if_ne (tgt := 86) C e_X8_stage_76 (by decide) (fun _ => ?_) (fun _ => ?_)
                · refine MF.aload_n C e_X8_stage_86 0 rfl rfl ?_
                  refine MF.get C cf_X8 l_X8_205 e_X8_stage_87 kF_70_17 ?_
                  exact MF.iret C e_X8_stage_90
                · refine MF.aload_n C e_X8_stage_79 0 rfl rfl ?_
                  refine MF.get C cf_X8 l_X8_202 e_X8_stage_80 kF_70_16 ?_
                  refine MF.goto (tgt := 90) C e_X8_stage_83 (by decide) ?_
                  exact MF.iret C e_X8_stage_90
              · refine MF.bipush (v := (-5 : Int32)) C e_X8_stage_69 (by decide) ?_
                refine MF.goto (tgt := 90) C e_X8_stage_71 (by decide) ?_
                exact MF.iret C e_X8_stage_90
            · refine MF.aload_n C e_X8_stage_53 0 rfl rfl ?_
              refine MF.get C cf_X8 l_X8_199 e_X8_stage_54 kF_70_15 ?_
              refine MF.goto (tgt := 90) C e_X8_stage_57 (by decide) ?_
              exact MF.iret C e_X8_stage_90
          · refine MF.iconst (v := (-1 : Int32)) C e_X8_stage_45 rfl ?_
            exact MF.iret C e_X8_stage_46
        · refine MF.aload_n C e_X8_stage_28 0 rfl rfl ?_
          refine MF.bipush (v := (-10 : Int32)) C e_X8_stage_29 (by decide) ?_
          refine MF.callVI (As := [.int (-10 : Int32)]) C (R_X8_bad hD (-10 : Int32) s) m_X8_bad k_X8_88 kO_70 rfl (by decide) e_X8_stage_31 rfl rfl (Nat.le_of_ble_eq_true rfl) (fun v12 s13 => ?_)
          exact MF.iret C e_X8_stage_34
theorem e_X8_forbid_0 : Dc cX8_forbid 0 (.aload_n 0) 1 1 := ⟨by decide +kernel, rfl⟩
theorem e_X8_forbid_1 : Dc cX8_forbid 1 (.iload_n 1) 1 2 := ⟨by decide +kernel, rfl⟩
theorem e_X8_forbid_2 : Dc cX8_forbid 2 (.invokevirtual 113) 3 5 := ⟨by decide +kernel, rfl⟩
theorem e_X8_forbid_5 : Dc cX8_forbid 5 (.ifCond .ne 10) 3 8 := ⟨by decide +kernel, rfl⟩
theorem e_X8_forbid_8 : Dc cX8_forbid 8 (.aload_n 0) 1 9 := ⟨by decide +kernel, rfl⟩
theorem e_X8_forbid_9 : Dc cX8_forbid 9 (.bipush (-2)) 2 11 := ⟨by decide +kernel, rfl⟩
theorem e_X8_forbid_11 : Dc cX8_forbid 11 (.invokevirtual 88) 3 14 := ⟨by decide +kernel, rfl⟩
theorem e_X8_forbid_14 : Dc cX8_forbid 14 (.ireturn) 1 15 := ⟨by decide +kernel, rfl⟩
theorem e_X8_forbid_15 : Dc cX8_forbid 15 (.iconst (-1)) 1 16 := ⟨by decide +kernel, rfl⟩
theorem e_X8_forbid_16 : Dc cX8_forbid 16 (.istore_n 2) 1 17 := ⟨by decide +kernel, rfl⟩
theorem e_X8_forbid_17 : Dc cX8_forbid 17 (.aload_n 0) 1 18 := ⟨by decide +kernel, rfl⟩
theorem e_X8_forbid_18 : Dc cX8_forbid 18 (.iconst 0) 1 19 := ⟨by decide +kernel, rfl⟩
theorem e_X8_forbid_19 : Dc cX8_forbid 19 (.putfield 165) 3 22 := ⟨by decide +kernel, rfl⟩
theorem e_X8_forbid_22 : Dc cX8_forbid 22 (.iconst 0) 1 23 := ⟨by decide +kernel, rfl⟩
theorem e_X8_forbid_23 : Dc cX8_forbid 23 (.istore_n 3) 1 24 := ⟨by decide +kernel, rfl⟩
theorem e_X8_forbid_24 : Dc cX8_forbid 24 (.iload_n 3) 1 25 := ⟨by decide +kernel, rfl⟩
theorem e_X8_forbid_25 : Dc cX8_forbid 25 (.iconst 1) 1 26 := ⟨by decide +kernel, rfl⟩
theorem e_X8_forbid_26 : Dc cX8_forbid 26 (.aload_n 0) 1 27 := ⟨by decide +kernel, rfl⟩
theorem e_X8_forbid_27 : Dc cX8_forbid 27 (.invokevirtual 79) 3 30 := ⟨by decide +kernel, rfl⟩
theorem e_X8_forbid_30 : Dc cX8_forbid 30 (.ishl) 1 31 := ⟨by decide +kernel, rfl⟩
theorem e_X8_forbid_31 : Dc cX8_forbid 31 (.if_icmp .ge 62) 3 34 := ⟨by decide +kernel, rfl⟩
theorem e_X8_forbid_34 : Dc cX8_forbid 34 (.iload_n 2) 1 35 := ⟨by decide +kernel, rfl⟩
theorem e_X8_forbid_35 : Dc cX8_forbid 35 (.iconst (-1)) 1 36 := ⟨by decide +kernel, rfl⟩
theorem e_X8_forbid_36 : Dc cX8_forbid 36 (.if_icmp .eq 14) 3 39 := ⟨by decide +kernel, rfl⟩
theorem e_X8_forbid_39 : Dc cX8_forbid 39 (.iload_n 3) 1 40 := ⟨by decide +kernel, rfl⟩
theorem e_X8_forbid_40 : Dc cX8_forbid 40 (.invokestatic 192) 3 43 := ⟨by decide +kernel, rfl⟩
theorem e_X8_forbid_43 : Dc cX8_forbid 43 (.iload_n 2) 1 44 := ⟨by decide +kernel, rfl⟩
theorem e_X8_forbid_44 : Dc cX8_forbid 44 (.invokestatic 192) 3 47 := ⟨by decide +kernel, rfl⟩
theorem e_X8_forbid_47 : Dc cX8_forbid 47 (.if_icmp .ge 40) 3 50 := ⟨by decide +kernel, rfl⟩
theorem e_X8_forbid_50 : Dc cX8_forbid 50 (.aload_n 0) 1 51 := ⟨by decide +kernel, rfl⟩
theorem e_X8_forbid_51 : Dc cX8_forbid 51 (.aload_n 0) 1 52 := ⟨by decide +kernel, rfl⟩
theorem e_X8_forbid_52 : Dc cX8_forbid 52 (.invokevirtual 169) 3 55 := ⟨by decide +kernel, rfl⟩
theorem e_X8_forbid_55 : Dc cX8_forbid 55 (.iload_n 3) 1 56 := ⟨by decide +kernel, rfl⟩
theorem e_X8_forbid_56 : Dc cX8_forbid 56 (.iconst (-1)) 1 57 := ⟨by decide +kernel, rfl⟩
theorem e_X8_forbid_57 : Dc cX8_forbid 57 (.ixor) 1 58 := ⟨by decide +kernel, rfl⟩
theorem e_X8_forbid_58 : Dc cX8_forbid 58 (.iand) 1 59 := ⟨by decide +kernel, rfl⟩
theorem e_X8_forbid_59 : Dc cX8_forbid 59 (.invokevirtual 172) 3 62 := ⟨by decide +kernel, rfl⟩
theorem e_X8_forbid_62 : Dc cX8_forbid 62 (.aload_n 0) 1 63 := ⟨by decide +kernel, rfl⟩
theorem e_X8_forbid_63 : Dc cX8_forbid 63 (.getfield 23) 3 66 := ⟨by decide +kernel, rfl⟩
theorem e_X8_forbid_66 : Dc cX8_forbid 66 (.sipush 161) 3 69 := ⟨by decide +kernel, rfl⟩
theorem e_X8_forbid_69 : Dc cX8_forbid 69 (.iload_n 1) 1 70 := ⟨by decide +kernel, rfl⟩
theorem e_X8_forbid_70 : Dc cX8_forbid 70 (.iadd) 1 71 := ⟨by decide +kernel, rfl⟩
theorem e_X8_forbid_71 : Dc cX8_forbid 71 (.iaload) 1 72 := ⟨by decide +kernel, rfl⟩
theorem e_X8_forbid_72 : Dc cX8_forbid 72 (.aload_n 0) 1 73 := ⟨by decide +kernel, rfl⟩
theorem e_X8_forbid_73 : Dc cX8_forbid 73 (.iload_n 1) 1 74 := ⟨by decide +kernel, rfl⟩
theorem e_X8_forbid_74 : Dc cX8_forbid 74 (.iconst 3) 1 75 := ⟨by decide +kernel, rfl⟩
theorem e_X8_forbid_75 : Dc cX8_forbid 75 (.invokevirtual 134) 3 78 := ⟨by decide +kernel, rfl⟩
theorem e_X8_forbid_78 : Dc cX8_forbid 78 (.if_icmp .ne 7) 3 81 := ⟨by decide +kernel, rfl⟩
theorem e_X8_forbid_81 : Dc cX8_forbid 81 (.iload_n 3) 1 82 := ⟨by decide +kernel, rfl⟩
theorem e_X8_forbid_82 : Dc cX8_forbid 82 (.goto 4) 3 85 := ⟨by decide +kernel, rfl⟩
theorem e_X8_forbid_85 : Dc cX8_forbid 85 (.iload_n 2) 1 86 := ⟨by decide +kernel, rfl⟩
theorem e_X8_forbid_86 : Dc cX8_forbid 86 (.istore_n 2) 1 87 := ⟨by decide +kernel, rfl⟩
theorem e_X8_forbid_87 : Dc cX8_forbid 87 (.iinc 3 1) 3 90 := ⟨by decide +kernel, rfl⟩
theorem e_X8_forbid_90 : Dc cX8_forbid 90 (.goto (-66)) 3 93 := ⟨by decide +kernel, rfl⟩
theorem e_X8_forbid_93 : Dc cX8_forbid 93 (.iload_n 2) 1 94 := ⟨by decide +kernel, rfl⟩
theorem e_X8_forbid_94 : Dc cX8_forbid 94 (.ireturn) 1 95 := ⟨by decide +kernel, rfl⟩
set_option maxHeartbeats 4000000 in
set_option maxRecDepth 20000 in
theorem R_X8_forbid (hD : DD E) (x1 : Int32) (s : Sg) : ∀ v τ, (f_X8_forbid x1 s) = some (v, τ) → RI l E 5 M_X8_forbid [.ref (ead E 70), .int x1] s v τ := by
  refine ofI hD (by decide +kernel) (Nat.le_of_ble_eq_true rfl) (fun X C => ?_)
  show MF l E X (fun q : Int32 × Sg => QI E X q.1 q.2) (f_X8_forbid x1 s) s 0 [(0, .ref (ead E 70)), (1, .int x1)] []
  unfold f_X8_forbid
  refine MF.aload_n C e_X8_forbid_0 0 rfl rfl ?_
  refine MF.iload_n C e_X8_forbid_1 1 rfl rfl ?_
  refine MF.callVP (As := [.int x1]) C (R_X8_isStreet hD x1 s) m_X8_isStreet k_X8_113 kO_70 rfl (by decide) e_X8_forbid_2 rfl rfl (Nat.le_of_ble_eq_true rfl) (fun v1 => ?_)
  refine MF.if_ne (tgt := 15) C e_X8_forbid_5 (by decide) (fun _ => ?_) (fun _ => ?_)
  · refine MF.iconst (v := (-1 : Int32)) C e_X8_forbid_15 rfl ?_
    refine MF.istore_n (lv' := [(0, .ref (ead E 70)), (1, .int x1), (2, .int (-1 : Int32))]) C e_X8_forbid_16 (by decide) rfl ?_
    refine MF.aload_n C e_X8_forbid_17 0 rfl rfl ?_
    refine MF.iconst (v := (nI 0)) C e_X8_forbid_18 rfl ?_
    refine MF.put C cf_X8 l_X8_165 p_X8_11 e_X8_forbid_19 kF_70_11 rfl ?_
    refine MF.nmS (fun s2 => ?_)
    refine MF.iconst (v := (nI 0)) C e_X8_forbid_22 rfl ?_
    refine MF.istore_n (lv' := [(0, .ref (ead E 70)), (1, .int x1), (2, .int (-1 : Int32)), (3, .int (nI 0))]) C e_X8_forbid_23 (by decide) rfl ?_
    refine MF.loop3 (fun i3 i4 s5 => s5) (fun i3 i4 s5 => [(0, .ref (ead E 70)), (1, .int x1), (2, .int i3), (3, .int i4)]) (fun self6 hself6 i3 i4 s5 => ?_) fu (-1 : Int32) (nI 0) s2
    unfold b_X8_forbid_24
    refine MF.iload_n C e_X8_forbid_24 3 rfl rfl ?_
    refine MF.iconst (v := (nI 1)) C e_X8_forbid_25 rfl ?_
    refine MF.aload_n C e_X8_forbid_26 0 rfl rfl ?_
    refine MF.callVP (As := []) C (R_X8_events hD s5) m_X8_events k_X8_79 kO_70 rfl (by decide) e_X8_forbid_27 rfl rfl (Nat.le_of_ble_eq_true rfl) (fun v7 => ?_)
    refine MF.ishl C e_X8_forbid_30 ?_
    refine MF.icmp_ge (tgt := 93) C e_X8_forbid_31 (by decide) (fun _ => ?_) (fun _ => ?_)
    · refine MF.iload_n C e_X8_forbid_93 2 rfl rfl ?_
      exact MF.iret C e_X8_forbid_94
    · refine MF.iload_n C e_X8_forbid_34 2 rfl rfl ?_
      refine MF.iconst (v := (-1 : Int32)) C e_X8_forbid_35 rfl ?_
      refine MF.join (fun j : Int32 → Sg → Option (Int32 × Sg) => ∀ (a8 : Int32) (s9 : Sg), MF l E X (fun q : Int32 × Sg => QI E X q.1 q.2) (j a8 s9) s9 87 [(0, .ref (ead E 70)), (1, .int x1), (2, .int a8), (3, .int i4)] []) ?_ (fun j10 hj10 => ?_)
      · intro a8 s9
        refine MF.iinc (v := (nI 1)) (lv' := [(0, .ref (ead E 70)), (1, .int x1), (2, .int a8), (3, .int (i4 + (nI 1)))]) C e_X8_forbid_87 3 rfl rfl (by decide) rfl ?_
        refine MF.goto (tgt := 24) C e_X8_forbid_90 (by decide) ?_
        exact hself6 a8 (i4 + (nI 1)) s9
      refine MF.join (fun j : Unit → Option (Int32 × Sg) => ∀ (_u : Unit), MF l E X (fun q : Int32 × Sg => QI E X q.1 q.2) (j _u) s5 50 [(0, .ref (ead E 70)), (1, .int x1), (2, .int i3), (3, .int i4)] []) ?_ (fun j11 hj11 => ?_)
      · intro _
        refine MF.aload_n C e_X8_forbid_50 0 rfl rfl ?_
        refine MF.aload_n C e_X8_forbid_51 0 rfl rfl ?_
        refine MF.callVP (As := []) C (R_X8_allEvents hD s5) m_X8_allEvents k_X8_169 kO_70 rfl (by decide) e_X8_forbid_52 rfl rfl (Nat.le_of_ble_eq_true rfl) (fun v12 => ?_)
        refine MF.iload_n C e_X8_forbid_55 3 rfl rfl ?_
        refine MF.iconst (v := (-1 : Int32)) C e_X8_forbid_56 rfl ?_
        refine MF.ixor C e_X8_forbid_57 ?_
        refine MF.iand C e_X8_forbid_58 ?_
        refine MF.callVU (As := [.int (v12 &&& (i4 ^^^ (-1 : Int32)))]) C (R_X8_run hD (v12 &&& (i4 ^^^ (-1 : Int32))) s5) m_X8_run k_X8_172 kO_70 rfl (by decide) e_X8_forbid_59 rfl rfl (Nat.le_of_ble_eq_true rfl) (fun s13 => ?_)
        refine MF.aload_n C e_X8_forbid_62 0 rfl rfl ?_
        refine MF.getR (j := 75) C cf_X8 l_X8_23 e_X8_forbid_63 kF_70_4 ?_
        refine MF.sipush (v := (nI 161)) C e_X8_forbid_66 (by decide) ?_
        refine MF.iload_n C e_X8_forbid_69 1 rfl rfl ?_
        refine MF.iadd C e_X8_forbid_70 ?_
        refine MF.iald C e_X8_forbid_71 kA_75 (fun v14 => ?_)
        refine MF.aload_n C e_X8_forbid_72 0 rfl rfl ?_
        refine MF.iload_n C e_X8_forbid_73 1 rfl rfl ?_
        refine MF.iconst (v := (nI 3)) C e_X8_forbid_74 rfl ?_
        refine MF.callVP (As := [.int x1, .int (nI 3)]) C (R_X8_has hD x1 (nI 3) s13) m_X8_has k_X8_134 kO_70 rfl (by decide) e_X8_forbid_75 rfl rfl (Nat.le_of_ble_eq_true rfl) (fun v15 => ?_)
        refine MF.join (fun j : Int32 → Option (Int32 × Sg) => ∀ (a16 : Int32), MF l E X (fun q : Int32 × Sg => QI E X q.1 q.2) (j a16) s13 86 [(0, .ref (ead E 70)), (1, .int x1), (3, .int i4)] [.int a16]) ?_ (fun j17 hj17 => ?_)
        · intro a16
          refine MF.istore_n (lv' := [(0, .ref (ead E 70)), (1, .int x1), (2, .int a16), (3, .int i4)]) C e_X8_forbid_86 (by decide) rfl ?_
          exact hj10 a16 s13
        refine MF.icmp_ne (tgt := 85) C e_X8_forbid_78 (by decide) (fun _ => ?_) (fun _ => ?_)
        · refine MF.iload_n C e_X8_forbid_85 2 rfl rfl ?_
          refine MF.sub [0, 1, 3] rfl ?_
          exact hj17 i3
        · refine MF.iload_n C e_X8_forbid_81 3 rfl rfl ?_
          refine MF.goto (tgt := 86) C e_X8_forbid_82 (by decide) ?_
          refine MF.sub [0, 1, 3] rfl ?_
          exact hj17 i4
      refine MF.icmp_eq (tgt := 50) C e_X8_forbid_36 (by decide) (fun _ => ?_) (fun _ => ?_)
      · exact hj11 ()
      · refine MF.iload_n C e_X8_forbid_39 3 rfl rfl ?_
        refine MF.callSP (As := [.int i4]) C (R_X8_bits hD i4 s5) m_X8_bits k_X8_192 (by decide) e_X8_forbid_40 rfl rfl (Nat.le_of_ble_eq_true rfl) (fun v18 => ?_)
        refine MF.iload_n C e_X8_forbid_43 2 rfl rfl ?_
        refine MF.callSP (As := [.int i3]) C (R_X8_bits hD i3 s5) m_X8_bits k_X8_192 (by decide) e_X8_forbid_44 rfl rfl (Nat.le_of_ble_eq_true rfl) (fun v19 => ?_)
        refine MF.icmp_ge (tgt := 87) C e_X8_forbid_47 (by decide) (fun _ => ?_) (fun _ => ?_)
        · exact hj10 i3 s5
        · exact hj11 ()
  · refine MF.aload_n C e_X8_forbid_8 0 rfl rfl ?_
    refine MF.bipush (v := (-2 : Int32)) C e_X8_forbid_9 (by decide) ?_
    refine MF.callVI (As := [.int (-2 : Int32)]) C (R_X8_bad hD (-2 : Int32) s) m_X8_bad k_X8_88 kO_70 rfl (by decide) e_X8_forbid_11 rfl rfl (Nat.le_of_ble_eq_true rfl) (fun v20 s21 => ?_)
    exact MF.iret C e_X8_forbid_14
theorem e_X8_rentNow_0 : Dc cX8_rentNow 0 (.iconst 0) 1 1 := ⟨by decide +kernel, rfl⟩
theorem e_X8_rentNow_1 : Dc cX8_rentNow 1 (.istore_n 2) 1 2 := ⟨by decide +kernel, rfl⟩
theorem e_X8_rentNow_2 : Dc cX8_rentNow 2 (.iconst 0) 1 3 := ⟨by decide +kernel, rfl⟩
theorem e_X8_rentNow_3 : Dc cX8_rentNow 3 (.istore_n 3) 1 4 := ⟨by decide +kernel, rfl⟩
theorem e_X8_rentNow_4 : Dc cX8_rentNow 4 (.iload_n 3) 1 5 := ⟨by decide +kernel, rfl⟩
theorem e_X8_rentNow_5 : Dc cX8_rentNow 5 (.bipush 24) 2 7 := ⟨by decide +kernel, rfl⟩
theorem e_X8_rentNow_7 : Dc cX8_rentNow 7 (.if_icmp .ge 31) 3 10 := ⟨by decide +kernel, rfl⟩
theorem e_X8_rentNow_10 : Dc cX8_rentNow 10 (.iload_n 2) 1 11 := ⟨by decide +kernel, rfl⟩
theorem e_X8_rentNow_11 : Dc cX8_rentNow 11 (.aload_n 0) 1 12 := ⟨by decide +kernel, rfl⟩
theorem e_X8_rentNow_12 : Dc cX8_rentNow 12 (.getfield 7) 3 15 := ⟨by decide +kernel, rfl⟩
theorem e_X8_rentNow_15 : Dc cX8_rentNow 15 (.bipush 81) 2 17 := ⟨by decide +kernel, rfl⟩
theorem e_X8_rentNow_17 : Dc cX8_rentNow 17 (.aload_n 0) 1 18 := ⟨by decide +kernel, rfl⟩
theorem e_X8_rentNow_18 : Dc cX8_rentNow 18 (.getfield 23) 3 21 := ⟨by decide +kernel, rfl⟩
theorem e_X8_rentNow_21 : Dc cX8_rentNow 21 (.bipush 7) 2 23 := ⟨by decide +kernel, rfl⟩
theorem e_X8_rentNow_23 : Dc cX8_rentNow 23 (.iload_n 3) 1 24 := ⟨by decide +kernel, rfl⟩
theorem e_X8_rentNow_24 : Dc cX8_rentNow 24 (.imul) 1 25 := ⟨by decide +kernel, rfl⟩
theorem e_X8_rentNow_25 : Dc cX8_rentNow 25 (.iload_n 1) 1 26 := ⟨by decide +kernel, rfl⟩
theorem e_X8_rentNow_26 : Dc cX8_rentNow 26 (.iadd) 1 27 := ⟨by decide +kernel, rfl⟩
theorem e_X8_rentNow_27 : Dc cX8_rentNow 27 (.iaload) 1 28 := ⟨by decide +kernel, rfl⟩
theorem e_X8_rentNow_28 : Dc cX8_rentNow 28 (.iadd) 1 29 := ⟨by decide +kernel, rfl⟩
theorem e_X8_rentNow_29 : Dc cX8_rentNow 29 (.iaload) 1 30 := ⟨by decide +kernel, rfl⟩
theorem e_X8_rentNow_30 : Dc cX8_rentNow 30 (.iadd) 1 31 := ⟨by decide +kernel, rfl⟩
theorem e_X8_rentNow_31 : Dc cX8_rentNow 31 (.istore_n 2) 1 32 := ⟨by decide +kernel, rfl⟩
theorem e_X8_rentNow_32 : Dc cX8_rentNow 32 (.iinc 3 1) 3 35 := ⟨by decide +kernel, rfl⟩
theorem e_X8_rentNow_35 : Dc cX8_rentNow 35 (.goto (-31)) 3 38 := ⟨by decide +kernel, rfl⟩
theorem e_X8_rentNow_38 : Dc cX8_rentNow 38 (.iload_n 2) 1 39 := ⟨by decide +kernel, rfl⟩
theorem e_X8_rentNow_39 : Dc cX8_rentNow 39 (.ireturn) 1 40 := ⟨by decide +kernel, rfl⟩
set_option maxHeartbeats 4000000 in
set_option maxRecDepth 20000 in
theorem R_X8_rentNow (hD : DD E) (x1 : Int32) (s : Sg) : ∀ v, (f_X8_rentNow x1 s) = some v → RI l E 0 M_X8_rentNow [.ref (ead E 70), .int x1] s v s := by
  refine ofP hD (by decide +kernel) (Nat.le_of_ble_eq_true rfl) (fun X C => ?_)
  show MF l E X (fun q : Int32 => QI E X q s) (f_X8_rentNow x1 s) s 0 [(0, .ref (ead E 70)), (1, .int x1)] []
  unfold f_X8_rentNow
  refine MF.iconst (v := (nI 0)) C e_X8_rentNow_0 rfl ?_
  refine MF.istore_n (lv' := [(0, .ref (ead E 70)), (1, .int x1), (2, .int (nI 0))]) C e_X8_rentNow_1 (by decide) rfl ?_
  refine MF.iconst (v := (nI 0)) C e_X8_rentNow_2 rfl ?_
  refine MF.istore_n (lv' := [(0, .ref (ead E 70)), (1, .int x1), (2, .int (nI 0)), (3, .int (nI 0))]) C e_X8_rentNow_3 (by decide) rfl ?_
  refine MF.loop2 (fun i1 i2 => s) (fun i1 i2 => [(0, .ref (ead E 70)), (1, .int x1), (2, .int i1), (3, .int i2)]) (fun self3 hself3 i1 i2 => ?_) fu (nI 0) (nI 0)
  unfold b_X8_rentNow_4
  refine MF.iload_n C e_X8_rentNow_4 3 rfl rfl ?_
  refine MF.bipush (v := (nI 24)) C e_X8_rentNow_5 (by decide) ?_
  refine MF.icmp_ge (tgt := 38) C e_X8_rentNow_7 (by decide) (fun _ => ?_) (fun _ => ?_)
  · refine MF.iload_n C e_X8_rentNow_38 2 rfl rfl ?_
    exact MF.iretp C e_X8_rentNow_39
  · refine MF.iload_n C e_X8_rentNow_10 2 rfl rfl ?_
    refine MF.aload_n C e_X8_rentNow_11 0 rfl rfl ?_
    refine MF.getR (j := 71) C cf_X8 l_X8_7 e_X8_rentNow_12 kF_70_0 ?_
    refine MF.bipush (v := (nI 81)) C e_X8_rentNow_15 (by decide) ?_
    refine MF.aload_n C e_X8_rentNow_17 0 rfl rfl ?_
    refine MF.getR (j := 75) C cf_X8 l_X8_23 e_X8_rentNow_18 kF_70_4 ?_
    refine MF.bipush (v := (nI 7)) C e_X8_rentNow_21 (by decide) ?_
    refine MF.iload_n C e_X8_rentNow_23 3 rfl rfl ?_
    refine MF.imul C e_X8_rentNow_24 ?_
    refine MF.iload_n C e_X8_rentNow_25 1 rfl rfl ?_
    refine MF.iadd C e_X8_rentNow_26 ?_
    refine MF.iald C e_X8_rentNow_27 kA_75 (fun v4 => ?_)
    refine MF.iadd C e_X8_rentNow_28 ?_
    refine MF.iald C e_X8_rentNow_29 kA_71 (fun v5 => ?_)
    refine MF.iadd C e_X8_rentNow_30 ?_
    refine MF.nmI (fun v6 => ?_)
    refine MF.istore_n (lv' := [(0, .ref (ead E 70)), (1, .int x1), (2, .int v6), (3, .int i2)]) C e_X8_rentNow_31 (by decide) rfl ?_
    refine MF.iinc (v := (nI 1)) (lv' := [(0, .ref (ead E 70)), (1, .int x1), (2, .int v6), (3, .int (i2 + (nI 1)))]) C e_X8_rentNow_32 3 rfl rfl (by decide) rfl ?_
    refine MF.goto (tgt := 4) C e_X8_rentNow_35 (by decide) ?_
    exact hself3 v6 (i2 + (nI 1))
theorem e_X8_rents_0 : Dc cX8_rents 0 (.aload_n 0) 1 1 := ⟨by decide +kernel, rfl⟩
theorem e_X8_rents_1 : Dc cX8_rents 1 (.iload_n 1) 1 2 := ⟨by decide +kernel, rfl⟩
theorem e_X8_rents_2 : Dc cX8_rents 2 (.invokevirtual 113) 3 5 := ⟨by decide +kernel, rfl⟩
theorem e_X8_rents_5 : Dc cX8_rents 5 (.ifCond .ne 10) 3 8 := ⟨by decide +kernel, rfl⟩
theorem e_X8_rents_8 : Dc cX8_rents 8 (.aload_n 0) 1 9 := ⟨by decide +kernel, rfl⟩
theorem e_X8_rents_9 : Dc cX8_rents 9 (.bipush (-2)) 2 11 := ⟨by decide +kernel, rfl⟩
theorem e_X8_rents_11 : Dc cX8_rents 11 (.invokevirtual 88) 3 14 := ⟨by decide +kernel, rfl⟩
theorem e_X8_rents_14 : Dc cX8_rents 14 (.ireturn) 1 15 := ⟨by decide +kernel, rfl⟩
theorem e_X8_rents_15 : Dc cX8_rents 15 (.aload_n 0) 1 16 := ⟨by decide +kernel, rfl⟩
theorem e_X8_rents_16 : Dc cX8_rents 16 (.invokevirtual 176) 3 19 := ⟨by decide +kernel, rfl⟩
theorem e_X8_rents_19 : Dc cX8_rents 19 (.aload_n 0) 1 20 := ⟨by decide +kernel, rfl⟩
theorem e_X8_rents_20 : Dc cX8_rents 20 (.iload_n 1) 1 21 := ⟨by decide +kernel, rfl⟩
theorem e_X8_rents_21 : Dc cX8_rents 21 (.invokevirtual 216) 3 24 := ⟨by decide +kernel, rfl⟩
theorem e_X8_rents_24 : Dc cX8_rents 24 (.ireturn) 1 25 := ⟨by decide +kernel, rfl⟩
set_option maxHeartbeats 4000000 in
set_option maxRecDepth 20000 in
theorem R_X8_rents (hD : DD E) (x1 : Int32) (s : Sg) : ∀ v τ, (f_X8_rents x1 s) = some (v, τ) → RI l E 6 M_X8_rents [.ref (ead E 70), .int x1] s v τ := by
  refine ofI hD (by decide +kernel) (Nat.le_of_ble_eq_true rfl) (fun X C => ?_)
  show MF l E X (fun q : Int32 × Sg => QI E X q.1 q.2) (f_X8_rents x1 s) s 0 [(0, .ref (ead E 70)), (1, .int x1)] []
  unfold f_X8_rents
  refine MF.aload_n C e_X8_rents_0 0 rfl rfl ?_
  refine MF.iload_n C e_X8_rents_1 1 rfl rfl ?_
  refine MF.callVP (As := [.int x1]) C (R_X8_isStreet hD x1 s) m_X8_isStreet k_X8_113 kO_70 rfl (by decide) e_X8_rents_2 rfl rfl (Nat.le_of_ble_eq_true rfl) (fun v1 => ?_)
  refine MF.if_ne (tgt := 15) C e_X8_rents_5 (by decide) (fun _ => ?_) (fun _ => ?_)
  · refine MF.aload_n C e_X8_rents_15 0 rfl rfl ?_
    refine MF.callVU (As := []) C (R_X8_runAll hD s) m_X8_runAll k_X8_176 kO_70 rfl (by decide) e_X8_rents_16 rfl rfl (Nat.le_of_ble_eq_true rfl) (fun s2 => ?_)
    refine MF.aload_n C e_X8_rents_19 0 rfl rfl ?_
    refine MF.iload_n C e_X8_rents_20 1 rfl rfl ?_
    refine MF.callVP (As := [.int x1]) C (R_X8_rentNow hD x1 s2) m_X8_rentNow k_X8_216 kO_70 rfl (by decide) e_X8_rents_21 rfl rfl (Nat.le_of_ble_eq_true rfl) (fun v3 => ?_)
    exact MF.iret C e_X8_rents_24
  · refine MF.aload_n C e_X8_rents_8 0 rfl rfl ?_
    refine MF.bipush (v := (-2 : Int32)) C e_X8_rents_9 (by decide) ?_
    refine MF.callVI (As := [.int (-2 : Int32)]) C (R_X8_bad hD (-2 : Int32) s) m_X8_bad k_X8_88 kO_70 rfl (by decide) e_X8_rents_11 rfl rfl (Nat.le_of_ble_eq_true rfl) (fun v4 s5 => ?_)
    exact MF.iret C e_X8_rents_14
theorem e_X8_dearest_0 : Dc cX8_dearest 0 (.iconst 0) 1 1 := ⟨by decide +kernel, rfl⟩
theorem e_X8_dearest_1 : Dc cX8_dearest 1 (.istore_n 1) 1 2 := ⟨by decide +kernel, rfl⟩
theorem e_X8_dearest_2 : Dc cX8_dearest 2 (.iconst 1) 1 3 := ⟨by decide +kernel, rfl⟩
theorem e_X8_dearest_3 : Dc cX8_dearest 3 (.istore_n 2) 1 4 := ⟨by decide +kernel, rfl⟩
theorem e_X8_dearest_4 : Dc cX8_dearest 4 (.iload_n 2) 1 5 := ⟨by decide +kernel, rfl⟩
theorem e_X8_dearest_5 : Dc cX8_dearest 5 (.bipush 16) 2 7 := ⟨by decide +kernel, rfl⟩
theorem e_X8_dearest_7 : Dc cX8_dearest 7 (.if_icmp .ge 36) 3 10 := ⟨by decide +kernel, rfl⟩
theorem e_X8_dearest_10 : Dc cX8_dearest 10 (.aload_n 0) 1 11 := ⟨by decide +kernel, rfl⟩
theorem e_X8_dearest_11 : Dc cX8_dearest 11 (.getfield 7) 3 14 := ⟨by decide +kernel, rfl⟩
theorem e_X8_dearest_14 : Dc cX8_dearest 14 (.bipush 81) 2 16 := ⟨by decide +kernel, rfl⟩
theorem e_X8_dearest_16 : Dc cX8_dearest 16 (.iload_n 2) 1 17 := ⟨by decide +kernel, rfl⟩
theorem e_X8_dearest_17 : Dc cX8_dearest 17 (.iadd) 1 18 := ⟨by decide +kernel, rfl⟩
theorem e_X8_dearest_18 : Dc cX8_dearest 18 (.iaload) 1 19 := ⟨by decide +kernel, rfl⟩
theorem e_X8_dearest_19 : Dc cX8_dearest 19 (.aload_n 0) 1 20 := ⟨by decide +kernel, rfl⟩
theorem e_X8_dearest_20 : Dc cX8_dearest 20 (.getfield 7) 3 23 := ⟨by decide +kernel, rfl⟩
theorem e_X8_dearest_23 : Dc cX8_dearest 23 (.bipush 81) 2 25 := ⟨by decide +kernel, rfl⟩
theorem e_X8_dearest_25 : Dc cX8_dearest 25 (.iload_n 1) 1 26 := ⟨by decide +kernel, rfl⟩
theorem e_X8_dearest_26 : Dc cX8_dearest 26 (.iadd) 1 27 := ⟨by decide +kernel, rfl⟩
theorem e_X8_dearest_27 : Dc cX8_dearest 27 (.iaload) 1 28 := ⟨by decide +kernel, rfl⟩
theorem e_X8_dearest_28 : Dc cX8_dearest 28 (.if_icmp .le 7) 3 31 := ⟨by decide +kernel, rfl⟩
theorem e_X8_dearest_31 : Dc cX8_dearest 31 (.iload_n 2) 1 32 := ⟨by decide +kernel, rfl⟩
theorem e_X8_dearest_32 : Dc cX8_dearest 32 (.goto 4) 3 35 := ⟨by decide +kernel, rfl⟩
theorem e_X8_dearest_35 : Dc cX8_dearest 35 (.iload_n 1) 1 36 := ⟨by decide +kernel, rfl⟩
theorem e_X8_dearest_36 : Dc cX8_dearest 36 (.istore_n 1) 1 37 := ⟨by decide +kernel, rfl⟩
theorem e_X8_dearest_37 : Dc cX8_dearest 37 (.iinc 2 1) 3 40 := ⟨by decide +kernel, rfl⟩
theorem e_X8_dearest_40 : Dc cX8_dearest 40 (.goto (-36)) 3 43 := ⟨by decide +kernel, rfl⟩
theorem e_X8_dearest_43 : Dc cX8_dearest 43 (.iload_n 1) 1 44 := ⟨by decide +kernel, rfl⟩
theorem e_X8_dearest_44 : Dc cX8_dearest 44 (.ireturn) 1 45 := ⟨by decide +kernel, rfl⟩
set_option maxHeartbeats 4000000 in
set_option maxRecDepth 20000 in
theorem R_X8_dearest (hD : DD E) (s : Sg) : ∀ v, (f_X8_dearest s) = some v → RI l E 0 M_X8_dearest [.ref (ead E 70)] s v s := by
  refine ofP hD (by decide +kernel) (Nat.le_of_ble_eq_true rfl) (fun X C => ?_)
  show MF l E X (fun q : Int32 => QI E X q s) (f_X8_dearest s) s 0 [(0, .ref (ead E 70))] []
  unfold f_X8_dearest
  refine MF.iconst (v := (nI 0)) C e_X8_dearest_0 rfl ?_
  refine MF.istore_n (lv' := [(0, .ref (ead E 70)), (1, .int (nI 0))]) C e_X8_dearest_1 (by decide) rfl ?_
  refine MF.iconst (v := (nI 1)) C e_X8_dearest_2 rfl ?_
  refine MF.istore_n (lv' := [(0, .ref (ead E 70)), (1, .int (nI 0)), (2, .int (nI 1))]) C e_X8_dearest_3 (by decide) rfl ?_
  refine MF.loop2 (fun i1 i2 => s) (fun i1 i2 => [(0, .ref (ead E 70)), (1, .int i1), (2, .int i2)]) (fun self3 hself3 i1 i2 => ?_) fu (nI 0) (nI 1)
  unfold b_X8_dearest_4
  refine MF.iload_n C e_X8_dearest_4 2 rfl rfl ?_
  refine MF.bipush (v := (nI 16)) C e_X8_dearest_5 (by decide) ?_
  refine MF.icmp_ge (tgt := 43) C e_X8_dearest_7 (by decide) (fun _ => ?_) (fun _ => ?_)
  · refine MF.iload_n C e_X8_dearest_43 1 rfl rfl ?_
    exact MF.iretp C e_X8_dearest_44
  · refine MF.aload_n C e_X8_dearest_10 0 rfl rfl ?_
    refine MF.getR (j := 71) C cf_X8 l_X8_7 e_X8_dearest_11 kF_70_0 ?_
    refine MF.bipush (v := (nI 81)) C e_X8_dearest_14 (by decide) ?_
    refine MF.iload_n C e_X8_dearest_16 2 rfl rfl ?_
    refine MF.iadd C e_X8_dearest_17 ?_
    refine MF.iald C e_X8_dearest_18 kA_71 (fun v4 => ?_)
    refine MF.aload_n C e_X8_dearest_19 0 rfl rfl ?_
    refine MF.getR (j := 71) C cf_X8 l_X8_7 e_X8_dearest_20 kF_70_0 ?_
    refine MF.bipush (v := (nI 81)) C e_X8_dearest_23 (by decide) ?_
    refine MF.iload_n C e_X8_dearest_25 1 rfl rfl ?_
    refine MF.iadd C e_X8_dearest_26 ?_
    refine MF.iald C e_X8_dearest_27 kA_71 (fun v5 => ?_)
    refine MF.join (fun j : Int32 → Option Int32 => ∀ (a6 : Int32), MF l E X (fun q : Int32 => QI E X q s) (j a6) s 36 [(0, .ref (ead E 70)), (2, .int i2)] [.int a6]) ?_ (fun j7 hj7 => ?_)
    · intro a6
      refine MF.istore_n (lv' := [(0, .ref (ead E 70)), (1, .int a6), (2, .int i2)]) C e_X8_dearest_36 (by decide) rfl ?_
      refine MF.iinc (v := (nI 1)) (lv' := [(0, .ref (ead E 70)), (1, .int a6), (2, .int (i2 + (nI 1)))]) C e_X8_dearest_37 2 rfl rfl (by decide) rfl ?_
      refine MF.goto (tgt := 4) C e_X8_dearest_40 (by decide) ?_
      exact hself3 a6 (i2 + (nI 1))
    refine MF.icmp_le (tgt := 35) C e_X8_dearest_28 (by decide) (fun _ => ?_) (fun _ => ?_)
    · refine MF.iload_n C e_X8_dearest_35 1 rfl rfl ?_
      refine MF.sub [0, 2] rfl ?_
      exact hj7 i1
    · refine MF.iload_n C e_X8_dearest_31 2 rfl rfl ?_
      refine MF.goto (tgt := 36) C e_X8_dearest_32 (by decide) ?_
      refine MF.sub [0, 2] rfl ?_
      exact hj7 i2
theorem e_X8_layGets_0 : Dc cX8_layGets 0 (.aload_n 0) 1 1 := ⟨by decide +kernel, rfl⟩
theorem e_X8_layGets_1 : Dc cX8_layGets 1 (.invokevirtual 219) 3 4 := ⟨by decide +kernel, rfl⟩
theorem e_X8_layGets_4 : Dc cX8_layGets 4 (.istore 5) 2 6 := ⟨by decide +kernel, rfl⟩
theorem e_X8_layGets_6 : Dc cX8_layGets 6 (.iconst 0) 1 7 := ⟨by decide +kernel, rfl⟩
theorem e_X8_layGets_7 : Dc cX8_layGets 7 (.istore 6) 2 9 := ⟨by decide +kernel, rfl⟩
theorem e_X8_layGets_9 : Dc cX8_layGets 9 (.iload 6) 2 11 := ⟨by decide +kernel, rfl⟩
theorem e_X8_layGets_11 : Dc cX8_layGets 11 (.iconst 4) 1 12 := ⟨by decide +kernel, rfl⟩
theorem e_X8_layGets_12 : Dc cX8_layGets 12 (.if_icmp .ge 132) 3 15 := ⟨by decide +kernel, rfl⟩
theorem e_X8_layGets_15 : Dc cX8_layGets 15 (.aload_n 0) 1 16 := ⟨by decide +kernel, rfl⟩
theorem e_X8_layGets_16 : Dc cX8_layGets 16 (.iconst 0) 1 17 := ⟨by decide +kernel, rfl⟩
theorem e_X8_layGets_17 : Dc cX8_layGets 17 (.putfield 165) 3 20 := ⟨by decide +kernel, rfl⟩
theorem e_X8_layGets_20 : Dc cX8_layGets 20 (.iload 6) 2 22 := ⟨by decide +kernel, rfl⟩
theorem e_X8_layGets_22 : Dc cX8_layGets 22 (.iconst 1) 1 23 := ⟨by decide +kernel, rfl⟩
theorem e_X8_layGets_23 : Dc cX8_layGets 23 (.iand) 1 24 := ⟨by decide +kernel, rfl⟩
theorem e_X8_layGets_24 : Dc cX8_layGets 24 (.iconst 1) 1 25 := ⟨by decide +kernel, rfl⟩
theorem e_X8_layGets_25 : Dc cX8_layGets 25 (.if_icmp .ne 25) 3 28 := ⟨by decide +kernel, rfl⟩
theorem e_X8_layGets_28 : Dc cX8_layGets 28 (.aload_n 0) 1 29 := ⟨by decide +kernel, rfl⟩
theorem e_X8_layGets_29 : Dc cX8_layGets 29 (.aload_n 0) 1 30 := ⟨by decide +kernel, rfl⟩
theorem e_X8_layGets_30 : Dc cX8_layGets 30 (.getfield 165) 3 33 := ⟨by decide +kernel, rfl⟩
theorem e_X8_layGets_33 : Dc cX8_layGets 33 (.iload_n 1) 1 34 := ⟨by decide +kernel, rfl⟩
theorem e_X8_layGets_34 : Dc cX8_layGets 34 (.iload_n 3) 1 35 := ⟨by decide +kernel, rfl⟩
theorem e_X8_layGets_35 : Dc cX8_layGets 35 (.iload 5) 2 37 := ⟨by decide +kernel, rfl⟩
theorem e_X8_layGets_37 : Dc cX8_layGets 37 (.invokevirtual 195) 3 40 := ⟨by decide +kernel, rfl⟩
theorem e_X8_layGets_40 : Dc cX8_layGets 40 (.aload_n 0) 1 41 := ⟨by decide +kernel, rfl⟩
theorem e_X8_layGets_41 : Dc cX8_layGets 41 (.dup) 1 42 := ⟨by decide +kernel, rfl⟩
theorem e_X8_layGets_42 : Dc cX8_layGets 42 (.getfield 165) 3 45 := ⟨by decide +kernel, rfl⟩
theorem e_X8_layGets_45 : Dc cX8_layGets 45 (.iconst 1) 1 46 := ⟨by decide +kernel, rfl⟩
theorem e_X8_layGets_46 : Dc cX8_layGets 46 (.iadd) 1 47 := ⟨by decide +kernel, rfl⟩
theorem e_X8_layGets_47 : Dc cX8_layGets 47 (.putfield 165) 3 50 := ⟨by decide +kernel, rfl⟩
theorem e_X8_layGets_50 : Dc cX8_layGets 50 (.iload 6) 2 52 := ⟨by decide +kernel, rfl⟩
theorem e_X8_layGets_52 : Dc cX8_layGets 52 (.iconst 1) 1 53 := ⟨by decide +kernel, rfl⟩
theorem e_X8_layGets_53 : Dc cX8_layGets 53 (.if_icmp .le 25) 3 56 := ⟨by decide +kernel, rfl⟩
theorem e_X8_layGets_56 : Dc cX8_layGets 56 (.aload_n 0) 1 57 := ⟨by decide +kernel, rfl⟩
theorem e_X8_layGets_57 : Dc cX8_layGets 57 (.aload_n 0) 1 58 := ⟨by decide +kernel, rfl⟩
theorem e_X8_layGets_58 : Dc cX8_layGets 58 (.getfield 165) 3 61 := ⟨by decide +kernel, rfl⟩
theorem e_X8_layGets_61 : Dc cX8_layGets 61 (.iload_n 2) 1 62 := ⟨by decide +kernel, rfl⟩
theorem e_X8_layGets_62 : Dc cX8_layGets 62 (.iload_n 3) 1 63 := ⟨by decide +kernel, rfl⟩
theorem e_X8_layGets_63 : Dc cX8_layGets 63 (.iload 5) 2 65 := ⟨by decide +kernel, rfl⟩
theorem e_X8_layGets_65 : Dc cX8_layGets 65 (.invokevirtual 195) 3 68 := ⟨by decide +kernel, rfl⟩
theorem e_X8_layGets_68 : Dc cX8_layGets 68 (.aload_n 0) 1 69 := ⟨by decide +kernel, rfl⟩
theorem e_X8_layGets_69 : Dc cX8_layGets 69 (.dup) 1 70 := ⟨by decide +kernel, rfl⟩
theorem e_X8_layGets_70 : Dc cX8_layGets 70 (.getfield 165) 3 73 := ⟨by decide +kernel, rfl⟩
theorem e_X8_layGets_73 : Dc cX8_layGets 73 (.iconst 1) 1 74 := ⟨by decide +kernel, rfl⟩
theorem e_X8_layGets_74 : Dc cX8_layGets 74 (.iadd) 1 75 := ⟨by decide +kernel, rfl⟩
theorem e_X8_layGets_75 : Dc cX8_layGets 75 (.putfield 165) 3 78 := ⟨by decide +kernel, rfl⟩
theorem e_X8_layGets_78 : Dc cX8_layGets 78 (.aload_n 0) 1 79 := ⟨by decide +kernel, rfl⟩
theorem e_X8_layGets_79 : Dc cX8_layGets 79 (.aload_n 0) 1 80 := ⟨by decide +kernel, rfl⟩
theorem e_X8_layGets_80 : Dc cX8_layGets 80 (.invokevirtual 169) 3 83 := ⟨by decide +kernel, rfl⟩
theorem e_X8_layGets_83 : Dc cX8_layGets 83 (.invokevirtual 172) 3 86 := ⟨by decide +kernel, rfl⟩
theorem e_X8_layGets_86 : Dc cX8_layGets 86 (.aload_n 0) 1 87 := ⟨by decide +kernel, rfl⟩
theorem e_X8_layGets_87 : Dc cX8_layGets 87 (.getfield 53) 3 90 := ⟨by decide +kernel, rfl⟩
theorem e_X8_layGets_90 : Dc cX8_layGets 90 (.iload 6) 2 92 := ⟨by decide +kernel, rfl⟩
theorem e_X8_layGets_92 : Dc cX8_layGets 92 (.aload_n 0) 1 93 := ⟨by decide +kernel, rfl⟩
theorem e_X8_layGets_93 : Dc cX8_layGets 93 (.iload_n 1) 1 94 := ⟨by decide +kernel, rfl⟩
theorem e_X8_layGets_94 : Dc cX8_layGets 94 (.invokevirtual 216) 3 97 := ⟨by decide +kernel, rfl⟩
theorem e_X8_layGets_97 : Dc cX8_layGets 97 (.iload 6) 2 99 := ⟨by decide +kernel, rfl⟩
theorem e_X8_layGets_99 : Dc cX8_layGets 99 (.iconst 1) 1 100 := ⟨by decide +kernel, rfl⟩
theorem e_X8_layGets_100 : Dc cX8_layGets 100 (.iand) 1 101 := ⟨by decide +kernel, rfl⟩
theorem e_X8_layGets_101 : Dc cX8_layGets 101 (.iconst 1) 1 102 := ⟨by decide +kernel, rfl⟩
theorem e_X8_layGets_102 : Dc cX8_layGets 102 (.if_icmp .ne 8) 3 105 := ⟨by decide +kernel, rfl⟩
theorem e_X8_layGets_105 : Dc cX8_layGets 105 (.iload 4) 2 107 := ⟨by decide +kernel, rfl⟩
theorem e_X8_layGets_107 : Dc cX8_layGets 107 (.goto 4) 3 110 := ⟨by decide +kernel, rfl⟩
theorem e_X8_layGets_110 : Dc cX8_layGets 110 (.iconst 0) 1 111 := ⟨by decide +kernel, rfl⟩
theorem e_X8_layGets_111 : Dc cX8_layGets 111 (.isub) 1 112 := ⟨by decide +kernel, rfl⟩
theorem e_X8_layGets_112 : Dc cX8_layGets 112 (.iastore) 1 113 := ⟨by decide +kernel, rfl⟩
theorem e_X8_layGets_113 : Dc cX8_layGets 113 (.aload_n 0) 1 114 := ⟨by decide +kernel, rfl⟩
theorem e_X8_layGets_114 : Dc cX8_layGets 114 (.getfield 56) 3 117 := ⟨by decide +kernel, rfl⟩
theorem e_X8_layGets_117 : Dc cX8_layGets 117 (.iload 6) 2 119 := ⟨by decide +kernel, rfl⟩
theorem e_X8_layGets_119 : Dc cX8_layGets 119 (.aload_n 0) 1 120 := ⟨by decide +kernel, rfl⟩
theorem e_X8_layGets_120 : Dc cX8_layGets 120 (.iload_n 2) 1 121 := ⟨by decide +kernel, rfl⟩
theorem e_X8_layGets_121 : Dc cX8_layGets 121 (.invokevirtual 216) 3 124 := ⟨by decide +kernel, rfl⟩
theorem e_X8_layGets_124 : Dc cX8_layGets 124 (.iload 6) 2 126 := ⟨by decide +kernel, rfl⟩
theorem e_X8_layGets_126 : Dc cX8_layGets 126 (.iconst 1) 1 127 := ⟨by decide +kernel, rfl⟩
theorem e_X8_layGets_127 : Dc cX8_layGets 127 (.if_icmp .le 8) 3 130 := ⟨by decide +kernel, rfl⟩
theorem e_X8_layGets_130 : Dc cX8_layGets 130 (.iload 4) 2 132 := ⟨by decide +kernel, rfl⟩
theorem e_X8_layGets_132 : Dc cX8_layGets 132 (.goto 4) 3 135 := ⟨by decide +kernel, rfl⟩
theorem e_X8_layGets_135 : Dc cX8_layGets 135 (.iconst 0) 1 136 := ⟨by decide +kernel, rfl⟩
theorem e_X8_layGets_136 : Dc cX8_layGets 136 (.isub) 1 137 := ⟨by decide +kernel, rfl⟩
theorem e_X8_layGets_137 : Dc cX8_layGets 137 (.iastore) 1 138 := ⟨by decide +kernel, rfl⟩
theorem e_X8_layGets_138 : Dc cX8_layGets 138 (.iinc 6 1) 3 141 := ⟨by decide +kernel, rfl⟩
theorem e_X8_layGets_141 : Dc cX8_layGets 141 (.goto (-132)) 3 144 := ⟨by decide +kernel, rfl⟩
theorem e_X8_layGets_144 : Dc cX8_layGets 144 (.return_) 1 145 := ⟨by decide +kernel, rfl⟩
set_option maxHeartbeats 4000000 in
set_option maxRecDepth 20000 in
theorem R_X8_layGets (hD : DD E) (x1 : Int32) (x2 : Int32) (x3 : Int32) (x4 : Int32) (s : Sg) : ∀ τ, (f_X8_layGets x1 x2 x3 x4 s) = some τ → RV l E 5 M_X8_layGets [.ref (ead E 70), .int x1, .int x2, .int x3, .int x4] s τ := by
  refine ofU hD (by decide +kernel) (Nat.le_of_ble_eq_true rfl) (fun X C => ?_)
  show MF l E X (fun q : Sg => QV E X q) (f_X8_layGets x1 x2 x3 x4 s) s 0 [(0, .ref (ead E 70)), (1, .int x1), (2, .int x2), (3, .int x3), (4, .int x4)] []
  unfold f_X8_layGets
  refine MF.aload_n C e_X8_layGets_0 0 rfl rfl ?_
  refine MF.callVP (As := []) C (R_X8_dearest hD s) m_X8_dearest k_X8_219 kO_70 rfl (by decide) e_X8_layGets_1 rfl rfl (Nat.le_of_ble_eq_true rfl) (fun v1 => ?_)
  refine MF.istore (lv' := [(0, .ref (ead E 70)), (1, .int x1), (2, .int x2), (3, .int x3), (4, .int x4), (5, .int v1)]) C e_X8_layGets_4 (by decide) rfl ?_
  refine MF.iconst (v := (nI 0)) C e_X8_layGets_6 rfl ?_
  refine MF.istore (lv' := [(0, .ref (ead E 70)), (1, .int x1), (2, .int x2), (3, .int x3), (4, .int x4), (5, .int v1), (6, .int (nI 0))]) C e_X8_layGets_7 (by decide) rfl ?_
  refine MF.loop2 (fun i2 s3 => s3) (fun i2 s3 => [(0, .ref (ead E 70)), (1, .int x1), (2, .int x2), (3, .int x3), (4, .int x4), (5, .int v1), (6, .int i2)]) (fun self4 hself4 i2 s3 => ?_) fu (nI 0) s
  unfold b_X8_layGets_9
  refine MF.iload C e_X8_layGets_9 6 rfl ?_
  refine MF.iconst (v := (nI 4)) C e_X8_layGets_11 rfl ?_
  refine MF.icmp_ge (tgt := 144) C e_X8_layGets_12 (by decide) (fun _ => ?_) (fun _ => ?_)
  · exact MF.vret C e_X8_layGets_144
  · refine MF.aload_n C e_X8_layGets_15 0 rfl rfl ?_
    refine MF.iconst (v := (nI 0)) C e_X8_layGets_16 rfl ?_
    refine MF.put C cf_X8 l_X8_165 p_X8_11 e_X8_layGets_17 kF_70_11 rfl ?_
    refine MF.nmS (fun s5 => ?_)
    refine MF.iload C e_X8_layGets_20 6 rfl ?_
    refine MF.iconst (v := (nI 1)) C e_X8_layGets_22 rfl ?_
    refine MF.iand C e_X8_layGets_23 ?_
    refine MF.iconst (v := (nI 1)) C e_X8_layGets_24 rfl ?_
    refine MF.join (fun j : Sg → Option Sg => ∀ (s6 : Sg), MF l E X (fun q : Sg => QV E X q) (j s6) s6 50 [(0, .ref (ead E 70)), (1, .int x1), (2, .int x2), (3, .int x3), (4, .int x4), (5, .int v1), (6, .int i2)] []) ?_ (fun j7 hj7 => ?_)
    · intro s6
      refine MF.iload C e_X8_layGets_50 6 rfl ?_
      refine MF.iconst (v := (nI 1)) C e_X8_layGets_52 rfl ?_
      refine MF.join (fun j : Sg → Option Sg => ∀ (s8 : Sg), MF l E X (fun q : Sg => QV E X q) (j s8) s8 78 [(0, .ref (ead E 70)), (1, .int x1), (2, .int x2), (3, .int x3), (4, .int x4), (5, .int v1), (6, .int i2)] []) ?_ (fun j9 hj9 => ?_)
      · intro s8
        refine MF.aload_n C e_X8_layGets_78 0 rfl rfl ?_
        refine MF.aload_n C e_X8_layGets_79 0 rfl rfl ?_
        refine MF.callVP (As := []) C (R_X8_allEvents hD s8) m_X8_allEvents k_X8_169 kO_70 rfl (by decide) e_X8_layGets_80 rfl rfl (Nat.le_of_ble_eq_true rfl) (fun v10 => ?_)
        refine MF.callVU (As := [.int v10]) C (R_X8_run hD v10 s8) m_X8_run k_X8_172 kO_70 rfl (by decide) e_X8_layGets_83 rfl rfl (Nat.le_of_ble_eq_true rfl) (fun s11 => ?_)
        refine MF.aload_n C e_X8_layGets_86 0 rfl rfl ?_
        refine MF.getR (j := 85) C cf_X8 l_X8_53 e_X8_layGets_87 kF_70_18 ?_
        refine MF.iload C e_X8_layGets_90 6 rfl ?_
        refine MF.aload_n C e_X8_layGets_92 0 rfl rfl ?_
        refine MF.iload_n C e_X8_layGets_93 1 rfl rfl ?_
        refine MF.callVP (As := [.int x1]) C (R_X8_rentNow hD x1 s11) m_X8_rentNow k_X8_216 kO_70 rfl (by decide) e_X8_layGets_94 rfl rfl (Nat.le_of_ble_eq_true rfl) (fun v12 => ?_)
        refine MF.iload C e_X8_layGets_97 6 rfl ?_
        refine MF.iconst (v := (nI 1)) C e_X8_layGets_99 rfl ?_
        refine MF.iand C e_X8_layGets_100 ?_
        refine MF.iconst (v := (nI 1)) C e_X8_layGets_101 rfl ?_
        refine MF.join (fun j : Int32 → Option Sg => ∀ (a13 : Int32), MF l E X (fun q : Sg => QV E X q) (j a13) s11 111 [(0, .ref (ead E 70)), (1, .int x1), (2, .int x2), (3, .int x3), (4, .int x4), (5, .int v1), (6, .int i2)] [.int a13, .int v12, .int i2, .ref (ead E 85)]) ?_ (fun j14 hj14 => ?_)
        · intro a13
          refine MF.isub C e_X8_layGets_111 ?_
          refine MF.iast C e_X8_layGets_112 kA_85 (fun s15 => ?_)
          refine MF.aload_n C e_X8_layGets_113 0 rfl rfl ?_
          refine MF.getR (j := 86) C cf_X8 l_X8_56 e_X8_layGets_114 kF_70_19 ?_
          refine MF.iload C e_X8_layGets_117 6 rfl ?_
          refine MF.aload_n C e_X8_layGets_119 0 rfl rfl ?_
          refine MF.iload_n C e_X8_layGets_120 2 rfl rfl ?_
          refine MF.callVP (As := [.int x2]) C (R_X8_rentNow hD x2 s15) m_X8_rentNow k_X8_216 kO_70 rfl (by decide) e_X8_layGets_121 rfl rfl (Nat.le_of_ble_eq_true rfl) (fun v16 => ?_)
          refine MF.iload C e_X8_layGets_124 6 rfl ?_
          refine MF.iconst (v := (nI 1)) C e_X8_layGets_126 rfl ?_
          refine MF.join (fun j : Int32 → Option Sg => ∀ (a17 : Int32), MF l E X (fun q : Sg => QV E X q) (j a17) s15 136 [(0, .ref (ead E 70)), (1, .int x1), (2, .int x2), (3, .int x3), (4, .int x4), (5, .int v1), (6, .int i2)] [.int a17, .int v16, .int i2, .ref (ead E 86)]) ?_ (fun j18 hj18 => ?_)
          · intro a17
            refine MF.isub C e_X8_layGets_136 ?_
            refine MF.iast C e_X8_layGets_137 kA_86 (fun s19 => ?_)
            refine MF.iinc (v := (nI 1)) (lv' := [(0, .ref (ead E 70)), (1, .int x1), (2, .int x2), (3, .int x3), (4, .int x4), (5, .int v1), (6, .int (i2 + (nI 1)))]) C e_X8_layGets_138 6 rfl rfl (by decide) rfl ?_
            refine MF.goto (tgt := 9) C e_X8_layGets_141 (by decide) ?_
            exact hself4 (i2 + (nI 1)) s19
          refine MF.icmp_le (tgt := 135) C e_X8_layGets_127 (by decide) (fun _ => ?_) (fun _ => ?_)
          · refine MF.iconst (v := (nI 0)) C e_X8_layGets_135 rfl ?_
            exact hj18 (nI 0)
          · refine MF.iload C e_X8_layGets_130 4 rfl ?_
            refine MF.goto (tgt := 136) C e_X8_layGets_132 (by decide) ?_
            exact hj18 x4
        refine MF.icmp_ne (tgt := 110) C e_X8_layGets_102 (by decide) (fun _ => ?_) (fun _ => ?_)
        · refine MF.iconst (v := (nI 0)) C e_X8_layGets_110 rfl ?_
          exact hj14 (nI 0)
        · refine MF.iload C e_X8_layGets_105 4 rfl ?_
          refine MF.goto (tgt := 111) C e_X8_layGets_107 (by decide) ?_
          exact hj14 x4
      refine MF.icmp_le (tgt := 78) C e_X8_layGets_53 (by decide) (fun _ => ?_) (fun _ => ?_)
      · exact hj9 s6
      · refine MF.aload_n C e_X8_layGets_56 0 rfl rfl ?_
        refine MF.aload_n C e_X8_layGets_57 0 rfl rfl ?_
        refine MF.get C cf_X8 l_X8_165 e_X8_layGets_58 kF_70_11 ?_
        refine MF.iload_n C e_X8_layGets_61 2 rfl rfl ?_
        refine MF.iload_n C e_X8_layGets_62 3 rfl rfl ?_
        refine MF.iload C e_X8_layGets_63 5 rfl ?_
        refine MF.callVU (As := [.int (s6 70 11), .int x2, .int x3, .int v1]) C (R_X8_stageOne hD (s6 70 11) x2 x3 v1 s6) m_X8_stageOne k_X8_195 kO_70 rfl (by decide) e_X8_layGets_65 rfl rfl (Nat.le_of_ble_eq_true rfl) (fun s20 => ?_)
        refine MF.aload_n C e_X8_layGets_68 0 rfl rfl ?_
        refine MF.dup C e_X8_layGets_69 rfl ?_
        refine MF.get C cf_X8 l_X8_165 e_X8_layGets_70 kF_70_11 ?_
        refine MF.iconst (v := (nI 1)) C e_X8_layGets_73 rfl ?_
        refine MF.iadd C e_X8_layGets_74 ?_
        refine MF.put C cf_X8 l_X8_165 p_X8_11 e_X8_layGets_75 kF_70_11 rfl ?_
        refine MF.nmS (fun s21 => ?_)
        exact hj9 s21
    refine MF.icmp_ne (tgt := 50) C e_X8_layGets_25 (by decide) (fun _ => ?_) (fun _ => ?_)
    · exact hj7 s5
    · refine MF.aload_n C e_X8_layGets_28 0 rfl rfl ?_
      refine MF.aload_n C e_X8_layGets_29 0 rfl rfl ?_
      refine MF.get C cf_X8 l_X8_165 e_X8_layGets_30 kF_70_11 ?_
      refine MF.iload_n C e_X8_layGets_33 1 rfl rfl ?_
      refine MF.iload_n C e_X8_layGets_34 3 rfl rfl ?_
      refine MF.iload C e_X8_layGets_35 5 rfl ?_
      refine MF.callVU (As := [.int (s5 70 11), .int x1, .int x3, .int v1]) C (R_X8_stageOne hD (s5 70 11) x1 x3 v1 s5) m_X8_stageOne k_X8_195 kO_70 rfl (by decide) e_X8_layGets_37 rfl rfl (Nat.le_of_ble_eq_true rfl) (fun s22 => ?_)
      refine MF.aload_n C e_X8_layGets_40 0 rfl rfl ?_
      refine MF.dup C e_X8_layGets_41 rfl ?_
      refine MF.get C cf_X8 l_X8_165 e_X8_layGets_42 kF_70_11 ?_
      refine MF.iconst (v := (nI 1)) C e_X8_layGets_45 rfl ?_
      refine MF.iadd C e_X8_layGets_46 ?_
      refine MF.put C cf_X8 l_X8_165 p_X8_11 e_X8_layGets_47 kF_70_11 rfl ?_
      refine MF.nmS (fun s23 => ?_)
      exact hj7 s23
theorem e_X8_landlords_0 : Dc cX8_landlords 0 (.aload_n 0) 1 1 := ⟨by decide +kernel, rfl⟩
theorem e_X8_landlords_1 : Dc cX8_landlords 1 (.iload_n 1) 1 2 := ⟨by decide +kernel, rfl⟩
theorem e_X8_landlords_2 : Dc cX8_landlords 2 (.invokevirtual 113) 3 5 := ⟨by decide +kernel, rfl⟩
theorem e_X8_landlords_5 : Dc cX8_landlords 5 (.ifCond .eq 36) 3 8 := ⟨by decide +kernel, rfl⟩
theorem e_X8_landlords_8 : Dc cX8_landlords 8 (.aload_n 0) 1 9 := ⟨by decide +kernel, rfl⟩
theorem e_X8_landlords_9 : Dc cX8_landlords 9 (.iload_n 2) 1 10 := ⟨by decide +kernel, rfl⟩
theorem e_X8_landlords_10 : Dc cX8_landlords 10 (.invokevirtual 113) 3 13 := ⟨by decide +kernel, rfl⟩
theorem e_X8_landlords_13 : Dc cX8_landlords 13 (.ifCond .eq 28) 3 16 := ⟨by decide +kernel, rfl⟩
theorem e_X8_landlords_16 : Dc cX8_landlords 16 (.iload_n 1) 1 17 := ⟨by decide +kernel, rfl⟩
theorem e_X8_landlords_17 : Dc cX8_landlords 17 (.iload_n 2) 1 18 := ⟨by decide +kernel, rfl⟩
theorem e_X8_landlords_18 : Dc cX8_landlords 18 (.if_icmp .eq 23) 3 21 := ⟨by decide +kernel, rfl⟩
theorem e_X8_landlords_21 : Dc cX8_landlords 21 (.iload_n 3) 1 22 := ⟨by decide +kernel, rfl⟩
theorem e_X8_landlords_22 : Dc cX8_landlords 22 (.invokestatic 116) 3 25 := ⟨by decide +kernel, rfl⟩
theorem e_X8_landlords_25 : Dc cX8_landlords 25 (.ifCond .eq 16) 3 28 := ⟨by decide +kernel, rfl⟩
theorem e_X8_landlords_28 : Dc cX8_landlords 28 (.iload 4) 2 30 := ⟨by decide +kernel, rfl⟩
theorem e_X8_landlords_30 : Dc cX8_landlords 30 (.i2l) 1 31 := ⟨by decide +kernel, rfl⟩
theorem e_X8_landlords_31 : Dc cX8_landlords 31 (.lconst 0) 1 32 := ⟨by decide +kernel, rfl⟩
theorem e_X8_landlords_32 : Dc cX8_landlords 32 (.ldc2_w 132) 3 35 := ⟨by decide +kernel, rfl⟩
theorem e_X8_landlords_35 : Dc cX8_landlords 35 (.invokestatic 75) 3 38 := ⟨by decide +kernel, rfl⟩
theorem e_X8_landlords_38 : Dc cX8_landlords 38 (.ifCond .ne 10) 3 41 := ⟨by decide +kernel, rfl⟩
theorem e_X8_landlords_41 : Dc cX8_landlords 41 (.aload_n 0) 1 42 := ⟨by decide +kernel, rfl⟩
theorem e_X8_landlords_42 : Dc cX8_landlords 42 (.bipush (-2)) 2 44 := ⟨by decide +kernel, rfl⟩
theorem e_X8_landlords_44 : Dc cX8_landlords 44 (.invokevirtual 88) 3 47 := ⟨by decide +kernel, rfl⟩
theorem e_X8_landlords_47 : Dc cX8_landlords 47 (.ireturn) 1 48 := ⟨by decide +kernel, rfl⟩
theorem e_X8_landlords_48 : Dc cX8_landlords 48 (.aload_n 0) 1 49 := ⟨by decide +kernel, rfl⟩
theorem e_X8_landlords_49 : Dc cX8_landlords 49 (.iload_n 1) 1 50 := ⟨by decide +kernel, rfl⟩
theorem e_X8_landlords_50 : Dc cX8_landlords 50 (.iload_n 2) 1 51 := ⟨by decide +kernel, rfl⟩
theorem e_X8_landlords_51 : Dc cX8_landlords 51 (.iload_n 3) 1 52 := ⟨by decide +kernel, rfl⟩
theorem e_X8_landlords_52 : Dc cX8_landlords 52 (.iload 4) 2 54 := ⟨by decide +kernel, rfl⟩
theorem e_X8_landlords_54 : Dc cX8_landlords 54 (.invokevirtual 222) 3 57 := ⟨by decide +kernel, rfl⟩
theorem e_X8_landlords_57 : Dc cX8_landlords 57 (.iconst 0) 1 58 := ⟨by decide +kernel, rfl⟩
theorem e_X8_landlords_58 : Dc cX8_landlords 58 (.istore 5) 2 60 := ⟨by decide +kernel, rfl⟩
theorem e_X8_landlords_60 : Dc cX8_landlords 60 (.iconst 0) 1 61 := ⟨by decide +kernel, rfl⟩
theorem e_X8_landlords_61 : Dc cX8_landlords 61 (.istore 6) 2 63 := ⟨by decide +kernel, rfl⟩
theorem e_X8_landlords_63 : Dc cX8_landlords 63 (.iload 6) 2 65 := ⟨by decide +kernel, rfl⟩
theorem e_X8_landlords_65 : Dc cX8_landlords 65 (.iconst 4) 1 66 := ⟨by decide +kernel, rfl⟩
theorem e_X8_landlords_66 : Dc cX8_landlords 66 (.if_icmp .ge 72) 3 69 := ⟨by decide +kernel, rfl⟩
theorem e_X8_landlords_69 : Dc cX8_landlords 69 (.aload_n 0) 1 70 := ⟨by decide +kernel, rfl⟩
theorem e_X8_landlords_70 : Dc cX8_landlords 70 (.getfield 53) 3 73 := ⟨by decide +kernel, rfl⟩
theorem e_X8_landlords_73 : Dc cX8_landlords 73 (.iload 6) 2 75 := ⟨by decide +kernel, rfl⟩
theorem e_X8_landlords_75 : Dc cX8_landlords 75 (.iaload) 1 76 := ⟨by decide +kernel, rfl⟩
theorem e_X8_landlords_76 : Dc cX8_landlords 76 (.aload_n 0) 1 77 := ⟨by decide +kernel, rfl⟩
theorem e_X8_landlords_77 : Dc cX8_landlords 77 (.getfield 53) 3 80 := ⟨by decide +kernel, rfl⟩
theorem e_X8_landlords_80 : Dc cX8_landlords 80 (.iload 6) 2 82 := ⟨by decide +kernel, rfl⟩
theorem e_X8_landlords_82 : Dc cX8_landlords 82 (.iconst 1) 1 83 := ⟨by decide +kernel, rfl⟩
theorem e_X8_landlords_83 : Dc cX8_landlords 83 (.ixor) 1 84 := ⟨by decide +kernel, rfl⟩
theorem e_X8_landlords_84 : Dc cX8_landlords 84 (.iaload) 1 85 := ⟨by decide +kernel, rfl⟩
theorem e_X8_landlords_85 : Dc cX8_landlords 85 (.if_icmp .lt 26) 3 88 := ⟨by decide +kernel, rfl⟩
theorem e_X8_landlords_88 : Dc cX8_landlords 88 (.aload_n 0) 1 89 := ⟨by decide +kernel, rfl⟩
theorem e_X8_landlords_89 : Dc cX8_landlords 89 (.getfield 56) 3 92 := ⟨by decide +kernel, rfl⟩
theorem e_X8_landlords_92 : Dc cX8_landlords 92 (.iload 6) 2 94 := ⟨by decide +kernel, rfl⟩
theorem e_X8_landlords_94 : Dc cX8_landlords 94 (.iaload) 1 95 := ⟨by decide +kernel, rfl⟩
theorem e_X8_landlords_95 : Dc cX8_landlords 95 (.aload_n 0) 1 96 := ⟨by decide +kernel, rfl⟩
theorem e_X8_landlords_96 : Dc cX8_landlords 96 (.getfield 56) 3 99 := ⟨by decide +kernel, rfl⟩
theorem e_X8_landlords_99 : Dc cX8_landlords 99 (.iload 6) 2 101 := ⟨by decide +kernel, rfl⟩
theorem e_X8_landlords_101 : Dc cX8_landlords 101 (.iconst 2) 1 102 := ⟨by decide +kernel, rfl⟩
theorem e_X8_landlords_102 : Dc cX8_landlords 102 (.ixor) 1 103 := ⟨by decide +kernel, rfl⟩
theorem e_X8_landlords_103 : Dc cX8_landlords 103 (.iaload) 1 104 := ⟨by decide +kernel, rfl⟩
theorem e_X8_landlords_104 : Dc cX8_landlords 104 (.if_icmp .lt 7) 3 107 := ⟨by decide +kernel, rfl⟩
theorem e_X8_landlords_107 : Dc cX8_landlords 107 (.iconst 1) 1 108 := ⟨by decide +kernel, rfl⟩
theorem e_X8_landlords_108 : Dc cX8_landlords 108 (.goto 4) 3 111 := ⟨by decide +kernel, rfl⟩
theorem e_X8_landlords_111 : Dc cX8_landlords 111 (.iconst 0) 1 112 := ⟨by decide +kernel, rfl⟩
theorem e_X8_landlords_112 : Dc cX8_landlords 112 (.istore 7) 2 114 := ⟨by decide +kernel, rfl⟩
theorem e_X8_landlords_114 : Dc cX8_landlords 114 (.iload 5) 2 116 := ⟨by decide +kernel, rfl⟩
theorem e_X8_landlords_116 : Dc cX8_landlords 116 (.iload 7) 2 118 := ⟨by decide +kernel, rfl⟩
theorem e_X8_landlords_118 : Dc cX8_landlords 118 (.ifCond .eq 10) 3 121 := ⟨by decide +kernel, rfl⟩
theorem e_X8_landlords_121 : Dc cX8_landlords 121 (.iconst 1) 1 122 := ⟨by decide +kernel, rfl⟩
theorem e_X8_landlords_122 : Dc cX8_landlords 122 (.iload 6) 2 124 := ⟨by decide +kernel, rfl⟩
theorem e_X8_landlords_124 : Dc cX8_landlords 124 (.ishl) 1 125 := ⟨by decide +kernel, rfl⟩
theorem e_X8_landlords_125 : Dc cX8_landlords 125 (.goto 4) 3 128 := ⟨by decide +kernel, rfl⟩
theorem e_X8_landlords_128 : Dc cX8_landlords 128 (.iconst 0) 1 129 := ⟨by decide +kernel, rfl⟩
theorem e_X8_landlords_129 : Dc cX8_landlords 129 (.ior) 1 130 := ⟨by decide +kernel, rfl⟩
theorem e_X8_landlords_130 : Dc cX8_landlords 130 (.istore 5) 2 132 := ⟨by decide +kernel, rfl⟩
theorem e_X8_landlords_132 : Dc cX8_landlords 132 (.iinc 6 1) 3 135 := ⟨by decide +kernel, rfl⟩
theorem e_X8_landlords_135 : Dc cX8_landlords 135 (.goto (-72)) 3 138 := ⟨by decide +kernel, rfl⟩
theorem e_X8_landlords_138 : Dc cX8_landlords 138 (.iload 5) 2 140 := ⟨by decide +kernel, rfl⟩
theorem e_X8_landlords_140 : Dc cX8_landlords 140 (.ireturn) 1 141 := ⟨by decide +kernel, rfl⟩
set_option maxHeartbeats 4000000 in
set_option maxRecDepth 20000 in
theorem R_X8_landlords (hD : DD E) (x1 : Int32) (x2 : Int32) (x3 : Int32) (x4 : Int32) (s : Sg) : ∀ v τ, (f_X8_landlords x1 x2 x3 x4 s) = some (v, τ) → RI l E 6 M_X8_landlords [.ref (ead E 70), .int x1, .int x2, .int x3, .int x4] s v τ := by
  refine ofI hD (by decide +kernel) (Nat.le_of_ble_eq_true rfl) (fun X C => ?_)
  show MF l E X (fun q : Int32 × Sg => QI E X q.1 q.2) (f_X8_landlords x1 x2 x3 x4 s) s 0 [(0, .ref (ead E 70)), (1, .int x1), (2, .int x2), (3, .int x3), (4, .int x4)] []
  unfold f_X8_landlords
  refine MF.aload_n C e_X8_landlords_0 0 rfl rfl ?_
  refine MF.iload_n C e_X8_landlords_1 1 rfl rfl ?_
  refine MF.callVP (As := [.int x1]) C (R_X8_isStreet hD x1 s) m_X8_isStreet k_X8_113 kO_70 rfl (by decide) e_X8_landlords_2 rfl rfl (Nat.le_of_ble_eq_true rfl) (fun v1 => ?_)
  refine MF.if_eq (tgt := 41) C e_X8_landlords_5 (by decide) (fun _ => ?_) (fun _ => ?_)
  · refine MF.aload_n C e_X8_landlords_41 0 rfl rfl ?_
    refine MF.bipush (v := (-2 : Int32)) C e_X8_landlords_42 (by decide) ?_
    refine MF.callVI (As := [.int (-2 : Int32)]) C (R_X8_bad hD (-2 : Int32) s) m_X8_bad k_X8_88 kO_70 rfl (by decide) e_X8_landlords_44 rfl rfl (Nat.le_of_ble_eq_true rfl) (fun v2 s3 => ?_)
    exact MF.iret C e_X8_landlords_47
  · refine MF.aload_n C e_X8_landlords_8 0 rfl rfl ?_
    refine MF.iload_n C e_X8_landlords_9 2 rfl rfl ?_
    refine MF.callVP (As := [.int x2]) C (R_X8_isStreet hD x2 s) m_X8_isStreet k_X8_113 kO_70 rfl (by decide) e_X8_landlords_10 rfl rfl (Nat.le_of_ble_eq_true rfl) (fun v4 => ?_)
    refine MF.if_eq (tgt := 41) C e_X8_landlords_13 (by decide) (fun _ => ?_) (fun _ => ?_)
    · refine MF.aload_n C e_X8_landlords_41 0 rfl rfl ?_
      refine MF.bipush (v := (-2 : Int32)) C e_X8_landlords_42 (by decide) ?_
      refine MF.callVI (As := [.int (-2 : Int32)]) C (R_X8_bad hD (-2 : Int32) s) m_X8_bad k_X8_88 kO_70 rfl (by decide) e_X8_landlords_44 rfl rfl (Nat.le_of_ble_eq_true rfl) (fun v5 s6 => ?_)
      exact MF.iret C e_X8_landlords_47
    · refine MF.iload_n C e_X8_landlords_16 1 rfl rfl ?_
      refine MF.iload_n C e_X8_landlords_17 2 rfl rfl ?_
      refine MF.icmp_eq (tgt := 41) C e_X8_landlords_18 (by decide) (fun _ => ?_) (fun _ => ?_)
      · refine MF.aload_n C e_X8_landlords_41 0 rfl rfl ?_
        refine MF.bipush (v := (-2 : Int32)) C e_X8_landlords_42 (by decide) ?_
        refine MF.callVI (As := [.int (-2 : Int32)]) C (R_X8_bad hD (-2 : Int32) s) m_X8_bad k_X8_88 kO_70 rfl (by decide) e_X8_landlords_44 rfl rfl (Nat.le_of_ble_eq_true rfl) (fun v7 s8 => ?_)
        exact MF.iret C e_X8_landlords_47
      · refine MF.iload_n C e_X8_landlords_21 3 rfl rfl ?_
        refine MF.callSP (As := [.int x3]) C (R_X8_isHour hD x3 s) m_X8_isHour k_X8_116 (by decide) e_X8_landlords_22 rfl rfl (Nat.le_of_ble_eq_true rfl) (fun v9 => ?_)
        refine MF.if_eq (tgt := 41) C e_X8_landlords_25 (by decide) (fun _ => ?_) (fun _ => ?_)
        · refine MF.aload_n C e_X8_landlords_41 0 rfl rfl ?_
          refine MF.bipush (v := (-2 : Int32)) C e_X8_landlords_42 (by decide) ?_
          refine MF.callVI (As := [.int (-2 : Int32)]) C (R_X8_bad hD (-2 : Int32) s) m_X8_bad k_X8_88 kO_70 rfl (by decide) e_X8_landlords_44 rfl rfl (Nat.le_of_ble_eq_true rfl) (fun v10 s11 => ?_)
          exact MF.iret C e_X8_landlords_47
        · refine MF.iload C e_X8_landlords_28 4 rfl ?_
          refine MF.i2l C e_X8_landlords_30 ?_
          refine MF.lconst (v := (0 : Int64)) C e_X8_landlords_31 (by decide) ?_
          refine MF.ldc2 C e_X8_landlords_32 t_X8_132 ?_
          refine MF.callSP (As := [.long (Int32.toInt64 x4), .long (0 : Int64), .long (99 : Int64)]) C (R_X8_in hD (Int32.toInt64 x4) (0 : Int64) (99 : Int64) s) m_X8_in k_X8_75 (by decide) e_X8_landlords_35 rfl rfl (Nat.le_of_ble_eq_true rfl) (fun v12 => ?_)
          refine MF.if_ne (tgt := 48) C e_X8_landlords_38 (by decide) (fun _ => ?_) (fun _ => ?_)
          · refine MF.aload_n C e_X8_landlords_48 0 rfl rfl ?_
            refine MF.iload_n C e_X8_landlords_49 1 rfl rfl ?_
            refine MF.iload_n C e_X8_landlords_50 2 rfl rfl ?_
            refine MF.iload_n C e_X8_landlords_51 3 rfl rfl ?_
            refine MF.iload C e_X8_landlords_52 4 rfl ?_
            refine MF.callVU (As := [.int x1, .int x2, .int x3, .int x4]) C (R_X8_layGets hD x1 x2 x3 x4 s) m_X8_layGets k_X8_222 kO_70 rfl (by decide) e_X8_landlords_54 rfl rfl (Nat.le_of_ble_eq_true rfl) (fun s13 => ?_)
            refine MF.iconst (v := (nI 0)) C e_X8_landlords_57 rfl ?_
            refine MF.istore (lv' := [(0, .ref (ead E 70)), (1, .int x1), (2, .int x2), (3, .int x3), (4, .int x4), (5, .int (nI 0))]) C e_X8_landlords_58 (by decide) rfl ?_
            refine MF.iconst (v := (nI 0)) C e_X8_landlords_60 rfl ?_
            refine MF.istore (lv' := [(0, .ref (ead E 70)), (1, .int x1), (2, .int x2), (3, .int x3), (4, .int x4), (5, .int (nI 0)), (6, .int (nI 0))]) C e_X8_landlords_61 (by decide) rfl ?_
            refine MF.sub [0, 5, 6] rfl ?_
            refine MF.loop2 (fun i14 i15 => s13) (fun i14 i15 => [(0, .ref (ead E 70)), (5, .int i14), (6, .int i15)]) (fun self16 hself16 i14 i15 => ?_) fu (nI 0) (nI 0)
            unfold b_X8_landlords_63
            refine MF.iload C e_X8_landlords_63 2 rfl ?_
            refine MF.iconst (v := (nI 4)) C e_X8_landlords_65 rfl ?_
            refine MF.icmp_ge (tgt := 138) C e_X8_landlords_66 (by decide) (fun _ => ?_) (fun _ => ?_)
            · refine MF.iload C e_X8_landlords_138 1 rfl ?_
              exact MF.iret C e_X8_landlords_140
            · refine MF.aload_n C e_X8_landlords_69 0 rfl rfl ?_
              refine MF.getR (j := 85) C cf_X8 l_X8_53 e_X8_landlords_70 kF_70_18 ?_
              refine MF.iload C e_X8_landlords_73 2 rfl ?_
              refine MF.iald C e_X8_landlords_75 kA_85 (fun v17 => ?_)
              refine MF.aload_n C e_X8_landlords_76 0 rfl rfl ?_
              refine MF.getR (j := 85) C cf_X8 l_X8_53 e_X8_landlords_77 kF_70_18 ?_
              refine MF.iload C e_X8_landlords_80 2 rfl ?_
              refine MF.iconst (v := (nI 1)) C e_X8_landlords_82 rfl ?_
              refine MF.ixor C e_X8_landlords_83 ?_
              refine MF.iald C e_X8_landlords_84 kA_85 (fun v18 => ?_)
              refine MF.join (fun j : Int32 → Option (Int32 × Sg) => ∀ (a19 : Int32), MF l E X (fun q : Int32 × Sg => QI E X q.1 q.2) (j a19) s13 112 [(0, .ref (ead E 70)), (5, .int i14), (6, .int i15)] [.int a19]) ?_ (fun j20 hj20 => ?_)
              · intro a19
                refine MF.istore (lv' := [(0, .ref (ead E 70)), (5, .int i14), (6, .int i15), (7, .int a19)]) C e_X8_landlords_112 (by decide) rfl ?_
                refine MF.iload C e_X8_landlords_114 1 rfl ?_
                refine MF.iload C e_X8_landlords_116 3 rfl ?_
                refine MF.join (fun j : Int32 → Option (Int32 × Sg) => ∀ (a21 : Int32), MF l E X (fun q : Int32 × Sg => QI E X q.1 q.2) (j a21) s13 129 [(0, .ref (ead E 70)), (6, .int i15)] [.int a21, .int i14]) ?_ (fun j22 hj22 => ?_)
                · intro a21
                  refine MF.ior C e_X8_landlords_129 ?_
                  refine MF.nmI (fun v23 => ?_)
                  refine MF.istore (lv' := [(0, .ref (ead E 70)), (5, .int v23), (6, .int i15)]) C e_X8_landlords_130 (by decide) rfl ?_
                  refine MF.iinc (v := (nI 1)) (lv' := [(0, .ref (ead E 70)), (5, .int v23), (6, .int (i15 + (nI 1)))]) C e_X8_landlords_132 2 rfl rfl (by decide) rfl ?_
                  refine MF.goto (tgt := 63) C e_X8_landlords_135 (by decide) ?_
                  exact hself16 v23 (i15 + (nI 1))
                refine MF.if_eq (tgt := 128) C e_X8_landlords_118 (by decide) (fun _ => ?_) (fun _ => ?_)
                · refine MF.iconst (v := (nI 0)) C e_X8_landlords_128 rfl ?_
                  refine MF.sub [0, 2] rfl ?_
                  exact hj22 (nI 0)
                · refine MF.iconst (v := (nI 1)) C e_X8_landlords_121 rfl ?_
                  refine MF.iload C e_X8_landlords_122 2 rfl ?_
                  refine MF.ishl C e_X8_landlords_124 ?_
                  refine MF.goto (tgt := 129) C e_X8_landlords_125 (by decide) ?_
                  refine MF.sub [0, 2] rfl ?_
                  exact hj22 ((nI 1) <<< (i15 &&& 31))
              refine MF.join (fun j : Unit → Option (Int32 × Sg) => ∀ (_u : Unit), MF l E X (fun q : Int32 × Sg => QI E X q.1 q.2) (j _u) s13 111 [(0, .ref (ead E 70)), (5, .int i14), (6, .int i15)] []) ?_ (fun j24 hj24 => ?_)
              · intro _
                refine MF.iconst (v := (nI 0)) C e_X8_landlords_111 rfl ?_
                exact hj20 (nI 0)
              refine MF.icmp_lt (tgt := 111) C e_X8_landlords_85 (by decide) (fun _ => ?_) (fun _ => ?_)
              · exact hj24 ()
              · refine MF.aload_n C e_X8_landlords_88 0 rfl rfl ?_
                refine MF.getR (j := 86) C cf_X8 l_X8_56 e_X8_landlords_89 kF_70_19 ?_
                refine MF.iload C e_X8_landlords_92 2 rfl ?_
                refine MF.iald C e_X8_landlords_94 kA_86 (fun v25 => ?_)
                refine MF.aload_n C e_X8_landlords_95 0 rfl rfl ?_
                refine MF.getR (j := 86) C cf_X8 l_X8_56 e_X8_landlords_96 kF_70_19 ?_
                refine MF.iload C e_X8_landlords_99 2 rfl ?_
                refine MF.iconst (v := (nI 2)) C e_X8_landlords_101 rfl ?_
                refine MF.ixor C e_X8_landlords_102 ?_
                refine MF.iald C e_X8_landlords_103 kA_86 (fun v26 => ?_)
                refine MF.icmp_lt (tgt := 111) C e_X8_landlords_104 (by decide) (fun _ => ?_) (fun _ => ?_)
                · exact hj24 ()
                · refine MF.iconst (v := (nI 1)) C e_X8_landlords_107 rfl ?_
                  refine MF.goto (tgt := 112) C e_X8_landlords_108 (by decide) ?_
                  exact hj20 (nI 1)
          · refine MF.aload_n C e_X8_landlords_41 0 rfl rfl ?_
            refine MF.bipush (v := (-2 : Int32)) C e_X8_landlords_42 (by decide) ?_
            refine MF.callVI (As := [.int (-2 : Int32)]) C (R_X8_bad hD (-2 : Int32) s) m_X8_bad k_X8_88 kO_70 rfl (by decide) e_X8_landlords_44 rfl rfl (Nat.le_of_ble_eq_true rfl) (fun v27 s28 => ?_)
            exact MF.iret C e_X8_landlords_47
end WK
