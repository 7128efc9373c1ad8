section WK
variable {l : Launch} {E : EX}
theorem e_X0_wordIn_0 : Dc cX0_wordIn 0 (.iload_n 1) 1 1 := ⟨by decide +kernel, rfl⟩
theorem e_X0_wordIn_1 : Dc cX0_wordIn 1 (.bipush 7) 2 3 := ⟨by decide +kernel, rfl⟩
theorem e_X0_wordIn_3 : Dc cX0_wordIn 3 (.invokestatic 103) 3 6 := ⟨by decide +kernel, rfl⟩
theorem e_X0_wordIn_6 : Dc cX0_wordIn 6 (.ifCond .ne 5) 3 9 := ⟨by decide +kernel, rfl⟩
theorem e_X0_wordIn_9 : Dc cX0_wordIn 9 (.iconst (-1)) 1 10 := ⟨by decide +kernel, rfl⟩
theorem e_X0_wordIn_10 : Dc cX0_wordIn 10 (.ireturn) 1 11 := ⟨by decide +kernel, rfl⟩
theorem e_X0_wordIn_11 : Dc cX0_wordIn 11 (.aload_n 0) 1 12 := ⟨by decide +kernel, rfl⟩
theorem e_X0_wordIn_12 : Dc cX0_wordIn 12 (.iload_n 1) 1 13 := ⟨by decide +kernel, rfl⟩
theorem e_X0_wordIn_13 : Dc cX0_wordIn 13 (.invokevirtual 107) 3 16 := ⟨by decide +kernel, rfl⟩
theorem e_X0_wordIn_16 : Dc cX0_wordIn 16 (.aload_n 0) 1 17 := ⟨by decide +kernel, rfl⟩
theorem e_X0_wordIn_17 : Dc cX0_wordIn 17 (.iload_n 1) 1 18 := ⟨by decide +kernel, rfl⟩
theorem e_X0_wordIn_18 : Dc cX0_wordIn 18 (.iload_n 2) 1 19 := ⟨by decide +kernel, rfl⟩
theorem e_X0_wordIn_19 : Dc cX0_wordIn 19 (.iload_n 3) 1 20 := ⟨by decide +kernel, rfl⟩
theorem e_X0_wordIn_20 : Dc cX0_wordIn 20 (.invokevirtual 110) 3 23 := ⟨by decide +kernel, rfl⟩
theorem e_X0_wordIn_23 : Dc cX0_wordIn 23 (.pop) 1 24 := ⟨by decide +kernel, rfl⟩
theorem e_X0_wordIn_24 : Dc cX0_wordIn 24 (.aload_n 0) 1 25 := ⟨by decide +kernel, rfl⟩
theorem e_X0_wordIn_25 : Dc cX0_wordIn 25 (.getfield 27) 3 28 := ⟨by decide +kernel, rfl⟩
theorem e_X0_wordIn_28 : Dc cX0_wordIn 28 (.iload_n 1) 1 29 := ⟨by decide +kernel, rfl⟩
theorem e_X0_wordIn_29 : Dc cX0_wordIn 29 (.iaload) 1 30 := ⟨by decide +kernel, rfl⟩
theorem e_X0_wordIn_30 : Dc cX0_wordIn 30 (.ireturn) 1 31 := ⟨by decide +kernel, rfl⟩
set_option maxHeartbeats 4000000 in
set_option maxRecDepth 20000 in
theorem R_X0_wordIn (hD : DD E) (x1 : Int32) (x2 : Int32) (x3 : Int32) (s : Sg) : ∀ v τ, (f_X0_wordIn x1 x2 x3 s) = some (v, τ) → RI l E 3 M_X0_wordIn [.ref (ead E 52), .int x1, .int x2, .int x3] s v τ := by
  refine ofI hD (by decide +kernel) (Nat.le_of_ble_eq_true rfl) (fun X C => ?_)
  show MF l E X (fun q : Int32 × Sg => QI E X q.1 q.2) (f_X0_wordIn x1 x2 x3 s) s 0 [(0, .ref (ead E 52)), (1, .int x1), (2, .int x2), (3, .int x3)] []
  unfold f_X0_wordIn
  refine MF.iload_n C e_X0_wordIn_0 1 rfl rfl ?_
  refine MF.bipush (v := (nI 7)) C e_X0_wordIn_1 (by decide) ?_
  refine MF.callSNP (As := [.int x1, .int (nI 7)]) C (R_X7_isBelow hD x1 (nI 7) s) m_X7_isBelow k_X0_103 (by decide) e_X0_wordIn_3 rfl rfl (Nat.le_of_ble_eq_true rfl) (fun v1 => ?_)
  refine MF.if_ne (tgt := 11) C e_X0_wordIn_6 (by decide) (fun _ => ?_) (fun _ => ?_)
  · refine MF.aload_n C e_X0_wordIn_11 0 rfl rfl ?_
    refine MF.iload_n C e_X0_wordIn_12 1 rfl rfl ?_
    refine MF.callVU (As := [.int x1]) C (R_X0_begin hD x1 s) m_X0_begin k_X0_107 kO_52 rfl (by decide) e_X0_wordIn_13 rfl rfl (Nat.le_of_ble_eq_true rfl) (fun s2 => ?_)
    refine MF.aload_n C e_X0_wordIn_16 0 rfl rfl ?_
    refine MF.iload_n C e_X0_wordIn_17 1 rfl rfl ?_
    refine MF.iload_n C e_X0_wordIn_18 2 rfl rfl ?_
    refine MF.iload_n C e_X0_wordIn_19 3 rfl rfl ?_
    refine MF.callVI (As := [.int x1, .int x2, .int x3]) C (R_X0_live hD x1 x2 x3 s2) m_X0_live k_X0_110 kO_52 rfl (by decide) e_X0_wordIn_20 rfl rfl (Nat.le_of_ble_eq_true rfl) (fun v3 s4 => ?_)
    refine MF.pop C e_X0_wordIn_23 rfl ?_
    refine MF.aload_n C e_X0_wordIn_24 0 rfl rfl ?_
    refine MF.getR (j := 57) C cf_X0 l_X0_27 e_X0_wordIn_25 kF_52_3 ?_
    refine MF.iload_n C e_X0_wordIn_28 1 rfl rfl ?_
    refine MF.iald C e_X0_wordIn_29 kA_57 (fun v5 => ?_)
    exact MF.iret C e_X0_wordIn_30
  · refine MF.iconst (v := (-1 : Int32)) C e_X0_wordIn_9 rfl ?_
    exact MF.iret C e_X0_wordIn_10
theorem e_X0_renamings_0 : Dc cX0_renamings 0 (.iload_n 1) 1 1 := ⟨by decide +kernel, rfl⟩
theorem e_X0_renamings_1 : Dc cX0_renamings 1 (.bipush 7) 2 3 := ⟨by decide +kernel, rfl⟩
theorem e_X0_renamings_3 : Dc cX0_renamings 3 (.invokestatic 103) 3 6 := ⟨by decide +kernel, rfl⟩
theorem e_X0_renamings_6 : Dc cX0_renamings 6 (.ifCond .ne 5) 3 9 := ⟨by decide +kernel, rfl⟩
theorem e_X0_renamings_9 : Dc cX0_renamings 9 (.iconst 0) 1 10 := ⟨by decide +kernel, rfl⟩
theorem e_X0_renamings_10 : Dc cX0_renamings 10 (.ireturn) 1 11 := ⟨by decide +kernel, rfl⟩
theorem e_X0_renamings_11 : Dc cX0_renamings 11 (.aload_n 0) 1 12 := ⟨by decide +kernel, rfl⟩
theorem e_X0_renamings_12 : Dc cX0_renamings 12 (.iload_n 1) 1 13 := ⟨by decide +kernel, rfl⟩
theorem e_X0_renamings_13 : Dc cX0_renamings 13 (.invokevirtual 107) 3 16 := ⟨by decide +kernel, rfl⟩
theorem e_X0_renamings_16 : Dc cX0_renamings 16 (.aload_n 0) 1 17 := ⟨by decide +kernel, rfl⟩
theorem e_X0_renamings_17 : Dc cX0_renamings 17 (.iload_n 1) 1 18 := ⟨by decide +kernel, rfl⟩
theorem e_X0_renamings_18 : Dc cX0_renamings 18 (.bipush 23) 2 20 := ⟨by decide +kernel, rfl⟩
theorem e_X0_renamings_20 : Dc cX0_renamings 20 (.iload_n 2) 1 21 := ⟨by decide +kernel, rfl⟩
theorem e_X0_renamings_21 : Dc cX0_renamings 21 (.invokevirtual 110) 3 24 := ⟨by decide +kernel, rfl⟩
theorem e_X0_renamings_24 : Dc cX0_renamings 24 (.ireturn) 1 25 := ⟨by decide +kernel, rfl⟩
set_option maxHeartbeats 4000000 in
set_option maxRecDepth 20000 in
theorem R_X0_renamings (hD : DD E) (x1 : Int32) (x2 : Int32) (s : Sg) : ∀ v τ, (f_X0_renamings x1 x2 s) = some (v, τ) → RI l E 3 M_X0_renamings [.ref (ead E 52), .int x1, .int x2] s v τ := by
  refine ofI hD (by decide +kernel) (Nat.le_of_ble_eq_true rfl) (fun X C => ?_)
  show MF l E X (fun q : Int32 × Sg => QI E X q.1 q.2) (f_X0_renamings x1 x2 s) s 0 [(0, .ref (ead E 52)), (1, .int x1), (2, .int x2)] []
  unfold f_X0_renamings
  refine MF.iload_n C e_X0_renamings_0 1 rfl rfl ?_
  refine MF.bipush (v := (nI 7)) C e_X0_renamings_1 (by decide) ?_
  refine MF.callSNP (As := [.int x1, .int (nI 7)]) C (R_X7_isBelow hD x1 (nI 7) s) m_X7_isBelow k_X0_103 (by decide) e_X0_renamings_3 rfl rfl (Nat.le_of_ble_eq_true rfl) (fun v1 => ?_)
  refine MF.if_ne (tgt := 11) C e_X0_renamings_6 (by decide) (fun _ => ?_) (fun _ => ?_)
  · refine MF.aload_n C e_X0_renamings_11 0 rfl rfl ?_
    refine MF.iload_n C e_X0_renamings_12 1 rfl rfl ?_
    refine MF.callVU (As := [.int x1]) C (R_X0_begin hD x1 s) m_X0_begin k_X0_107 kO_52 rfl (by decide) e_X0_renamings_13 rfl rfl (Nat.le_of_ble_eq_true rfl) (fun s2 => ?_)
    refine MF.aload_n C e_X0_renamings_16 0 rfl rfl ?_
    refine MF.iload_n C e_X0_renamings_17 1 rfl rfl ?_
    refine MF.bipush (v := (nI 23)) C e_X0_renamings_18 (by decide) ?_
    refine MF.iload_n C e_X0_renamings_20 2 rfl rfl ?_
    refine MF.callVI (As := [.int x1, .int (nI 23), .int x2]) C (R_X0_live hD x1 (nI 23) x2 s2) m_X0_live k_X0_110 kO_52 rfl (by decide) e_X0_renamings_21 rfl rfl (Nat.le_of_ble_eq_true rfl) (fun v3 s4 => ?_)
    exact MF.iret C e_X0_renamings_24
  · refine MF.iconst (v := (nI 0)) C e_X0_renamings_9 rfl ?_
    exact MF.iret C e_X0_renamings_10
theorem e_X5_rentAt_0 : Dc cX5_rentAt 0 (.iload_n 1) 1 1 := ⟨by decide +kernel, rfl⟩
theorem e_X5_rentAt_1 : Dc cX5_rentAt 1 (.bipush 16) 2 3 := ⟨by decide +kernel, rfl⟩
theorem e_X5_rentAt_3 : Dc cX5_rentAt 3 (.invokestatic 46) 3 6 := ⟨by decide +kernel, rfl⟩
theorem e_X5_rentAt_6 : Dc cX5_rentAt 6 (.ifCond .eq 12) 3 9 := ⟨by decide +kernel, rfl⟩
theorem e_X5_rentAt_9 : Dc cX5_rentAt 9 (.aload_n 0) 1 10 := ⟨by decide +kernel, rfl⟩
theorem e_X5_rentAt_10 : Dc cX5_rentAt 10 (.getfield 29) 3 13 := ⟨by decide +kernel, rfl⟩
theorem e_X5_rentAt_13 : Dc cX5_rentAt 13 (.iload_n 1) 1 14 := ⟨by decide +kernel, rfl⟩
theorem e_X5_rentAt_14 : Dc cX5_rentAt 14 (.iaload) 1 15 := ⟨by decide +kernel, rfl⟩
theorem e_X5_rentAt_15 : Dc cX5_rentAt 15 (.goto 4) 3 18 := ⟨by decide +kernel, rfl⟩
theorem e_X5_rentAt_18 : Dc cX5_rentAt 18 (.iconst 0) 1 19 := ⟨by decide +kernel, rfl⟩
theorem e_X5_rentAt_19 : Dc cX5_rentAt 19 (.ireturn) 1 20 := ⟨by decide +kernel, rfl⟩
set_option maxHeartbeats 4000000 in
set_option maxRecDepth 20000 in
theorem R_X5_rentAt (hD : DD E) (t : Nat) (x1 : Int32) (ht : iTo t) (s : Sg) : ∀ v, (f_X5_rentAt t x1 s) = some v → RI l E 1 M_X5_rentAt [.ref (ead E t), .int x1] s v s := by
  refine ofP hD (by decide +kernel) (Nat.le_of_ble_eq_true rfl) (fun X C => ?_)
  show MF l E X (fun q : Int32 => QI E X q s) (f_X5_rentAt t x1 s) s 0 [(0, .ref (ead E t)), (1, .int x1)] []
  unfold f_X5_rentAt
  refine MF.iload_n C e_X5_rentAt_0 1 rfl rfl ?_
  refine MF.bipush (v := (nI 16)) C e_X5_rentAt_1 (by decide) ?_
  refine MF.callSNP (As := [.int x1, .int (nI 16)]) C (R_X7_isBelow hD x1 (nI 16) s) m_X7_isBelow k_X5_46 (by decide) e_X5_rentAt_3 rfl rfl (Nat.le_of_ble_eq_true rfl) (fun v1 => ?_)
  refine MF.if_eq (tgt := 18) C e_X5_rentAt_6 (by decide) (fun _ => ?_) (fun _ => ?_)
  · refine MF.iconst (v := (nI 0)) C e_X5_rentAt_18 rfl ?_
    exact MF.iretp C e_X5_rentAt_19
  · refine MF.aload_n C e_X5_rentAt_9 0 rfl rfl ?_
    refine MF.getR (j := (t + 9)) C cf_X5 l_X5_29 e_X5_rentAt_10 (iTo.f4 ht) ?_
    refine MF.iload_n C e_X5_rentAt_13 1 rfl rfl ?_
    refine MF.iald C e_X5_rentAt_14 (iTo.o4 ht) (fun v2 => ?_)
    refine MF.goto (tgt := 19) C e_X5_rentAt_15 (by decide) ?_
    exact MF.iretp C e_X5_rentAt_19
theorem e_X0_rentOf_0 : Dc cX0_rentOf 0 (.iload_n 1) 1 1 := ⟨by decide +kernel, rfl⟩
theorem e_X0_rentOf_1 : Dc cX0_rentOf 1 (.bipush 7) 2 3 := ⟨by decide +kernel, rfl⟩
theorem e_X0_rentOf_3 : Dc cX0_rentOf 3 (.invokestatic 103) 3 6 := ⟨by decide +kernel, rfl⟩
theorem e_X0_rentOf_6 : Dc cX0_rentOf 6 (.ifCond .ne 5) 3 9 := ⟨by decide +kernel, rfl⟩
theorem e_X0_rentOf_9 : Dc cX0_rentOf 9 (.iconst 0) 1 10 := ⟨by decide +kernel, rfl⟩
theorem e_X0_rentOf_10 : Dc cX0_rentOf 10 (.ireturn) 1 11 := ⟨by decide +kernel, rfl⟩
theorem e_X0_rentOf_11 : Dc cX0_rentOf 11 (.aload_n 0) 1 12 := ⟨by decide +kernel, rfl⟩
theorem e_X0_rentOf_12 : Dc cX0_rentOf 12 (.iload_n 1) 1 13 := ⟨by decide +kernel, rfl⟩
theorem e_X0_rentOf_13 : Dc cX0_rentOf 13 (.invokevirtual 107) 3 16 := ⟨by decide +kernel, rfl⟩
theorem e_X0_rentOf_16 : Dc cX0_rentOf 16 (.iconst 0) 1 17 := ⟨by decide +kernel, rfl⟩
theorem e_X0_rentOf_17 : Dc cX0_rentOf 17 (.istore_n 3) 1 18 := ⟨by decide +kernel, rfl⟩
theorem e_X0_rentOf_18 : Dc cX0_rentOf 18 (.iconst 0) 1 19 := ⟨by decide +kernel, rfl⟩
theorem e_X0_rentOf_19 : Dc cX0_rentOf 19 (.istore 4) 2 21 := ⟨by decide +kernel, rfl⟩
theorem e_X0_rentOf_21 : Dc cX0_rentOf 21 (.iload 4) 2 23 := ⟨by decide +kernel, rfl⟩
theorem e_X0_rentOf_23 : Dc cX0_rentOf 23 (.bipush 24) 2 25 := ⟨by decide +kernel, rfl⟩
theorem e_X0_rentOf_25 : Dc cX0_rentOf 25 (.if_icmp .ge 31) 3 28 := ⟨by decide +kernel, rfl⟩
theorem e_X0_rentOf_28 : Dc cX0_rentOf 28 (.aload_n 0) 1 29 := ⟨by decide +kernel, rfl⟩
theorem e_X0_rentOf_29 : Dc cX0_rentOf 29 (.iload_n 1) 1 30 := ⟨by decide +kernel, rfl⟩
theorem e_X0_rentOf_30 : Dc cX0_rentOf 30 (.iload 4) 2 32 := ⟨by decide +kernel, rfl⟩
theorem e_X0_rentOf_32 : Dc cX0_rentOf 32 (.iconst (-1)) 1 33 := ⟨by decide +kernel, rfl⟩
theorem e_X0_rentOf_33 : Dc cX0_rentOf 33 (.invokevirtual 110) 3 36 := ⟨by decide +kernel, rfl⟩
theorem e_X0_rentOf_36 : Dc cX0_rentOf 36 (.pop) 1 37 := ⟨by decide +kernel, rfl⟩
theorem e_X0_rentOf_37 : Dc cX0_rentOf 37 (.iload_n 3) 1 38 := ⟨by decide +kernel, rfl⟩
theorem e_X0_rentOf_38 : Dc cX0_rentOf 38 (.aload_n 2) 1 39 := ⟨by decide +kernel, rfl⟩
theorem e_X0_rentOf_39 : Dc cX0_rentOf 39 (.aload_n 0) 1 40 := ⟨by decide +kernel, rfl⟩
theorem e_X0_rentOf_40 : Dc cX0_rentOf 40 (.getfield 27) 3 43 := ⟨by decide +kernel, rfl⟩
theorem e_X0_rentOf_43 : Dc cX0_rentOf 43 (.iload_n 1) 1 44 := ⟨by decide +kernel, rfl⟩
theorem e_X0_rentOf_44 : Dc cX0_rentOf 44 (.iaload) 1 45 := ⟨by decide +kernel, rfl⟩
theorem e_X0_rentOf_45 : Dc cX0_rentOf 45 (.invokevirtual 114) 3 48 := ⟨by decide +kernel, rfl⟩
theorem e_X0_rentOf_48 : Dc cX0_rentOf 48 (.iadd) 1 49 := ⟨by decide +kernel, rfl⟩
theorem e_X0_rentOf_49 : Dc cX0_rentOf 49 (.istore_n 3) 1 50 := ⟨by decide +kernel, rfl⟩
theorem e_X0_rentOf_50 : Dc cX0_rentOf 50 (.iinc 4 1) 3 53 := ⟨by decide +kernel, rfl⟩
theorem e_X0_rentOf_53 : Dc cX0_rentOf 53 (.goto (-32)) 3 56 := ⟨by decide +kernel, rfl⟩
theorem e_X0_rentOf_56 : Dc cX0_rentOf 56 (.iload_n 3) 1 57 := ⟨by decide +kernel, rfl⟩
theorem e_X0_rentOf_57 : Dc cX0_rentOf 57 (.ireturn) 1 58 := ⟨by decide +kernel, rfl⟩
set_option maxHeartbeats 4000000 in
set_option maxRecDepth 20000 in
theorem R_X0_rentOf (hD : DD E) (x1 : Int32) (t2 : Nat) (ht2 : iTo t2) (s : Sg) : ∀ v τ, (f_X0_rentOf x1 t2 s) = some (v, τ) → RI l E 3 M_X0_rentOf [.ref (ead E 52), .int x1, .ref (ead E t2)] s v τ := by
  refine ofI hD (by decide +kernel) (Nat.le_of_ble_eq_true rfl) (fun X C => ?_)
  show MF l E X (fun q : Int32 × Sg => QI E X q.1 q.2) (f_X0_rentOf x1 t2 s) s 0 [(0, .ref (ead E 52)), (1, .int x1), (2, .ref (ead E t2))] []
  unfold f_X0_rentOf
  refine MF.iload_n C e_X0_rentOf_0 1 rfl rfl ?_
  refine MF.bipush (v := (nI 7)) C e_X0_rentOf_1 (by decide) ?_
  refine MF.callSNP (As := [.int x1, .int (nI 7)]) C (R_X7_isBelow hD x1 (nI 7) s) m_X7_isBelow k_X0_103 (by decide) e_X0_rentOf_3 rfl rfl (Nat.le_of_ble_eq_true rfl) (fun v1 => ?_)
  refine MF.if_ne (tgt := 11) C e_X0_rentOf_6 (by decide) (fun _ => ?_) (fun _ => ?_)
  · refine MF.aload_n C e_X0_rentOf_11 0 rfl rfl ?_
    refine MF.iload_n C e_X0_rentOf_12 1 rfl rfl ?_
    refine MF.callVU (As := [.int x1]) C (R_X0_begin hD x1 s) m_X0_begin k_X0_107 kO_52 rfl (by decide) e_X0_rentOf_13 rfl rfl (Nat.le_of_ble_eq_true rfl) (fun s2 => ?_)
    refine MF.iconst (v := (nI 0)) C e_X0_rentOf_16 rfl ?_
    refine MF.istore_n (lv' := [(0, .ref (ead E 52)), (1, .int x1), (2, .ref (ead E t2)), (3, .int (nI 0))]) C e_X0_rentOf_17 (by decide) rfl ?_
    refine MF.iconst (v := (nI 0)) C e_X0_rentOf_18 rfl ?_
    refine MF.istore (lv' := [(0, .ref (ead E 52)), (1, .int x1), (2, .ref (ead E t2)), (3, .int (nI 0)), (4, .int (nI 0))]) C e_X0_rentOf_19 (by decide) rfl ?_
    refine MF.loop3 (fun i3 i4 s5 => s5) (fun i3 i4 s5 => [(0, .ref (ead E 52)), (1, .int x1), (2, .ref (ead E t2)), (3, .int i3), (4, .int i4)]) (fun self6 hself6 i3 i4 s5 => ?_) fu (nI 0) (nI 0) s2
    unfold b_X0_rentOf_21
    refine MF.iload C e_X0_rentOf_21 4 rfl ?_
    refine MF.bipush (v := (nI 24)) C e_X0_rentOf_23 (by decide) ?_
    refine MF.icmp_ge (tgt := 56) C e_X0_rentOf_25 (by decide) (fun _ => ?_) (fun _ => ?_)
    · refine MF.iload_n C e_X0_rentOf_56 3 rfl rfl ?_
      exact MF.iret C e_X0_rentOf_57
    · refine MF.aload_n C e_X0_rentOf_28 0 rfl rfl ?_
      refine MF.iload_n C e_X0_rentOf_29 1 rfl rfl ?_
      refine MF.iload C e_X0_rentOf_30 4 rfl ?_
      refine MF.iconst (v := (-1 : Int32)) C e_X0_rentOf_32 rfl ?_
      refine MF.callVI (As := [.int x1, .int i4, .int (-1 : Int32)]) C (R_X0_live hD x1 i4 (-1 : Int32) s5) m_X0_live k_X0_110 kO_52 rfl (by decide) e_X0_rentOf_33 rfl rfl (Nat.le_of_ble_eq_true rfl) (fun v7 s8 => ?_)
      refine MF.pop C e_X0_rentOf_36 rfl ?_
      refine MF.iload_n C e_X0_rentOf_37 3 rfl rfl ?_
      refine MF.aload_n C e_X0_rentOf_38 2 rfl rfl ?_
      refine MF.aload_n C e_X0_rentOf_39 0 rfl rfl ?_
      refine MF.getR (j := 57) C cf_X0 l_X0_27 e_X0_rentOf_40 kF_52_3 ?_
      refine MF.iload_n C e_X0_rentOf_43 1 rfl rfl ?_
      refine MF.iald C e_X0_rentOf_44 kA_57 (fun v9 => ?_)
      refine MF.callVP (As := [.int v9]) C (R_X5_rentAt hD t2 v9 ht2 s8) m_X5_rentAt k_X0_114 (iTo.o ht2) rfl (by decide) e_X0_rentOf_45 rfl rfl (Nat.le_of_ble_eq_true rfl) (fun v10 => ?_)
      refine MF.iadd C e_X0_rentOf_48 ?_
      refine MF.nmI (fun v11 => ?_)
      refine MF.istore_n (lv' := [(0, .ref (ead E 52)), (1, .int x1), (2, .ref (ead E t2)), (3, .int v11), (4, .int i4)]) C e_X0_rentOf_49 (by decide) rfl ?_
      refine MF.iinc (v := (nI 1)) (lv' := [(0, .ref (ead E 52)), (1, .int x1), (2, .ref (ead E t2)), (3, .int v11), (4, .int (i4 + (nI 1)))]) C e_X0_rentOf_50 4 rfl rfl (by decide) rfl ?_
      refine MF.goto (tgt := 21) C e_X0_rentOf_53 (by decide) ?_
      exact hself6 v11 (i4 + (nI 1)) s8
  · refine MF.iconst (v := (nI 0)) C e_X0_rentOf_9 rfl ?_
    exact MF.iret C e_X0_rentOf_10
theorem e_X0_beginAll_0 : Dc cX0_beginAll 0 (.iconst 0) 1 1 := ⟨by decide +kernel, rfl⟩
theorem e_X0_beginAll_1 : Dc cX0_beginAll 1 (.istore_n 1) 1 2 := ⟨by decide +kernel, rfl⟩
theorem e_X0_beginAll_2 : Dc cX0_beginAll 2 (.iload_n 1) 1 3 := ⟨by decide +kernel, rfl⟩
theorem e_X0_beginAll_3 : Dc cX0_beginAll 3 (.aload_n 0) 1 4 := ⟨by decide +kernel, rfl⟩
theorem e_X0_beginAll_4 : Dc cX0_beginAll 4 (.getfield 39) 3 7 := ⟨by decide +kernel, rfl⟩
theorem e_X0_beginAll_7 : Dc cX0_beginAll 7 (.if_icmp .ge 14) 3 10 := ⟨by decide +kernel, rfl⟩
theorem e_X0_beginAll_10 : Dc cX0_beginAll 10 (.aload_n 0) 1 11 := ⟨by decide +kernel, rfl⟩
theorem e_X0_beginAll_11 : Dc cX0_beginAll 11 (.iload_n 1) 1 12 := ⟨by decide +kernel, rfl⟩
theorem e_X0_beginAll_12 : Dc cX0_beginAll 12 (.invokevirtual 107) 3 15 := ⟨by decide +kernel, rfl⟩
theorem e_X0_beginAll_15 : Dc cX0_beginAll 15 (.iinc 1 1) 3 18 := ⟨by decide +kernel, rfl⟩
theorem e_X0_beginAll_18 : Dc cX0_beginAll 18 (.goto (-16)) 3 21 := ⟨by decide +kernel, rfl⟩
theorem e_X0_beginAll_21 : Dc cX0_beginAll 21 (.return_) 1 22 := ⟨by decide +kernel, rfl⟩
set_option maxHeartbeats 4000000 in
set_option maxRecDepth 20000 in
theorem R_X0_beginAll (hD : DD E) (s : Sg) : ∀ τ, (f_X0_beginAll s) = some τ → RV l E 1 M_X0_beginAll [.ref (ead E 52)] s τ := by
  refine ofU hD (by decide +kernel) (Nat.le_of_ble_eq_true rfl) (fun X C => ?_)
  show MF l E X (fun q : Sg => QV E X q) (f_X0_beginAll s) s 0 [(0, .ref (ead E 52))] []
  unfold f_X0_beginAll
  refine MF.iconst (v := (nI 0)) C e_X0_beginAll_0 rfl ?_
  refine MF.istore_n (lv' := [(0, .ref (ead E 52)), (1, .int (nI 0))]) C e_X0_beginAll_1 (by decide) rfl ?_
  refine MF.loop2 (fun i1 s2 => s2) (fun i1 s2 => [(0, .ref (ead E 52)), (1, .int i1)]) (fun self3 hself3 i1 s2 => ?_) fu (nI 0) s
  unfold b_X0_beginAll_2
  refine MF.iload_n C e_X0_beginAll_2 1 rfl rfl ?_
  refine MF.aload_n C e_X0_beginAll_3 0 rfl rfl ?_
  refine MF.get C cf_X0 l_X0_39 e_X0_beginAll_4 kF_52_7 ?_
  refine MF.icmp_ge (tgt := 21) C e_X0_beginAll_7 (by decide) (fun _ => ?_) (fun _ => ?_)
  · exact MF.vret C e_X0_beginAll_21
  · refine MF.aload_n C e_X0_beginAll_10 0 rfl rfl ?_
    refine MF.iload_n C e_X0_beginAll_11 1 rfl rfl ?_
    refine MF.callVU (As := [.int i1]) C (R_X0_begin hD i1 s2) m_X0_begin k_X0_107 kO_52 rfl (by decide) e_X0_beginAll_12 rfl rfl (Nat.le_of_ble_eq_true rfl) (fun s4 => ?_)
    refine MF.iinc (v := (nI 1)) (lv' := [(0, .ref (ead E 52)), (1, .int (i1 + (nI 1)))]) C e_X0_beginAll_15 1 rfl rfl (by decide) rfl ?_
    refine MF.goto (tgt := 2) C e_X0_beginAll_18 (by decide) ?_
    exact hself3 (i1 + (nI 1)) s4
theorem e_X0_numberFor_0 : Dc cX0_numberFor 0 (.iconst 1) 1 1 := ⟨by decide +kernel, rfl⟩
theorem e_X0_numberFor_1 : Dc cX0_numberFor 1 (.istore_n 2) 1 2 := ⟨by decide +kernel, rfl⟩
theorem e_X0_numberFor_2 : Dc cX0_numberFor 2 (.iconst 0) 1 3 := ⟨by decide +kernel, rfl⟩
theorem e_X0_numberFor_3 : Dc cX0_numberFor 3 (.istore_n 3) 1 4 := ⟨by decide +kernel, rfl⟩
theorem e_X0_numberFor_4 : Dc cX0_numberFor 4 (.iload_n 3) 1 5 := ⟨by decide +kernel, rfl⟩
theorem e_X0_numberFor_5 : Dc cX0_numberFor 5 (.aload_n 0) 1 6 := ⟨by decide +kernel, rfl⟩
theorem e_X0_numberFor_6 : Dc cX0_numberFor 6 (.getfield 39) 3 9 := ⟨by decide +kernel, rfl⟩
theorem e_X0_numberFor_9 : Dc cX0_numberFor 9 (.if_icmp .ge 32) 3 12 := ⟨by decide +kernel, rfl⟩
theorem e_X0_numberFor_12 : Dc cX0_numberFor 12 (.iload_n 3) 1 13 := ⟨by decide +kernel, rfl⟩
theorem e_X0_numberFor_13 : Dc cX0_numberFor 13 (.iload_n 1) 1 14 := ⟨by decide +kernel, rfl⟩
theorem e_X0_numberFor_14 : Dc cX0_numberFor 14 (.if_icmp .eq 21) 3 17 := ⟨by decide +kernel, rfl⟩
theorem e_X0_numberFor_17 : Dc cX0_numberFor 17 (.aload_n 0) 1 18 := ⟨by decide +kernel, rfl⟩
theorem e_X0_numberFor_18 : Dc cX0_numberFor 18 (.getfield 27) 3 21 := ⟨by decide +kernel, rfl⟩
theorem e_X0_numberFor_21 : Dc cX0_numberFor 21 (.iload_n 3) 1 22 := ⟨by decide +kernel, rfl⟩
theorem e_X0_numberFor_22 : Dc cX0_numberFor 22 (.iaload) 1 23 := ⟨by decide +kernel, rfl⟩
theorem e_X0_numberFor_23 : Dc cX0_numberFor 23 (.aload_n 0) 1 24 := ⟨by decide +kernel, rfl⟩
theorem e_X0_numberFor_24 : Dc cX0_numberFor 24 (.getfield 27) 3 27 := ⟨by decide +kernel, rfl⟩
theorem e_X0_numberFor_27 : Dc cX0_numberFor 27 (.iload_n 1) 1 28 := ⟨by decide +kernel, rfl⟩
theorem e_X0_numberFor_28 : Dc cX0_numberFor 28 (.iaload) 1 29 := ⟨by decide +kernel, rfl⟩
theorem e_X0_numberFor_29 : Dc cX0_numberFor 29 (.if_icmp .ne 6) 3 32 := ⟨by decide +kernel, rfl⟩
theorem e_X0_numberFor_32 : Dc cX0_numberFor 32 (.iinc 2 1) 3 35 := ⟨by decide +kernel, rfl⟩
theorem e_X0_numberFor_35 : Dc cX0_numberFor 35 (.iinc 3 1) 3 38 := ⟨by decide +kernel, rfl⟩
theorem e_X0_numberFor_38 : Dc cX0_numberFor 38 (.goto (-34)) 3 41 := ⟨by decide +kernel, rfl⟩
theorem e_X0_numberFor_41 : Dc cX0_numberFor 41 (.iload_n 2) 1 42 := ⟨by decide +kernel, rfl⟩
theorem e_X0_numberFor_42 : Dc cX0_numberFor 42 (.ireturn) 1 43 := ⟨by decide +kernel, rfl⟩
set_option maxHeartbeats 4000000 in
set_option maxRecDepth 20000 in
theorem R_X0_numberFor (hD : DD E) (x1 : Int32) (s : Sg) : ∀ v, (f_X0_numberFor x1 s) = some v → RI l E 0 M_X0_numberFor [.ref (ead E 52), .int x1] s v s := by
  refine ofP hD (by decide +kernel) (Nat.le_of_ble_eq_true rfl) (fun X C => ?_)
  show MF l E X (fun q : Int32 => QI E X q s) (f_X0_numberFor x1 s) s 0 [(0, .ref (ead E 52)), (1, .int x1)] []
  unfold f_X0_numberFor
  refine MF.iconst (v := (nI 1)) C e_X0_numberFor_0 rfl ?_
  refine MF.istore_n (lv' := [(0, .ref (ead E 52)), (1, .int x1), (2, .int (nI 1))]) C e_X0_numberFor_1 (by decide) rfl ?_
  refine MF.iconst (v := (nI 0)) C e_X0_numberFor_2 rfl ?_
  refine MF.istore_n (lv' := [(0, .ref (ead E 52)), (1, .int x1), (2, .int (nI 1)), (3, .int (nI 0))]) C e_X0_numberFor_3 (by decide) rfl ?_
  refine MF.loop2 (fun i1 i2 => s) (fun i1 i2 => [(0, .ref (ead E 52)), (1, .int x1), (2, .int i1), (3, .int i2)]) (fun self3 hself3 i1 i2 => ?_) fu (nI 1) (nI 0)
  unfold b_X0_numberFor_4
  refine MF.iload_n C e_X0_numberFor_4 3 rfl rfl ?_
  refine MF.aload_n C e_X0_numberFor_5 0 rfl rfl ?_
  refine MF.get C cf_X0 l_X0_39 e_X0_numberFor_6 kF_52_7 ?_
  refine MF.icmp_ge (tgt := 41) C e_X0_numberFor_9 (by decide) (fun _ => ?_) (fun _ => ?_)
  · refine MF.iload_n C e_X0_numberFor_41 2 rfl rfl ?_
    exact MF.iretp C e_X0_numberFor_42
  · refine MF.iload_n C e_X0_numberFor_12 3 rfl rfl ?_
    refine MF.iload_n C e_X0_numberFor_13 1 rfl rfl ?_
    refine MF.join (fun j : Int32 → Option Int32 => ∀ (a4 : Int32), MF l E X (fun q : Int32 => QI E X q s) (j a4) s 35 [(0, .ref (ead E 52)), (1, .int x1), (2, .int a4), (3, .int i2)] []) ?_ (fun j5 hj5 => ?_)
    · intro a4
      refine MF.iinc (v := (nI 1)) (lv' := [(0, .ref (ead E 52)), (1, .int x1), (2, .int a4), (3, .int (i2 + (nI 1)))]) C e_X0_numberFor_35 3 rfl rfl (by decide) rfl ?_
      refine MF.goto (tgt := 4) C e_X0_numberFor_38 (by decide) ?_
      exact hself3 a4 (i2 + (nI 1))
    refine MF.icmp_eq (tgt := 35) C e_X0_numberFor_14 (by decide) (fun _ => ?_) (fun _ => ?_)
    · exact hj5 i1
    · refine MF.aload_n C e_X0_numberFor_17 0 rfl rfl ?_
      refine MF.getR (j := 57) C cf_X0 l_X0_27 e_X0_numberFor_18 kF_52_3 ?_
      refine MF.iload_n C e_X0_numberFor_21 3 rfl rfl ?_
      refine MF.iald C e_X0_numberFor_22 kA_57 (fun v6 => ?_)
      refine MF.aload_n C e_X0_numberFor_23 0 rfl rfl ?_
      refine MF.getR (j := 57) C cf_X0 l_X0_27 e_X0_numberFor_24 kF_52_3 ?_
      refine MF.iload_n C e_X0_numberFor_27 1 rfl rfl ?_
      refine MF.iald C e_X0_numberFor_28 kA_57 (fun v7 => ?_)
      refine MF.icmp_ne (tgt := 35) C e_X0_numberFor_29 (by decide) (fun _ => ?_) (fun _ => ?_)
      · exact hj5 i1
      · refine MF.iinc (v := (nI 1)) (lv' := [(0, .ref (ead E 52)), (1, .int x1), (2, .int (i1 + (nI 1))), (3, .int i2)]) C e_X0_numberFor_32 2 rfl rfl (by decide) rfl ?_
        exact hj5 (i1 + (nI 1))
theorem e_X0_liveAll_0 : Dc cX0_liveAll 0 (.aload_n 0) 1 1 := ⟨by decide +kernel, rfl⟩
theorem e_X0_liveAll_1 : Dc cX0_liveAll 1 (.getfield 46) 3 4 := ⟨by decide +kernel, rfl⟩
theorem e_X0_liveAll_4 : Dc cX0_liveAll 4 (.aload_n 0) 1 5 := ⟨by decide +kernel, rfl⟩
theorem e_X0_liveAll_5 : Dc cX0_liveAll 5 (.getfield 16) 3 8 := ⟨by decide +kernel, rfl⟩
theorem e_X0_liveAll_8 : Dc cX0_liveAll 8 (.invokevirtual 54) 3 11 := ⟨by decide +kernel, rfl⟩
theorem e_X0_liveAll_11 : Dc cX0_liveAll 11 (.if_icmp .ge 71) 3 14 := ⟨by decide +kernel, rfl⟩
theorem e_X0_liveAll_14 : Dc cX0_liveAll 14 (.aload_n 0) 1 15 := ⟨by decide +kernel, rfl⟩
theorem e_X0_liveAll_15 : Dc cX0_liveAll 15 (.getfield 16) 3 18 := ⟨by decide +kernel, rfl⟩
theorem e_X0_liveAll_18 : Dc cX0_liveAll 18 (.aload_n 0) 1 19 := ⟨by decide +kernel, rfl⟩
theorem e_X0_liveAll_19 : Dc cX0_liveAll 19 (.getfield 46) 3 22 := ⟨by decide +kernel, rfl⟩
theorem e_X0_liveAll_22 : Dc cX0_liveAll 22 (.iconst 0) 1 23 := ⟨by decide +kernel, rfl⟩
theorem e_X0_liveAll_23 : Dc cX0_liveAll 23 (.invokevirtual 58) 3 26 := ⟨by decide +kernel, rfl⟩
theorem e_X0_liveAll_26 : Dc cX0_liveAll 26 (.iload_n 1) 1 27 := ⟨by decide +kernel, rfl⟩
theorem e_X0_liveAll_27 : Dc cX0_liveAll 27 (.if_icmp .gt 55) 3 30 := ⟨by decide +kernel, rfl⟩
theorem e_X0_liveAll_30 : Dc cX0_liveAll 30 (.iconst 0) 1 31 := ⟨by decide +kernel, rfl⟩
theorem e_X0_liveAll_31 : Dc cX0_liveAll 31 (.istore_n 2) 1 32 := ⟨by decide +kernel, rfl⟩
theorem e_X0_liveAll_32 : Dc cX0_liveAll 32 (.iload_n 2) 1 33 := ⟨by decide +kernel, rfl⟩
theorem e_X0_liveAll_33 : Dc cX0_liveAll 33 (.aload_n 0) 1 34 := ⟨by decide +kernel, rfl⟩
theorem e_X0_liveAll_34 : Dc cX0_liveAll 34 (.getfield 39) 3 37 := ⟨by decide +kernel, rfl⟩
theorem e_X0_liveAll_37 : Dc cX0_liveAll 37 (.if_icmp .ge 32) 3 40 := ⟨by decide +kernel, rfl⟩
theorem e_X0_liveAll_40 : Dc cX0_liveAll 40 (.aload_n 0) 1 41 := ⟨by decide +kernel, rfl⟩
theorem e_X0_liveAll_41 : Dc cX0_liveAll 41 (.iload_n 2) 1 42 := ⟨by decide +kernel, rfl⟩
theorem e_X0_liveAll_42 : Dc cX0_liveAll 42 (.aload_n 0) 1 43 := ⟨by decide +kernel, rfl⟩
theorem e_X0_liveAll_43 : Dc cX0_liveAll 43 (.getfield 46) 3 46 := ⟨by decide +kernel, rfl⟩
theorem e_X0_liveAll_46 : Dc cX0_liveAll 46 (.invokevirtual 117) 3 49 := ⟨by decide +kernel, rfl⟩
theorem e_X0_liveAll_49 : Dc cX0_liveAll 49 (.ifCond .eq 14) 3 52 := ⟨by decide +kernel, rfl⟩
theorem e_X0_liveAll_52 : Dc cX0_liveAll 52 (.aload_n 0) 1 53 := ⟨by decide +kernel, rfl⟩
theorem e_X0_liveAll_53 : Dc cX0_liveAll 53 (.getfield 30) 3 56 := ⟨by decide +kernel, rfl⟩
theorem e_X0_liveAll_56 : Dc cX0_liveAll 56 (.iload_n 2) 1 57 := ⟨by decide +kernel, rfl⟩
theorem e_X0_liveAll_57 : Dc cX0_liveAll 57 (.aload_n 0) 1 58 := ⟨by decide +kernel, rfl⟩
theorem e_X0_liveAll_58 : Dc cX0_liveAll 58 (.iload_n 2) 1 59 := ⟨by decide +kernel, rfl⟩
theorem e_X0_liveAll_59 : Dc cX0_liveAll 59 (.invokevirtual 120) 3 62 := ⟨by decide +kernel, rfl⟩
theorem e_X0_liveAll_62 : Dc cX0_liveAll 62 (.iastore) 1 63 := ⟨by decide +kernel, rfl⟩
theorem e_X0_liveAll_63 : Dc cX0_liveAll 63 (.iinc 2 1) 3 66 := ⟨by decide +kernel, rfl⟩
theorem e_X0_liveAll_66 : Dc cX0_liveAll 66 (.goto (-34)) 3 69 := ⟨by decide +kernel, rfl⟩
theorem e_X0_liveAll_69 : Dc cX0_liveAll 69 (.aload_n 0) 1 70 := ⟨by decide +kernel, rfl⟩
theorem e_X0_liveAll_70 : Dc cX0_liveAll 70 (.dup) 1 71 := ⟨by decide +kernel, rfl⟩
theorem e_X0_liveAll_71 : Dc cX0_liveAll 71 (.getfield 46) 3 74 := ⟨by decide +kernel, rfl⟩
theorem e_X0_liveAll_74 : Dc cX0_liveAll 74 (.iconst 1) 1 75 := ⟨by decide +kernel, rfl⟩
theorem e_X0_liveAll_75 : Dc cX0_liveAll 75 (.iadd) 1 76 := ⟨by decide +kernel, rfl⟩
theorem e_X0_liveAll_76 : Dc cX0_liveAll 76 (.putfield 46) 3 79 := ⟨by decide +kernel, rfl⟩
theorem e_X0_liveAll_79 : Dc cX0_liveAll 79 (.goto (-79)) 3 82 := ⟨by decide +kernel, rfl⟩
theorem e_X0_liveAll_82 : Dc cX0_liveAll 82 (.return_) 1 83 := ⟨by decide +kernel, rfl⟩
set_option maxHeartbeats 4000000 in
set_option maxRecDepth 20000 in
theorem R_X0_liveAll (hD : DD E) (x1 : Int32) (s : Sg) : ∀ τ, (f_X0_liveAll x1 s) = some τ → RV l E 2 M_X0_liveAll [.ref (ead E 52), .int x1] s τ := by
  refine ofU hD (by decide +kernel) (Nat.le_of_ble_eq_true rfl) (fun X C => ?_)
  show MF l E X (fun q : Sg => QV E X q) (f_X0_liveAll x1 s) s 0 [(0, .ref (ead E 52)), (1, .int x1)] []
  unfold f_X0_liveAll
  refine MF.loop1 (fun s1 => s1) (fun s1 => [(0, .ref (ead E 52)), (1, .int x1)]) (fun self2 hself2 s1 => ?_) fu s
  unfold b_X0_liveAll_0
  refine MF.aload_n C e_X0_liveAll_0 0 rfl rfl ?_
  refine MF.get C cf_X0 l_X0_46 e_X0_liveAll_1 kF_52_9 ?_
  refine MF.aload_n C e_X0_liveAll_4 0 rfl rfl ?_
  refine MF.getR (j := 53) C cf_X0 l_X0_16 e_X0_liveAll_5 kF_52_0 ?_
  refine MF.callVP (As := []) C (R_X2_size hD 53 kR_53 s1) m_X2_size k_X0_54 (iRo.o kR_53) rfl (by decide) e_X0_liveAll_8 rfl rfl (Nat.le_of_ble_eq_true rfl) (fun v3 => ?_)
  refine MF.icmp_ge (tgt := 82) C e_X0_liveAll_11 (by decide) (fun _ => ?_) (fun _ => ?_)
  · exact MF.vret C e_X0_liveAll_82
  · refine MF.aload_n C e_X0_liveAll_14 0 rfl rfl ?_
    refine MF.getR (j := 53) C cf_X0 l_X0_16 e_X0_liveAll_15 kF_52_0 ?_
    refine MF.aload_n C e_X0_liveAll_18 0 rfl rfl ?_
    refine MF.get C cf_X0 l_X0_46 e_X0_liveAll_19 kF_52_9 ?_
    refine MF.iconst (v := (nI 0)) C e_X0_liveAll_22 rfl ?_
    refine MF.callVP (As := [.int (s1 52 9), .int (nI 0)]) C (R_X2_cell hD 53 (s1 52 9) (nI 0) kR_53 s1) m_X2_cell k_X0_58 (iRo.o kR_53) rfl (by decide) e_X0_liveAll_23 rfl rfl (Nat.le_of_ble_eq_true rfl) (fun v4 => ?_)
    refine MF.iload_n C e_X0_liveAll_26 1 rfl rfl ?_
    refine MF.icmp_gt (tgt := 82) C e_X0_liveAll_27 (by decide) (fun _ => ?_) (fun _ => ?_)
    · exact MF.vret C e_X0_liveAll_82
    · refine MF.iconst (v := (nI 0)) C e_X0_liveAll_30 rfl ?_
      refine MF.istore_n (lv' := [(0, .ref (ead E 52)), (1, .int x1), (2, .int (nI 0))]) C e_X0_liveAll_31 (by decide) rfl ?_
      refine MF.join (fun j : Sg → Option Sg => ∀ (s5 : Sg), MF l E X (fun q : Sg => QV E X q) (j s5) s5 69 [(0, .ref (ead E 52)), (1, .int x1)] []) ?_ (fun j6 hj6 => ?_)
      · intro s5
        refine MF.aload_n C e_X0_liveAll_69 0 rfl rfl ?_
        refine MF.dup C e_X0_liveAll_70 rfl ?_
        refine MF.get C cf_X0 l_X0_46 e_X0_liveAll_71 kF_52_9 ?_
        refine MF.iconst (v := (nI 1)) C e_X0_liveAll_74 rfl ?_
        refine MF.iadd C e_X0_liveAll_75 ?_
        refine MF.put C cf_X0 l_X0_46 p_X0_9 e_X0_liveAll_76 kF_52_9 rfl ?_
        refine MF.nmS (fun s7 => ?_)
        refine MF.goto (tgt := 0) C e_X0_liveAll_79 (by decide) ?_
        exact hself2 s7
      refine MF.loop2 (fun i8 s9 => s9) (fun i8 s9 => [(0, .ref (ead E 52)), (1, .int x1), (2, .int i8)]) (fun self10 hself10 i8 s9 => ?_) fu (nI 0) s1
      unfold b_X0_liveAll_32
      refine MF.iload_n C e_X0_liveAll_32 2 rfl rfl ?_
      refine MF.aload_n C e_X0_liveAll_33 0 rfl rfl ?_
      refine MF.get C cf_X0 l_X0_39 e_X0_liveAll_34 kF_52_7 ?_
      refine MF.icmp_ge (tgt := 69) C e_X0_liveAll_37 (by decide) (fun _ => ?_) (fun _ => ?_)
      · refine MF.sub [0, 1] rfl ?_
        exact hj6 s9
      · refine MF.aload_n C e_X0_liveAll_40 0 rfl rfl ?_
        refine MF.iload_n C e_X0_liveAll_41 2 rfl rfl ?_
        refine MF.aload_n C e_X0_liveAll_42 0 rfl rfl ?_
        refine MF.get C cf_X0 l_X0_46 e_X0_liveAll_43 kF_52_9 ?_
        refine MF.callVI (As := [.int i8, .int (s9 52 9)]) C (R_X0_isRenamed hD i8 (s9 52 9) s9) m_X0_isRenamed k_X0_117 kO_52 rfl (by decide) e_X0_liveAll_46 rfl rfl (Nat.le_of_ble_eq_true rfl) (fun v11 s12 => ?_)
        refine MF.join (fun j : Sg → Option Sg => ∀ (s13 : Sg), MF l E X (fun q : Sg => QV E X q) (j s13) s13 63 [(0, .ref (ead E 52)), (1, .int x1), (2, .int i8)] []) ?_ (fun j14 hj14 => ?_)
        · intro s13
          refine MF.iinc (v := (nI 1)) (lv' := [(0, .ref (ead E 52)), (1, .int x1), (2, .int (i8 + (nI 1)))]) C e_X0_liveAll_63 2 rfl rfl (by decide) rfl ?_
          refine MF.goto (tgt := 32) C e_X0_liveAll_66 (by decide) ?_
          exact hself10 (i8 + (nI 1)) s13
        refine MF.if_eq (tgt := 63) C e_X0_liveAll_49 (by decide) (fun _ => ?_) (fun _ => ?_)
        · exact hj14 s12
        · refine MF.aload_n C e_X0_liveAll_52 0 rfl rfl ?_
          refine MF.getR (j := 58) C cf_X0 l_X0_30 e_X0_liveAll_53 kF_52_4 ?_
          refine MF.iload_n C e_X0_liveAll_56 2 rfl rfl ?_
          refine MF.aload_n C e_X0_liveAll_57 0 rfl rfl ?_
          refine MF.iload_n C e_X0_liveAll_58 2 rfl rfl ?_
          refine MF.callVP (As := [.int i8]) C (R_X0_numberFor hD i8 s12) m_X0_numberFor k_X0_120 kO_52 rfl (by decide) e_X0_liveAll_59 rfl rfl (Nat.le_of_ble_eq_true rfl) (fun v15 => ?_)
          refine MF.iast C e_X0_liveAll_62 kA_58 (fun s16 => ?_)
          exact hj14 s16
theorem e_X0_nameNow_0 : Dc cX0_nameNow 0 (.iload_n 1) 1 1 := ⟨by decide +kernel, rfl⟩
theorem e_X0_nameNow_1 : Dc cX0_nameNow 1 (.bipush 7) 2 3 := ⟨by decide +kernel, rfl⟩
theorem e_X0_nameNow_3 : Dc cX0_nameNow 3 (.invokestatic 103) 3 6 := ⟨by decide +kernel, rfl⟩
theorem e_X0_nameNow_6 : Dc cX0_nameNow 6 (.ifCond .eq 22) 3 9 := ⟨by decide +kernel, rfl⟩
theorem e_X0_nameNow_9 : Dc cX0_nameNow 9 (.bipush 100) 2 11 := ⟨by decide +kernel, rfl⟩
theorem e_X0_nameNow_11 : Dc cX0_nameNow 11 (.aload_n 0) 1 12 := ⟨by decide +kernel, rfl⟩
theorem e_X0_nameNow_12 : Dc cX0_nameNow 12 (.getfield 30) 3 15 := ⟨by decide +kernel, rfl⟩
theorem e_X0_nameNow_15 : Dc cX0_nameNow 15 (.iload_n 1) 1 16 := ⟨by decide +kernel, rfl⟩
theorem e_X0_nameNow_16 : Dc cX0_nameNow 16 (.iaload) 1 17 := ⟨by decide +kernel, rfl⟩
theorem e_X0_nameNow_17 : Dc cX0_nameNow 17 (.imul) 1 18 := ⟨by decide +kernel, rfl⟩
theorem e_X0_nameNow_18 : Dc cX0_nameNow 18 (.aload_n 0) 1 19 := ⟨by decide +kernel, rfl⟩
theorem e_X0_nameNow_19 : Dc cX0_nameNow 19 (.getfield 27) 3 22 := ⟨by decide +kernel, rfl⟩
theorem e_X0_nameNow_22 : Dc cX0_nameNow 22 (.iload_n 1) 1 23 := ⟨by decide +kernel, rfl⟩
theorem e_X0_nameNow_23 : Dc cX0_nameNow 23 (.iaload) 1 24 := ⟨by decide +kernel, rfl⟩
theorem e_X0_nameNow_24 : Dc cX0_nameNow 24 (.iadd) 1 25 := ⟨by decide +kernel, rfl⟩
theorem e_X0_nameNow_25 : Dc cX0_nameNow 25 (.goto 4) 3 28 := ⟨by decide +kernel, rfl⟩
theorem e_X0_nameNow_28 : Dc cX0_nameNow 28 (.iconst (-1)) 1 29 := ⟨by decide +kernel, rfl⟩
theorem e_X0_nameNow_29 : Dc cX0_nameNow 29 (.ireturn) 1 30 := ⟨by decide +kernel, rfl⟩
set_option maxHeartbeats 4000000 in
set_option maxRecDepth 20000 in
theorem R_X0_nameNow (hD : DD E) (x1 : Int32) (s : Sg) : ∀ v, (f_X0_nameNow x1 s) = some v → RI l E 1 M_X0_nameNow [.ref (ead E 52), .int x1] s v s := by
  refine ofP hD (by decide +kernel) (Nat.le_of_ble_eq_true rfl) (fun X C => ?_)
  show MF l E X (fun q : Int32 => QI E X q s) (f_X0_nameNow x1 s) s 0 [(0, .ref (ead E 52)), (1, .int x1)] []
  unfold f_X0_nameNow
  refine MF.iload_n C e_X0_nameNow_0 1 rfl rfl ?_
  refine MF.bipush (v := (nI 7)) C e_X0_nameNow_1 (by decide) ?_
  refine MF.callSNP (As := [.int x1, .int (nI 7)]) C (R_X7_isBelow hD x1 (nI 7) s) m_X7_isBelow k_X0_103 (by decide) e_X0_nameNow_3 rfl rfl (Nat.le_of_ble_eq_true rfl) (fun v1 => ?_)
  refine MF.if_eq (tgt := 28) C e_X0_nameNow_6 (by decide) (fun _ => ?_) (fun _ => ?_)
  · refine MF.iconst (v := (-1 : Int32)) C e_X0_nameNow_28 rfl ?_
    exact MF.iretp C e_X0_nameNow_29
  · refine MF.bipush (v := (nI 100)) C e_X0_nameNow_9 (by decide) ?_
    refine MF.aload_n C e_X0_nameNow_11 0 rfl rfl ?_
    refine MF.getR (j := 58) C cf_X0 l_X0_30 e_X0_nameNow_12 kF_52_4 ?_
    refine MF.iload_n C e_X0_nameNow_15 1 rfl rfl ?_
    refine MF.iald C e_X0_nameNow_16 kA_58 (fun v2 => ?_)
    refine MF.imul C e_X0_nameNow_17 ?_
    refine MF.aload_n C e_X0_nameNow_18 0 rfl rfl ?_
    refine MF.getR (j := 57) C cf_X0 l_X0_27 e_X0_nameNow_19 kF_52_3 ?_
    refine MF.iload_n C e_X0_nameNow_22 1 rfl rfl ?_
    refine MF.iald C e_X0_nameNow_23 kA_57 (fun v3 => ?_)
    refine MF.iadd C e_X0_nameNow_24 ?_
    refine MF.goto (tgt := 29) C e_X0_nameNow_25 (by decide) ?_
    exact MF.iretp C e_X0_nameNow_29
theorem e_X1_write_0 : Dc cX1_write 0 (.aload_n 0) 1 1 := ⟨by decide +kernel, rfl⟩
theorem e_X1_write_1 : Dc cX1_write 1 (.getfield 15) 3 4 := ⟨by decide +kernel, rfl⟩
theorem e_X1_write_4 : Dc cX1_write 4 (.aload_n 1) 1 5 := ⟨by decide +kernel, rfl⟩
theorem e_X1_write_5 : Dc cX1_write 5 (.invokevirtual 19) 3 8 := ⟨by decide +kernel, rfl⟩
theorem e_X1_write_8 : Dc cX1_write 8 (.aload_n 0) 1 9 := ⟨by decide +kernel, rfl⟩
theorem e_X1_write_9 : Dc cX1_write 9 (.getfield 15) 3 12 := ⟨by decide +kernel, rfl⟩
theorem e_X1_write_12 : Dc cX1_write 12 (.invokevirtual 25) 3 15 := ⟨by decide +kernel, rfl⟩
theorem e_X1_write_15 : Dc cX1_write 15 (.iconst 0) 1 16 := ⟨by decide +kernel, rfl⟩
theorem e_X1_write_16 : Dc cX1_write 16 (.istore_n 2) 1 17 := ⟨by decide +kernel, rfl⟩
theorem e_X1_write_17 : Dc cX1_write 17 (.iload_n 2) 1 18 := ⟨by decide +kernel, rfl⟩
theorem e_X1_write_18 : Dc cX1_write 18 (.bipush 24) 2 20 := ⟨by decide +kernel, rfl⟩
theorem e_X1_write_20 : Dc cX1_write 20 (.if_icmp .ge 55) 3 23 := ⟨by decide +kernel, rfl⟩
theorem e_X1_write_23 : Dc cX1_write 23 (.aload_n 0) 1 24 := ⟨by decide +kernel, rfl⟩
theorem e_X1_write_24 : Dc cX1_write 24 (.getfield 15) 3 27 := ⟨by decide +kernel, rfl⟩
theorem e_X1_write_27 : Dc cX1_write 27 (.iload_n 2) 1 28 := ⟨by decide +kernel, rfl⟩
theorem e_X1_write_28 : Dc cX1_write 28 (.invokevirtual 28) 3 31 := ⟨by decide +kernel, rfl⟩
theorem e_X1_write_31 : Dc cX1_write 31 (.iconst 0) 1 32 := ⟨by decide +kernel, rfl⟩
theorem e_X1_write_32 : Dc cX1_write 32 (.istore_n 3) 1 33 := ⟨by decide +kernel, rfl⟩
theorem e_X1_write_33 : Dc cX1_write 33 (.iload_n 3) 1 34 := ⟨by decide +kernel, rfl⟩
theorem e_X1_write_34 : Dc cX1_write 34 (.aload_n 0) 1 35 := ⟨by decide +kernel, rfl⟩
theorem e_X1_write_35 : Dc cX1_write 35 (.getfield 15) 3 38 := ⟨by decide +kernel, rfl⟩
theorem e_X1_write_38 : Dc cX1_write 38 (.invokevirtual 32) 3 41 := ⟨by decide +kernel, rfl⟩
theorem e_X1_write_41 : Dc cX1_write 41 (.if_icmp .ge 28) 3 44 := ⟨by decide +kernel, rfl⟩
theorem e_X1_write_44 : Dc cX1_write 44 (.aload_n 0) 1 45 := ⟨by decide +kernel, rfl⟩
theorem e_X1_write_45 : Dc cX1_write 45 (.getfield 9) 3 48 := ⟨by decide +kernel, rfl⟩
theorem e_X1_write_48 : Dc cX1_write 48 (.iload_n 2) 1 49 := ⟨by decide +kernel, rfl⟩
theorem e_X1_write_49 : Dc cX1_write 49 (.bipush 7) 2 51 := ⟨by decide +kernel, rfl⟩
theorem e_X1_write_51 : Dc cX1_write 51 (.imul) 1 52 := ⟨by decide +kernel, rfl⟩
theorem e_X1_write_52 : Dc cX1_write 52 (.iload_n 3) 1 53 := ⟨by decide +kernel, rfl⟩
theorem e_X1_write_53 : Dc cX1_write 53 (.iadd) 1 54 := ⟨by decide +kernel, rfl⟩
theorem e_X1_write_54 : Dc cX1_write 54 (.aload_n 0) 1 55 := ⟨by decide +kernel, rfl⟩
theorem e_X1_write_55 : Dc cX1_write 55 (.getfield 15) 3 58 := ⟨by decide +kernel, rfl⟩
theorem e_X1_write_58 : Dc cX1_write 58 (.iload_n 3) 1 59 := ⟨by decide +kernel, rfl⟩
theorem e_X1_write_59 : Dc cX1_write 59 (.invokevirtual 36) 3 62 := ⟨by decide +kernel, rfl⟩
theorem e_X1_write_62 : Dc cX1_write 62 (.iastore) 1 63 := ⟨by decide +kernel, rfl⟩
theorem e_X1_write_63 : Dc cX1_write 63 (.iinc 3 1) 3 66 := ⟨by decide +kernel, rfl⟩
theorem e_X1_write_66 : Dc cX1_write 66 (.goto (-33)) 3 69 := ⟨by decide +kernel, rfl⟩
theorem e_X1_write_69 : Dc cX1_write 69 (.iinc 2 1) 3 72 := ⟨by decide +kernel, rfl⟩
theorem e_X1_write_72 : Dc cX1_write 72 (.goto (-55)) 3 75 := ⟨by decide +kernel, rfl⟩
theorem e_X1_write_75 : Dc cX1_write 75 (.return_) 1 76 := ⟨by decide +kernel, rfl⟩
set_option maxHeartbeats 4000000 in
set_option maxRecDepth 20000 in
theorem R_X1_write (hD : DD E) (t1 : Nat) (ht1 : iTo t1) (s : Sg) : ∀ τ, (f_X1_write t1 s) = some τ → RV l E 5 M_X1_write [.ref (ead E 61), .ref (ead E t1)] s τ := by
  refine ofU hD (by decide +kernel) (Nat.le_of_ble_eq_true rfl) (fun X C => ?_)
  show MF l E X (fun q : Sg => QV E X q) (f_X1_write t1 s) s 0 [(0, .ref (ead E 61)), (1, .ref (ead E t1))] []
  unfold f_X1_write
  refine MF.aload_n C e_X1_write_0 0 rfl rfl ?_
  refine MF.getR (j := 52) C cf_X1 l_X1_15 e_X1_write_1 kF_61_0 ?_
  refine MF.aload_n C e_X1_write_4 1 rfl rfl ?_
  refine MF.callVU (As := [.ref (ead E t1)]) C (R_X0_plan hD t1 ht1 s) m_X0_plan k_X1_19 kO_52 rfl (by decide) e_X1_write_5 rfl rfl (Nat.le_of_ble_eq_true rfl) (fun s1 => ?_)
  refine MF.aload_n C e_X1_write_8 0 rfl rfl ?_
  refine MF.getR (j := 52) C cf_X1 l_X1_15 e_X1_write_9 kF_61_0 ?_
  refine MF.callVU (As := []) C (R_X0_beginAll hD s1) m_X0_beginAll k_X1_25 kO_52 rfl (by decide) e_X1_write_12 rfl rfl (Nat.le_of_ble_eq_true rfl) (fun s2 => ?_)
  refine MF.iconst (v := (nI 0)) C e_X1_write_15 rfl ?_
  refine MF.istore_n (lv' := [(0, .ref (ead E 61)), (1, .ref (ead E t1)), (2, .int (nI 0))]) C e_X1_write_16 (by decide) rfl ?_
  refine MF.sub [0, 2] rfl ?_
  refine MF.loop2 (fun i3 s4 => s4) (fun i3 s4 => [(0, .ref (ead E 61)), (2, .int i3)]) (fun self5 hself5 i3 s4 => ?_) fu (nI 0) s2
  unfold b_X1_write_17
  refine MF.iload_n C e_X1_write_17 1 rfl rfl ?_
  refine MF.bipush (v := (nI 24)) C e_X1_write_18 (by decide) ?_
  refine MF.icmp_ge (tgt := 75) C e_X1_write_20 (by decide) (fun _ => ?_) (fun _ => ?_)
  · exact MF.vret C e_X1_write_75
  · refine MF.aload_n C e_X1_write_23 0 rfl rfl ?_
    refine MF.getR (j := 52) C cf_X1 l_X1_15 e_X1_write_24 kF_61_0 ?_
    refine MF.iload_n C e_X1_write_27 1 rfl rfl ?_
    refine MF.callVU (As := [.int i3]) C (R_X0_liveAll hD i3 s4) m_X0_liveAll k_X1_28 kO_52 rfl (by decide) e_X1_write_28 rfl rfl (Nat.le_of_ble_eq_true rfl) (fun s6 => ?_)
    refine MF.iconst (v := (nI 0)) C e_X1_write_31 rfl ?_
    refine MF.istore_n (lv' := [(0, .ref (ead E 61)), (2, .int i3), (3, .int (nI 0))]) C e_X1_write_32 (by decide) rfl ?_
    refine MF.join (fun j : Sg → Option Sg => ∀ (s7 : Sg), MF l E X (fun q : Sg => QV E X q) (j s7) s7 69 [(0, .ref (ead E 61)), (2, .int i3)] []) ?_ (fun j8 hj8 => ?_)
    · intro s7
      refine MF.iinc (v := (nI 1)) (lv' := [(0, .ref (ead E 61)), (2, .int (i3 + (nI 1)))]) C e_X1_write_69 1 rfl rfl (by decide) rfl ?_
      refine MF.goto (tgt := 17) C e_X1_write_72 (by decide) ?_
      exact hself5 (i3 + (nI 1)) s7
    refine MF.loop2 (fun i9 s10 => s10) (fun i9 s10 => [(0, .ref (ead E 61)), (2, .int i3), (3, .int i9)]) (fun self11 hself11 i9 s10 => ?_) fu (nI 0) s6
    unfold b_X1_write_33
    refine MF.iload_n C e_X1_write_33 2 rfl rfl ?_
    refine MF.aload_n C e_X1_write_34 0 rfl rfl ?_
    refine MF.getR (j := 52) C cf_X1 l_X1_15 e_X1_write_35 kF_61_0 ?_
    refine MF.callVP (As := []) C (R_X0_streets hD s10) m_X0_streets k_X1_32 kO_52 rfl (by decide) e_X1_write_38 rfl rfl (Nat.le_of_ble_eq_true rfl) (fun v12 => ?_)
    refine MF.icmp_ge (tgt := 69) C e_X1_write_41 (by decide) (fun _ => ?_) (fun _ => ?_)
    · refine MF.sub [0, 1] rfl ?_
      exact hj8 s10
    · refine MF.aload_n C e_X1_write_44 0 rfl rfl ?_
      refine MF.getR (j := 62) C cf_X1 l_X1_9 e_X1_write_45 kF_61_1 ?_
      refine MF.iload_n C e_X1_write_48 1 rfl rfl ?_
      refine MF.bipush (v := (nI 7)) C e_X1_write_49 (by decide) ?_
      refine MF.imul C e_X1_write_51 ?_
      refine MF.iload_n C e_X1_write_52 2 rfl rfl ?_
      refine MF.iadd C e_X1_write_53 ?_
      refine MF.aload_n C e_X1_write_54 0 rfl rfl ?_
      refine MF.getR (j := 52) C cf_X1 l_X1_15 e_X1_write_55 kF_61_0 ?_
      refine MF.iload_n C e_X1_write_58 2 rfl rfl ?_
      refine MF.callVP (As := [.int i9]) C (R_X0_nameNow hD i9 s10) m_X0_nameNow k_X1_36 kO_52 rfl (by decide) e_X1_write_59 rfl rfl (Nat.le_of_ble_eq_true rfl) (fun v13 => ?_)
      refine MF.iast C e_X1_write_62 kA_62 (fun s14 => ?_)
      refine MF.iinc (v := (nI 1)) (lv' := [(0, .ref (ead E 61)), (2, .int i3), (3, .int (i9 + (nI 1)))]) C e_X1_write_63 2 rfl rfl (by decide) rfl ?_
      refine MF.goto (tgt := 33) C e_X1_write_66 (by decide) ?_
      exact hself11 (i9 + (nI 1)) s14
theorem e_X7_isHour_0 : Dc cX7_isHour 0 (.iload_n 0) 1 1 := ⟨by decide +kernel, rfl⟩
theorem e_X7_isHour_1 : Dc cX7_isHour 1 (.bipush 24) 2 3 := ⟨by decide +kernel, rfl⟩
theorem e_X7_isHour_3 : Dc cX7_isHour 3 (.invokestatic 93) 3 6 := ⟨by decide +kernel, rfl⟩
theorem e_X7_isHour_6 : Dc cX7_isHour 6 (.ireturn) 1 7 := ⟨by decide +kernel, rfl⟩
set_option maxHeartbeats 4000000 in
set_option maxRecDepth 20000 in
theorem R_X7_isHour (hD : DD E) (x0 : Int32) (s : Sg) : ∀ v, (f_X7_isHour x0 s) = some v → RI l E 1 M_X7_isHour [.int x0] s v s := by
  refine ofP hD (by decide +kernel) (Nat.le_of_ble_eq_true rfl) (fun X C => ?_)
  show MF l E X (fun q : Int32 => QI E X q s) (f_X7_isHour x0 s) s 0 [(0, .int x0)] []
  unfold f_X7_isHour
  refine MF.iload_n C e_X7_isHour_0 0 rfl rfl ?_
  refine MF.bipush (v := (nI 24)) C e_X7_isHour_1 (by decide) ?_
  refine MF.callSP (As := [.int x0, .int (nI 24)]) C (R_X7_isBelow hD x0 (nI 24) s) m_X7_isBelow k_X7_93 (by decide) e_X7_isHour_3 rfl rfl (Nat.le_of_ble_eq_true rfl) (fun v1 => ?_)
  exact MF.nretp C e_X7_isHour_6 rfl
theorem e_X1_at_0 : Dc cX1_at 0 (.iload_n 1) 1 1 := ⟨by decide +kernel, rfl⟩
theorem e_X1_at_1 : Dc cX1_at 1 (.bipush 7) 2 3 := ⟨by decide +kernel, rfl⟩
theorem e_X1_at_3 : Dc cX1_at 3 (.invokestatic 40) 3 6 := ⟨by decide +kernel, rfl⟩
theorem e_X1_at_6 : Dc cX1_at 6 (.ifCond .eq 24) 3 9 := ⟨by decide +kernel, rfl⟩
theorem e_X1_at_9 : Dc cX1_at 9 (.iload_n 2) 1 10 := ⟨by decide +kernel, rfl⟩
theorem e_X1_at_10 : Dc cX1_at 10 (.invokestatic 44) 3 13 := ⟨by decide +kernel, rfl⟩
theorem e_X1_at_13 : Dc cX1_at 13 (.ifCond .eq 17) 3 16 := ⟨by decide +kernel, rfl⟩
theorem e_X1_at_16 : Dc cX1_at 16 (.aload_n 0) 1 17 := ⟨by decide +kernel, rfl⟩
theorem e_X1_at_17 : Dc cX1_at 17 (.getfield 9) 3 20 := ⟨by decide +kernel, rfl⟩
theorem e_X1_at_20 : Dc cX1_at 20 (.iload_n 2) 1 21 := ⟨by decide +kernel, rfl⟩
theorem e_X1_at_21 : Dc cX1_at 21 (.bipush 7) 2 23 := ⟨by decide +kernel, rfl⟩
theorem e_X1_at_23 : Dc cX1_at 23 (.imul) 1 24 := ⟨by decide +kernel, rfl⟩
theorem e_X1_at_24 : Dc cX1_at 24 (.iload_n 1) 1 25 := ⟨by decide +kernel, rfl⟩
theorem e_X1_at_25 : Dc cX1_at 25 (.iadd) 1 26 := ⟨by decide +kernel, rfl⟩
theorem e_X1_at_26 : Dc cX1_at 26 (.iaload) 1 27 := ⟨by decide +kernel, rfl⟩
theorem e_X1_at_27 : Dc cX1_at 27 (.goto 4) 3 30 := ⟨by decide +kernel, rfl⟩
theorem e_X1_at_30 : Dc cX1_at 30 (.iconst (-1)) 1 31 := ⟨by decide +kernel, rfl⟩
theorem e_X1_at_31 : Dc cX1_at 31 (.ireturn) 1 32 := ⟨by decide +kernel, rfl⟩
set_option maxHeartbeats 4000000 in
set_option maxRecDepth 20000 in
theorem R_X1_at (hD : DD E) (x1 : Int32) (x2 : Int32) (s : Sg) : ∀ v, (f_X1_at x1 x2 s) = some v → RI l E 2 M_X1_at [.ref (ead E 61), .int x1, .int x2] s v s := by
  refine ofP hD (by decide +kernel) (Nat.le_of_ble_eq_true rfl) (fun X C => ?_)
  show MF l E X (fun q : Int32 => QI E X q s) (f_X1_at x1 x2 s) s 0 [(0, .ref (ead E 61)), (1, .int x1), (2, .int x2)] []
  unfold f_X1_at
  refine MF.iload_n C e_X1_at_0 1 rfl rfl ?_
  refine MF.bipush (v := (nI 7)) C e_X1_at_1 (by decide) ?_
  refine MF.callSNP (As := [.int x1, .int (nI 7)]) C (R_X7_isBelow hD x1 (nI 7) s) m_X7_isBelow k_X1_40 (by decide) e_X1_at_3 rfl rfl (Nat.le_of_ble_eq_true rfl) (fun v1 => ?_)
  refine MF.if_eq (tgt := 30) C e_X1_at_6 (by decide) (fun _ => ?_) (fun _ => ?_)
  · refine MF.iconst (v := (-1 : Int32)) C e_X1_at_30 rfl ?_
    exact MF.iretp C e_X1_at_31
  · refine MF.iload_n C e_X1_at_9 2 rfl rfl ?_
    refine MF.callSNP (As := [.int x2]) C (R_X7_isHour hD x2 s) m_X7_isHour k_X1_44 (by decide) e_X1_at_10 rfl rfl (Nat.le_of_ble_eq_true rfl) (fun v2 => ?_)
    refine MF.if_eq (tgt := 30) C e_X1_at_13 (by decide) (fun _ => ?_) (fun _ => ?_)
    · refine MF.iconst (v := (-1 : Int32)) C e_X1_at_30 rfl ?_
      exact MF.iretp C e_X1_at_31
    · refine MF.aload_n C e_X1_at_16 0 rfl rfl ?_
      refine MF.getR (j := 62) C cf_X1 l_X1_9 e_X1_at_17 kF_61_1 ?_
      refine MF.iload_n C e_X1_at_20 2 rfl rfl ?_
      refine MF.bipush (v := (nI 7)) C e_X1_at_21 (by decide) ?_
      refine MF.imul C e_X1_at_23 ?_
      refine MF.iload_n C e_X1_at_24 1 rfl rfl ?_
      refine MF.iadd C e_X1_at_25 ?_
      refine MF.iald C e_X1_at_26 kA_62 (fun v3 => ?_)
      refine MF.goto (tgt := 31) C e_X1_at_27 (by decide) ?_
      exact MF.iretp C e_X1_at_31
theorem e_X1_having_0 : Dc cX1_having 0 (.iconst 0) 1 1 := ⟨by decide +kernel, rfl⟩
theorem e_X1_having_1 : Dc cX1_having 1 (.istore_n 3) 1 2 := ⟨by decide +kernel, rfl⟩
theorem e_X1_having_2 : Dc cX1_having 2 (.iconst 0) 1 3 := ⟨by decide +kernel, rfl⟩
theorem e_X1_having_3 : Dc cX1_having 3 (.istore 4) 2 5 := ⟨by decide +kernel, rfl⟩
theorem e_X1_having_5 : Dc cX1_having 5 (.iload 4) 2 7 := ⟨by decide +kernel, rfl⟩
theorem e_X1_having_7 : Dc cX1_having 7 (.aload_n 0) 1 8 := ⟨by decide +kernel, rfl⟩
theorem e_X1_having_8 : Dc cX1_having 8 (.getfield 15) 3 11 := ⟨by decide +kernel, rfl⟩
theorem e_X1_having_11 : Dc cX1_having 11 (.invokevirtual 32) 3 14 := ⟨by decide +kernel, rfl⟩
theorem e_X1_having_14 : Dc cX1_having 14 (.if_icmp .ge 27) 3 17 := ⟨by decide +kernel, rfl⟩
theorem e_X1_having_17 : Dc cX1_having 17 (.aload_n 0) 1 18 := ⟨by decide +kernel, rfl⟩
theorem e_X1_having_18 : Dc cX1_having 18 (.iload 4) 2 20 := ⟨by decide +kernel, rfl⟩
theorem e_X1_having_20 : Dc cX1_having 20 (.iload_n 2) 1 21 := ⟨by decide +kernel, rfl⟩
theorem e_X1_having_21 : Dc cX1_having 21 (.invokevirtual 48) 3 24 := ⟨by decide +kernel, rfl⟩
theorem e_X1_having_24 : Dc cX1_having 24 (.iload_n 1) 1 25 := ⟨by decide +kernel, rfl⟩
theorem e_X1_having_25 : Dc cX1_having 25 (.if_icmp .ne 10) 3 28 := ⟨by decide +kernel, rfl⟩
theorem e_X1_having_28 : Dc cX1_having 28 (.iload_n 3) 1 29 := ⟨by decide +kernel, rfl⟩
theorem e_X1_having_29 : Dc cX1_having 29 (.iconst 1) 1 30 := ⟨by decide +kernel, rfl⟩
theorem e_X1_having_30 : Dc cX1_having 30 (.iload 4) 2 32 := ⟨by decide +kernel, rfl⟩
theorem e_X1_having_32 : Dc cX1_having 32 (.ishl) 1 33 := ⟨by decide +kernel, rfl⟩
theorem e_X1_having_33 : Dc cX1_having 33 (.ior) 1 34 := ⟨by decide +kernel, rfl⟩
theorem e_X1_having_34 : Dc cX1_having 34 (.istore_n 3) 1 35 := ⟨by decide +kernel, rfl⟩
theorem e_X1_having_35 : Dc cX1_having 35 (.iinc 4 1) 3 38 := ⟨by decide +kernel, rfl⟩
theorem e_X1_having_38 : Dc cX1_having 38 (.goto (-33)) 3 41 := ⟨by decide +kernel, rfl⟩
theorem e_X1_having_41 : Dc cX1_having 41 (.iload_n 3) 1 42 := ⟨by decide +kernel, rfl⟩
theorem e_X1_having_42 : Dc cX1_having 42 (.ireturn) 1 43 := ⟨by decide +kernel, rfl⟩
set_option maxHeartbeats 4000000 in
set_option maxRecDepth 20000 in
theorem R_X1_having (hD : DD E) (x1 : Int32) (x2 : Int32) (s : Sg) : ∀ v, (f_X1_having x1 x2 s) = some v → RI l E 3 M_X1_having [.ref (ead E 61), .int x1, .int x2] s v s := by
  refine ofP hD (by decide +kernel) (Nat.le_of_ble_eq_true rfl) (fun X C => ?_)
  show MF l E X (fun q : Int32 => QI E X q s) (f_X1_having x1 x2 s) s 0 [(0, .ref (ead E 61)), (1, .int x1), (2, .int x2)] []
  unfold f_X1_having
  refine MF.iconst (v := (nI 0)) C e_X1_having_0 rfl ?_
  refine MF.istore_n (lv' := [(0, .ref (ead E 61)), (1, .int x1), (2, .int x2), (3, .int (nI 0))]) C e_X1_having_1 (by decide) rfl ?_
  refine MF.iconst (v := (nI 0)) C e_X1_having_2 rfl ?_
  refine MF.istore (lv' := [(0, .ref (ead E 61)), (1, .int x1), (2, .int x2), (3, .int (nI 0)), (4, .int (nI 0))]) C e_X1_having_3 (by decide) rfl ?_
  refine MF.loop2 (fun i1 i2 => s) (fun i1 i2 => [(0, .ref (ead E 61)), (1, .int x1), (2, .int x2), (3, .int i1), (4, .int i2)]) (fun self3 hself3 i1 i2 => ?_) fu (nI 0) (nI 0)
  unfold b_X1_having_5
  refine MF.iload C e_X1_having_5 4 rfl ?_
  refine MF.aload_n C e_X1_having_7 0 rfl rfl ?_
  refine MF.getR (j := 52) C cf_X1 l_X1_15 e_X1_having_8 kF_61_0 ?_
  refine MF.callVP (As := []) C (R_X0_streets hD s) m_X0_streets k_X1_32 kO_52 rfl (by decide) e_X1_having_11 rfl rfl (Nat.le_of_ble_eq_true rfl) (fun v4 => ?_)
  refine MF.icmp_ge (tgt := 41) C e_X1_having_14 (by decide) (fun _ => ?_) (fun _ => ?_)
  · refine MF.iload_n C e_X1_having_41 3 rfl rfl ?_
    exact MF.iretp C e_X1_having_42
  · refine MF.aload_n C e_X1_having_17 0 rfl rfl ?_
    refine MF.iload C e_X1_having_18 4 rfl ?_
    refine MF.iload_n C e_X1_having_20 2 rfl rfl ?_
    refine MF.callVP (As := [.int i2, .int x2]) C (R_X1_at hD i2 x2 s) m_X1_at k_X1_48 kO_61 rfl (by decide) e_X1_having_21 rfl rfl (Nat.le_of_ble_eq_true rfl) (fun v5 => ?_)
    refine MF.iload_n C e_X1_having_24 1 rfl rfl ?_
    refine MF.join (fun j : Int32 → Option Int32 => ∀ (a6 : Int32), MF l E X (fun q : Int32 => QI E X q s) (j a6) s 35 [(0, .ref (ead E 61)), (1, .int x1), (2, .int x2), (3, .int a6), (4, .int i2)] []) ?_ (fun j7 hj7 => ?_)
    · intro a6
      refine MF.iinc (v := (nI 1)) (lv' := [(0, .ref (ead E 61)), (1, .int x1), (2, .int x2), (3, .int a6), (4, .int (i2 + (nI 1)))]) C e_X1_having_35 4 rfl rfl (by decide) rfl ?_
      refine MF.goto (tgt := 5) C e_X1_having_38 (by decide) ?_
      exact hself3 a6 (i2 + (nI 1))
    refine MF.icmp_ne (tgt := 35) C e_X1_having_25 (by decide) (fun _ => ?_) (fun _ => ?_)
    · exact hj7 i1
    · refine MF.iload_n C e_X1_having_28 3 rfl rfl ?_
      refine MF.iconst (v := (nI 1)) C e_X1_having_29 rfl ?_
      refine MF.iload C e_X1_having_30 4 rfl ?_
      refine MF.ishl C e_X1_having_32 ?_
      refine MF.ior C e_X1_having_33 ?_
      refine MF.nmI (fun v8 => ?_)
      refine MF.istore_n (lv' := [(0, .ref (ead E 61)), (1, .int x1), (2, .int x2), (3, .int v8), (4, .int i2)]) C e_X1_having_34 (by decide) rfl ?_
      exact hj7 v8
theorem e_X1_firstHaving_0 : Dc cX1_firstHaving 0 (.iconst 0) 1 1 := ⟨by decide +kernel, rfl⟩
theorem e_X1_firstHaving_1 : Dc cX1_firstHaving 1 (.istore_n 3) 1 2 := ⟨by decide +kernel, rfl⟩
theorem e_X1_firstHaving_2 : Dc cX1_firstHaving 2 (.iload_n 3) 1 3 := ⟨by decide +kernel, rfl⟩
theorem e_X1_firstHaving_3 : Dc cX1_firstHaving 3 (.aload_n 0) 1 4 := ⟨by decide +kernel, rfl⟩
theorem e_X1_firstHaving_4 : Dc cX1_firstHaving 4 (.getfield 15) 3 7 := ⟨by decide +kernel, rfl⟩
theorem e_X1_firstHaving_7 : Dc cX1_firstHaving 7 (.invokevirtual 32) 3 10 := ⟨by decide +kernel, rfl⟩
theorem e_X1_firstHaving_10 : Dc cX1_firstHaving 10 (.if_icmp .ge 21) 3 13 := ⟨by decide +kernel, rfl⟩
theorem e_X1_firstHaving_13 : Dc cX1_firstHaving 13 (.aload_n 0) 1 14 := ⟨by decide +kernel, rfl⟩
theorem e_X1_firstHaving_14 : Dc cX1_firstHaving 14 (.iload_n 3) 1 15 := ⟨by decide +kernel, rfl⟩
theorem e_X1_firstHaving_15 : Dc cX1_firstHaving 15 (.iload_n 2) 1 16 := ⟨by decide +kernel, rfl⟩
theorem e_X1_firstHaving_16 : Dc cX1_firstHaving 16 (.invokevirtual 48) 3 19 := ⟨by decide +kernel, rfl⟩
theorem e_X1_firstHaving_19 : Dc cX1_firstHaving 19 (.iload_n 1) 1 20 := ⟨by decide +kernel, rfl⟩
theorem e_X1_firstHaving_20 : Dc cX1_firstHaving 20 (.if_icmp .ne 5) 3 23 := ⟨by decide +kernel, rfl⟩
theorem e_X1_firstHaving_23 : Dc cX1_firstHaving 23 (.iload_n 3) 1 24 := ⟨by decide +kernel, rfl⟩
theorem e_X1_firstHaving_24 : Dc cX1_firstHaving 24 (.ireturn) 1 25 := ⟨by decide +kernel, rfl⟩
theorem e_X1_firstHaving_25 : Dc cX1_firstHaving 25 (.iinc 3 1) 3 28 := ⟨by decide +kernel, rfl⟩
theorem e_X1_firstHaving_28 : Dc cX1_firstHaving 28 (.goto (-26)) 3 31 := ⟨by decide +kernel, rfl⟩
theorem e_X1_firstHaving_31 : Dc cX1_firstHaving 31 (.iconst (-1)) 1 32 := ⟨by decide +kernel, rfl⟩
theorem e_X1_firstHaving_32 : Dc cX1_firstHaving 32 (.ireturn) 1 33 := ⟨by decide +kernel, rfl⟩
set_option maxHeartbeats 4000000 in
set_option maxRecDepth 20000 in
theorem R_X1_firstHaving (hD : DD E) (x1 : Int32) (x2 : Int32) (s : Sg) : ∀ v, (f_X1_firstHaving x1 x2 s) = some v → RI l E 3 M_X1_firstHaving [.ref (ead E 61), .int x1, .int x2] s v s := by
  refine ofP hD (by decide +kernel) (Nat.le_of_ble_eq_true rfl) (fun X C => ?_)
  show MF l E X (fun q : Int32 => QI E X q s) (f_X1_firstHaving x1 x2 s) s 0 [(0, .ref (ead E 61)), (1, .int x1), (2, .int x2)] []
  unfold f_X1_firstHaving
  refine MF.iconst (v := (nI 0)) C e_X1_firstHaving_0 rfl ?_
  refine MF.istore_n (lv' := [(0, .ref (ead E 61)), (1, .int x1), (2, .int x2), (3, .int (nI 0))]) C e_X1_firstHaving_1 (by decide) rfl ?_
  refine MF.loop1 (fun i1 => s) (fun i1 => [(0, .ref (ead E 61)), (1, .int x1), (2, .int x2), (3, .int i1)]) (fun self2 hself2 i1 => ?_) fu (nI 0)
  unfold b_X1_firstHaving_2
  refine MF.iload_n C e_X1_firstHaving_2 3 rfl rfl ?_
  refine MF.aload_n C e_X1_firstHaving_3 0 rfl rfl ?_
  refine MF.getR (j := 52) C cf_X1 l_X1_15 e_X1_firstHaving_4 kF_61_0 ?_
  refine MF.callVP (As := []) C (R_X0_streets hD s) m_X0_streets k_X1_32 kO_52 rfl (by decide) e_X1_firstHaving_7 rfl rfl (Nat.le_of_ble_eq_true rfl) (fun v3 => ?_)
  refine MF.icmp_ge (tgt := 31) C e_X1_firstHaving_10 (by decide) (fun _ => ?_) (fun _ => ?_)
  · refine MF.iconst (v := (-1 : Int32)) C e_X1_firstHaving_31 rfl ?_
    exact MF.iretp C e_X1_firstHaving_32
  · refine MF.aload_n C e_X1_firstHaving_13 0 rfl rfl ?_
    refine MF.iload_n C e_X1_firstHaving_14 3 rfl rfl ?_
    refine MF.iload_n C e_X1_firstHaving_15 2 rfl rfl ?_
    refine MF.callVP (As := [.int i1, .int x2]) C (R_X1_at hD i1 x2 s) m_X1_at k_X1_48 kO_61 rfl (by decide) e_X1_firstHaving_16 rfl rfl (Nat.le_of_ble_eq_true rfl) (fun v4 => ?_)
    refine MF.iload_n C e_X1_firstHaving_19 1 rfl rfl ?_
    refine MF.icmp_ne (tgt := 25) C e_X1_firstHaving_20 (by decide) (fun _ => ?_) (fun _ => ?_)
    · refine MF.iinc (v := (nI 1)) (lv' := [(0, .ref (ead E 61)), (1, .int x1), (2, .int x2), (3, .int (i1 + (nI 1)))]) C e_X1_firstHaving_25 3 rfl rfl (by decide) rfl ?_
      refine MF.goto (tgt := 2) C e_X1_firstHaving_28 (by decide) ?_
      exact hself2 (i1 + (nI 1))
    · refine MF.iload_n C e_X1_firstHaving_23 3 rfl rfl ?_
      exact MF.iretp C e_X1_firstHaving_24
theorem e_J6_bitCount_0f7a4_0 : Dc cJ6_bitCount_0f7a4 0 (.iload_n 0) 1 1 := ⟨by decide +kernel, rfl⟩
theorem e_J6_bitCount_0f7a4_1 : Dc cJ6_bitCount_0f7a4 1 (.iload_n 0) 1 2 := ⟨by decide +kernel, rfl⟩
theorem e_J6_bitCount_0f7a4_2 : Dc cJ6_bitCount_0f7a4 2 (.iconst 1) 1 3 := ⟨by decide +kernel, rfl⟩
theorem e_J6_bitCount_0f7a4_3 : Dc cJ6_bitCount_0f7a4 3 (.iushr) 1 4 := ⟨by decide +kernel, rfl⟩
theorem e_J6_bitCount_0f7a4_4 : Dc cJ6_bitCount_0f7a4 4 (.ldc_w 265) 3 7 := ⟨by decide +kernel, rfl⟩
theorem e_J6_bitCount_0f7a4_7 : Dc cJ6_bitCount_0f7a4 7 (.iand) 1 8 := ⟨by decide +kernel, rfl⟩
theorem e_J6_bitCount_0f7a4_8 : Dc cJ6_bitCount_0f7a4 8 (.isub) 1 9 := ⟨by decide +kernel, rfl⟩
theorem e_J6_bitCount_0f7a4_9 : Dc cJ6_bitCount_0f7a4 9 (.istore_n 0) 1 10 := ⟨by decide +kernel, rfl⟩
theorem e_J6_bitCount_0f7a4_10 : Dc cJ6_bitCount_0f7a4 10 (.iload_n 0) 1 11 := ⟨by decide +kernel, rfl⟩
theorem e_J6_bitCount_0f7a4_11 : Dc cJ6_bitCount_0f7a4 11 (.ldc_w 266) 3 14 := ⟨by decide +kernel, rfl⟩
theorem e_J6_bitCount_0f7a4_14 : Dc cJ6_bitCount_0f7a4 14 (.iand) 1 15 := ⟨by decide +kernel, rfl⟩
theorem e_J6_bitCount_0f7a4_15 : Dc cJ6_bitCount_0f7a4 15 (.iload_n 0) 1 16 := ⟨by decide +kernel, rfl⟩
theorem e_J6_bitCount_0f7a4_16 : Dc cJ6_bitCount_0f7a4 16 (.iconst 2) 1 17 := ⟨by decide +kernel, rfl⟩
theorem e_J6_bitCount_0f7a4_17 : Dc cJ6_bitCount_0f7a4 17 (.iushr) 1 18 := ⟨by decide +kernel, rfl⟩
theorem e_J6_bitCount_0f7a4_18 : Dc cJ6_bitCount_0f7a4 18 (.ldc_w 266) 3 21 := ⟨by decide +kernel, rfl⟩
theorem e_J6_bitCount_0f7a4_21 : Dc cJ6_bitCount_0f7a4 21 (.iand) 1 22 := ⟨by decide +kernel, rfl⟩
theorem e_J6_bitCount_0f7a4_22 : Dc cJ6_bitCount_0f7a4 22 (.iadd) 1 23 := ⟨by decide +kernel, rfl⟩
theorem e_J6_bitCount_0f7a4_23 : Dc cJ6_bitCount_0f7a4 23 (.istore_n 0) 1 24 := ⟨by decide +kernel, rfl⟩
theorem e_J6_bitCount_0f7a4_24 : Dc cJ6_bitCount_0f7a4 24 (.iload_n 0) 1 25 := ⟨by decide +kernel, rfl⟩
theorem e_J6_bitCount_0f7a4_25 : Dc cJ6_bitCount_0f7a4 25 (.iload_n 0) 1 26 := ⟨by decide +kernel, rfl⟩
theorem e_J6_bitCount_0f7a4_26 : Dc cJ6_bitCount_0f7a4 26 (.iconst 4) 1 27 := ⟨by decide +kernel, rfl⟩
theorem e_J6_bitCount_0f7a4_27 : Dc cJ6_bitCount_0f7a4 27 (.iushr) 1 28 := ⟨by decide +kernel, rfl⟩
theorem e_J6_bitCount_0f7a4_28 : Dc cJ6_bitCount_0f7a4 28 (.iadd) 1 29 := ⟨by decide +kernel, rfl⟩
theorem e_J6_bitCount_0f7a4_29 : Dc cJ6_bitCount_0f7a4 29 (.ldc_w 267) 3 32 := ⟨by decide +kernel, rfl⟩
theorem e_J6_bitCount_0f7a4_32 : Dc cJ6_bitCount_0f7a4 32 (.iand) 1 33 := ⟨by decide +kernel, rfl⟩
theorem e_J6_bitCount_0f7a4_33 : Dc cJ6_bitCount_0f7a4 33 (.istore_n 0) 1 34 := ⟨by decide +kernel, rfl⟩
theorem e_J6_bitCount_0f7a4_34 : Dc cJ6_bitCount_0f7a4 34 (.iload_n 0) 1 35 := ⟨by decide +kernel, rfl⟩
theorem e_J6_bitCount_0f7a4_35 : Dc cJ6_bitCount_0f7a4 35 (.iload_n 0) 1 36 := ⟨by decide +kernel, rfl⟩
theorem e_J6_bitCount_0f7a4_36 : Dc cJ6_bitCount_0f7a4 36 (.bipush 8) 2 38 := ⟨by decide +kernel, rfl⟩
theorem e_J6_bitCount_0f7a4_38 : Dc cJ6_bitCount_0f7a4 38 (.iushr) 1 39 := ⟨by decide +kernel, rfl⟩
theorem e_J6_bitCount_0f7a4_39 : Dc cJ6_bitCount_0f7a4 39 (.iadd) 1 40 := ⟨by decide +kernel, rfl⟩
theorem e_J6_bitCount_0f7a4_40 : Dc cJ6_bitCount_0f7a4 40 (.istore_n 0) 1 41 := ⟨by decide +kernel, rfl⟩
theorem e_J6_bitCount_0f7a4_41 : Dc cJ6_bitCount_0f7a4 41 (.iload_n 0) 1 42 := ⟨by decide +kernel, rfl⟩
theorem e_J6_bitCount_0f7a4_42 : Dc cJ6_bitCount_0f7a4 42 (.iload_n 0) 1 43 := ⟨by decide +kernel, rfl⟩
theorem e_J6_bitCount_0f7a4_43 : Dc cJ6_bitCount_0f7a4 43 (.bipush 16) 2 45 := ⟨by decide +kernel, rfl⟩
theorem e_J6_bitCount_0f7a4_45 : Dc cJ6_bitCount_0f7a4 45 (.iushr) 1 46 := ⟨by decide +kernel, rfl⟩
theorem e_J6_bitCount_0f7a4_46 : Dc cJ6_bitCount_0f7a4 46 (.iadd) 1 47 := ⟨by decide +kernel, rfl⟩
theorem e_J6_bitCount_0f7a4_47 : Dc cJ6_bitCount_0f7a4 47 (.istore_n 0) 1 48 := ⟨by decide +kernel, rfl⟩
theorem e_J6_bitCount_0f7a4_48 : Dc cJ6_bitCount_0f7a4 48 (.iload_n 0) 1 49 := ⟨by decide +kernel, rfl⟩
theorem e_J6_bitCount_0f7a4_49 : Dc cJ6_bitCount_0f7a4 49 (.bipush 63) 2 51 := ⟨by decide +kernel, rfl⟩
theorem e_J6_bitCount_0f7a4_51 : Dc cJ6_bitCount_0f7a4 51 (.iand) 1 52 := ⟨by decide +kernel, rfl⟩
theorem e_J6_bitCount_0f7a4_52 : Dc cJ6_bitCount_0f7a4 52 (.ireturn) 1 53 := ⟨by decide +kernel, rfl⟩
set_option maxHeartbeats 4000000 in
set_option maxRecDepth 20000 in
theorem R_J6_bitCount_0f7a4 (hD : DD E) (x0 : Int32) (s : Sg) : ∀ v, (f_J6_bitCount_0f7a4 x0 s) = some v → RI l E 0 M_J6_bitCount_0f7a4 [.int x0] s v s := by
  refine ofP hD (by decide +kernel) (Nat.le_of_ble_eq_true rfl) (fun X C => ?_)
  show MF l E X (fun q : Int32 => QI E X q s) (f_J6_bitCount_0f7a4 x0 s) s 0 [(0, .int x0)] []
  unfold f_J6_bitCount_0f7a4
  refine MF.iload_n C e_J6_bitCount_0f7a4_0 0 rfl rfl ?_
  refine MF.iload_n C e_J6_bitCount_0f7a4_1 0 rfl rfl ?_
  refine MF.iconst (v := (nI 1)) C e_J6_bitCount_0f7a4_2 rfl ?_
  refine MF.iushr C e_J6_bitCount_0f7a4_3 ?_
  refine MF.ldcw C e_J6_bitCount_0f7a4_4 t_J6_265 ?_
  refine MF.iand C e_J6_bitCount_0f7a4_7 ?_
  refine MF.isub C e_J6_bitCount_0f7a4_8 ?_
  refine MF.nmI (fun v1 => ?_)
  refine MF.istore_n (lv' := [(0, .int v1)]) C e_J6_bitCount_0f7a4_9 (by decide) rfl ?_
  refine MF.iload_n C e_J6_bitCount_0f7a4_10 0 rfl rfl ?_
  refine MF.ldcw C e_J6_bitCount_0f7a4_11 t_J6_266 ?_
  refine MF.iand C e_J6_bitCount_0f7a4_14 ?_
  refine MF.iload_n C e_J6_bitCount_0f7a4_15 0 rfl rfl ?_
  refine MF.iconst (v := (nI 2)) C e_J6_bitCount_0f7a4_16 rfl ?_
  refine MF.iushr C e_J6_bitCount_0f7a4_17 ?_
  refine MF.ldcw C e_J6_bitCount_0f7a4_18 t_J6_266 ?_
  refine MF.iand C e_J6_bitCount_0f7a4_21 ?_
  refine MF.iadd C e_J6_bitCount_0f7a4_22 ?_
  refine MF.nmI (fun v2 => ?_)
  refine MF.istore_n (lv' := [(0, .int v2)]) C e_J6_bitCount_0f7a4_23 (by decide) rfl ?_
  refine MF.iload_n C e_J6_bitCount_0f7a4_24 0 rfl rfl ?_
  refine MF.iload_n C e_J6_bitCount_0f7a4_25 0 rfl rfl ?_
  refine MF.iconst (v := (nI 4)) C e_J6_bitCount_0f7a4_26 rfl ?_
  refine MF.iushr C e_J6_bitCount_0f7a4_27 ?_
  refine MF.iadd C e_J6_bitCount_0f7a4_28 ?_
  refine MF.ldcw C e_J6_bitCount_0f7a4_29 t_J6_267 ?_
  refine MF.iand C e_J6_bitCount_0f7a4_32 ?_
  refine MF.nmI (fun v3 => ?_)
  refine MF.istore_n (lv' := [(0, .int v3)]) C e_J6_bitCount_0f7a4_33 (by decide) rfl ?_
  refine MF.iload_n C e_J6_bitCount_0f7a4_34 0 rfl rfl ?_
  refine MF.iload_n C e_J6_bitCount_0f7a4_35 0 rfl rfl ?_
  refine MF.bipush (v := (nI 8)) C e_J6_bitCount_0f7a4_36 (by decide) ?_
  refine MF.iushr C e_J6_bitCount_0f7a4_38 ?_
  refine MF.iadd C e_J6_bitCount_0f7a4_39 ?_
  refine MF.nmI (fun v4 => ?_)
  refine MF.istore_n (lv' := [(0, .int v4)]) C e_J6_bitCount_0f7a4_40 (by decide) rfl ?_
  refine MF.iload_n C e_J6_bitCount_0f7a4_41 0 rfl rfl ?_
  refine MF.iload_n C e_J6_bitCount_0f7a4_42 0 rfl rfl ?_
  refine MF.bipush (v := (nI 16)) C e_J6_bitCount_0f7a4_43 (by decide) ?_
  refine MF.iushr C e_J6_bitCount_0f7a4_45 ?_
  refine MF.iadd C e_J6_bitCount_0f7a4_46 ?_
  refine MF.nmI (fun v5 => ?_)
  refine MF.istore_n (lv' := [(0, .int v5)]) C e_J6_bitCount_0f7a4_47 (by decide) rfl ?_
  refine MF.iload_n C e_J6_bitCount_0f7a4_48 0 rfl rfl ?_
  refine MF.bipush (v := (nI 63)) C e_J6_bitCount_0f7a4_49 (by decide) ?_
  refine MF.iand C e_J6_bitCount_0f7a4_51 ?_
  exact MF.iretp C e_J6_bitCount_0f7a4_52
theorem e_X1_mostAlike_0 : Dc cX1_mostAlike 0 (.iconst 0) 1 1 := ⟨by decide +kernel, rfl⟩
theorem e_X1_mostAlike_1 : Dc cX1_mostAlike 1 (.istore_n 3) 1 2 := ⟨by decide +kernel, rfl⟩
theorem e_X1_mostAlike_2 : Dc cX1_mostAlike 2 (.iconst 0) 1 3 := ⟨by decide +kernel, rfl⟩
theorem e_X1_mostAlike_3 : Dc cX1_mostAlike 3 (.istore 4) 2 5 := ⟨by decide +kernel, rfl⟩
theorem e_X1_mostAlike_5 : Dc cX1_mostAlike 5 (.iload 4) 2 7 := ⟨by decide +kernel, rfl⟩
theorem e_X1_mostAlike_7 : Dc cX1_mostAlike 7 (.aload_n 0) 1 8 := ⟨by decide +kernel, rfl⟩
theorem e_X1_mostAlike_8 : Dc cX1_mostAlike 8 (.getfield 15) 3 11 := ⟨by decide +kernel, rfl⟩
theorem e_X1_mostAlike_11 : Dc cX1_mostAlike 11 (.invokevirtual 32) 3 14 := ⟨by decide +kernel, rfl⟩
theorem e_X1_mostAlike_14 : Dc cX1_mostAlike 14 (.if_icmp .ge 44) 3 17 := ⟨by decide +kernel, rfl⟩
theorem e_X1_mostAlike_17 : Dc cX1_mostAlike 17 (.iload_n 1) 1 18 := ⟨by decide +kernel, rfl⟩
theorem e_X1_mostAlike_18 : Dc cX1_mostAlike 18 (.iload 4) 2 20 := ⟨by decide +kernel, rfl⟩
theorem e_X1_mostAlike_20 : Dc cX1_mostAlike 20 (.invokestatic 52) 3 23 := ⟨by decide +kernel, rfl⟩
theorem e_X1_mostAlike_23 : Dc cX1_mostAlike 23 (.ifCond .eq 29) 3 26 := ⟨by decide +kernel, rfl⟩
theorem e_X1_mostAlike_26 : Dc cX1_mostAlike 26 (.iload_n 1) 1 27 := ⟨by decide +kernel, rfl⟩
theorem e_X1_mostAlike_27 : Dc cX1_mostAlike 27 (.aload_n 0) 1 28 := ⟨by decide +kernel, rfl⟩
theorem e_X1_mostAlike_28 : Dc cX1_mostAlike 28 (.aload_n 0) 1 29 := ⟨by decide +kernel, rfl⟩
theorem e_X1_mostAlike_29 : Dc cX1_mostAlike 29 (.iload 4) 2 31 := ⟨by decide +kernel, rfl⟩
theorem e_X1_mostAlike_31 : Dc cX1_mostAlike 31 (.iload_n 2) 1 32 := ⟨by decide +kernel, rfl⟩
theorem e_X1_mostAlike_32 : Dc cX1_mostAlike 32 (.invokevirtual 48) 3 35 := ⟨by decide +kernel, rfl⟩
theorem e_X1_mostAlike_35 : Dc cX1_mostAlike 35 (.iload_n 2) 1 36 := ⟨by decide +kernel, rfl⟩
theorem e_X1_mostAlike_36 : Dc cX1_mostAlike 36 (.invokevirtual 55) 3 39 := ⟨by decide +kernel, rfl⟩
theorem e_X1_mostAlike_39 : Dc cX1_mostAlike 39 (.iand) 1 40 := ⟨by decide +kernel, rfl⟩
theorem e_X1_mostAlike_40 : Dc cX1_mostAlike 40 (.invokestatic 58) 3 43 := ⟨by decide +kernel, rfl⟩
theorem e_X1_mostAlike_43 : Dc cX1_mostAlike 43 (.istore 5) 2 45 := ⟨by decide +kernel, rfl⟩
theorem e_X1_mostAlike_45 : Dc cX1_mostAlike 45 (.iload_n 3) 1 46 := ⟨by decide +kernel, rfl⟩
theorem e_X1_mostAlike_46 : Dc cX1_mostAlike 46 (.iload 5) 2 48 := ⟨by decide +kernel, rfl⟩
theorem e_X1_mostAlike_48 : Dc cX1_mostAlike 48 (.invokestatic 63) 3 51 := ⟨by decide +kernel, rfl⟩
theorem e_X1_mostAlike_51 : Dc cX1_mostAlike 51 (.istore_n 3) 1 52 := ⟨by decide +kernel, rfl⟩
theorem e_X1_mostAlike_52 : Dc cX1_mostAlike 52 (.iinc 4 1) 3 55 := ⟨by decide +kernel, rfl⟩
theorem e_X1_mostAlike_55 : Dc cX1_mostAlike 55 (.goto (-50)) 3 58 := ⟨by decide +kernel, rfl⟩
theorem e_X1_mostAlike_58 : Dc cX1_mostAlike 58 (.iload_n 3) 1 59 := ⟨by decide +kernel, rfl⟩
theorem e_X1_mostAlike_59 : Dc cX1_mostAlike 59 (.ireturn) 1 60 := ⟨by decide +kernel, rfl⟩
set_option maxHeartbeats 4000000 in
set_option maxRecDepth 20000 in
theorem R_X1_mostAlike (hD : DD E) (x1 : Int32) (x2 : Int32) (s : Sg) : ∀ v, (f_X1_mostAlike x1 x2 s) = some v → RI l E 4 M_X1_mostAlike [.ref (ead E 61), .int x1, .int x2] s v s := by
  refine ofP hD (by decide +kernel) (Nat.le_of_ble_eq_true rfl) (fun X C => ?_)
  show MF l E X (fun q : Int32 => QI E X q s) (f_X1_mostAlike x1 x2 s) s 0 [(0, .ref (ead E 61)), (1, .int x1), (2, .int x2)] []
  unfold f_X1_mostAlike
  refine MF.iconst (v := (nI 0)) C e_X1_mostAlike_0 rfl ?_
  refine MF.istore_n (lv' := [(0, .ref (ead E 61)), (1, .int x1), (2, .int x2), (3, .int (nI 0))]) C e_X1_mostAlike_1 (by decide) rfl ?_
  refine MF.iconst (v := (nI 0)) C e_X1_mostAlike_2 rfl ?_
  refine MF.istore (lv' := [(0, .ref (ead E 61)), (1, .int x1), (2, .int x2), (3, .int (nI 0)), (4, .int (nI 0))]) C e_X1_mostAlike_3 (by decide) rfl ?_
  refine MF.loop2 (fun i1 i2 => s) (fun i1 i2 => [(0, .ref (ead E 61)), (1, .int x1), (2, .int x2), (3, .int i1), (4, .int i2)]) (fun self3 hself3 i1 i2 => ?_) fu (nI 0) (nI 0)
  unfold b_X1_mostAlike_5
  refine MF.iload C e_X1_mostAlike_5 4 rfl ?_
  refine MF.aload_n C e_X1_mostAlike_7 0 rfl rfl ?_
  refine MF.getR (j := 52) C cf_X1 l_X1_15 e_X1_mostAlike_8 kF_61_0 ?_
  refine MF.callVP (As := []) C (R_X0_streets hD s) m_X0_streets k_X1_32 kO_52 rfl (by decide) e_X1_mostAlike_11 rfl rfl (Nat.le_of_ble_eq_true rfl) (fun v4 => ?_)
  refine MF.icmp_ge (tgt := 58) C e_X1_mostAlike_14 (by decide) (fun _ => ?_) (fun _ => ?_)
  · refine MF.iload_n C e_X1_mostAlike_58 3 rfl rfl ?_
    exact MF.iretp C e_X1_mostAlike_59
  · refine MF.iload_n C e_X1_mostAlike_17 1 rfl rfl ?_
    refine MF.iload C e_X1_mostAlike_18 4 rfl ?_
    refine MF.callSNP (As := [.int x1, .int i2]) C (R_X7_holds hD x1 i2 s) m_X7_holds k_X1_52 (by decide) e_X1_mostAlike_20 rfl rfl (Nat.le_of_ble_eq_true rfl) (fun v5 => ?_)
    refine MF.join (fun j : Int32 → Option Int32 => ∀ (a6 : Int32), MF l E X (fun q : Int32 => QI E X q s) (j a6) s 52 [(0, .ref (ead E 61)), (1, .int x1), (2, .int x2), (3, .int a6), (4, .int i2)] []) ?_ (fun j7 hj7 => ?_)
    · intro a6
      refine MF.iinc (v := (nI 1)) (lv' := [(0, .ref (ead E 61)), (1, .int x1), (2, .int x2), (3, .int a6), (4, .int (i2 + (nI 1)))]) C e_X1_mostAlike_52 4 rfl rfl (by decide) rfl ?_
      refine MF.goto (tgt := 5) C e_X1_mostAlike_55 (by decide) ?_
      exact hself3 a6 (i2 + (nI 1))
    refine MF.if_eq (tgt := 52) C e_X1_mostAlike_23 (by decide) (fun _ => ?_) (fun _ => ?_)
    · exact hj7 i1
    · refine MF.iload_n C e_X1_mostAlike_26 1 rfl rfl ?_
      refine MF.aload_n C e_X1_mostAlike_27 0 rfl rfl ?_
      refine MF.aload_n C e_X1_mostAlike_28 0 rfl rfl ?_
      refine MF.iload C e_X1_mostAlike_29 4 rfl ?_
      refine MF.iload_n C e_X1_mostAlike_31 2 rfl rfl ?_
      refine MF.callVP (As := [.int i2, .int x2]) C (R_X1_at hD i2 x2 s) m_X1_at k_X1_48 kO_61 rfl (by decide) e_X1_mostAlike_32 rfl rfl (Nat.le_of_ble_eq_true rfl) (fun v8 => ?_)
      refine MF.iload_n C e_X1_mostAlike_35 2 rfl rfl ?_
      refine MF.callVP (As := [.int v8, .int x2]) C (R_X1_having hD v8 x2 s) m_X1_having k_X1_55 kO_61 rfl (by decide) e_X1_mostAlike_36 rfl rfl (Nat.le_of_ble_eq_true rfl) (fun v9 => ?_)
      refine MF.iand C e_X1_mostAlike_39 ?_
      refine MF.callSP (As := [.int (x1 &&& v9)]) C (R_J6_bitCount_0f7a4 hD (x1 &&& v9) s) m_J6_bitCount_0f7a4 k_X1_58 (by decide) e_X1_mostAlike_40 rfl rfl (Nat.le_of_ble_eq_true rfl) (fun v10 => ?_)
      refine MF.istore (lv' := [(0, .ref (ead E 61)), (1, .int x1), (2, .int x2), (3, .int i1), (4, .int i2), (5, .int v10)]) C e_X1_mostAlike_43 (by decide) rfl ?_
      refine MF.iload_n C e_X1_mostAlike_45 3 rfl rfl ?_
      refine MF.iload C e_X1_mostAlike_46 5 rfl ?_
      refine MF.max C k_X1_63 e_X1_mostAlike_48 (by decide) (Nat.le_of_ble_eq_true rfl) ?_
      refine MF.nmI (fun v11 => ?_)
      refine MF.istore_n (lv' := [(0, .ref (ead E 61)), (1, .int x1), (2, .int x2), (3, .int v11), (4, .int i2), (5, .int v10)]) C e_X1_mostAlike_51 (by decide) rfl ?_
      refine MF.sub [0, 1, 2, 3, 4] rfl ?_
      exact hj7 v11
theorem e_X2_add_0 : Dc cX2_add 0 (.aload_n 0) 1 1 := ⟨by decide +kernel, rfl⟩
theorem e_X2_add_1 : Dc cX2_add 1 (.aload_n 0) 1 2 := ⟨by decide +kernel, rfl⟩
theorem e_X2_add_2 : Dc cX2_add 2 (.getfield 7) 3 5 := ⟨by decide +kernel, rfl⟩
theorem e_X2_add_5 : Dc cX2_add 5 (.aload_n 1) 1 6 := ⟨by decide +kernel, rfl⟩
theorem e_X2_add_6 : Dc cX2_add 6 (.invokevirtual 20) 3 9 := ⟨by decide +kernel, rfl⟩
theorem e_X2_add_9 : Dc cX2_add 9 (.return_) 1 10 := ⟨by decide +kernel, rfl⟩
set_option maxHeartbeats 4000000 in
set_option maxRecDepth 20000 in
theorem R_X2_add (hD : DD E) (o : Nat) (c1 : Nat) (ho : iRo o) (hc1 : iA c1) (s : Sg) : ∀ τ, (f_X2_add o c1 s) = some τ → RV l E 2 M_X2_add [.ref (ead E o), .ref (ead E c1)] s τ := by
  refine ofU hD (by decide +kernel) (Nat.le_of_ble_eq_true rfl) (fun X C => ?_)
  show MF l E X (fun q : Sg => QV E X q) (f_X2_add o c1 s) s 0 [(0, .ref (ead E o)), (1, .ref (ead E c1))] []
  unfold f_X2_add
  refine MF.aload_n C e_X2_add_0 0 rfl rfl ?_
  refine MF.aload_n C e_X2_add_1 0 rfl rfl ?_
  refine MF.get C cf_X2 l_X2_7 e_X2_add_2 (iRo.f2 ho) ?_
  refine MF.aload_n C e_X2_add_5 1 rfl rfl ?_
  refine MF.callVU (As := [.int (s o 2), .ref (ead E c1)]) C (R_X2_insert hD o (s o 2) c1 ho hc1 s) m_X2_insert k_X2_20 (iRo.o ho) rfl (by decide) e_X2_add_6 rfl rfl (Nat.le_of_ble_eq_true rfl) (fun s1 => ?_)
  exact MF.vret C e_X2_add_9
theorem e_X2_copy_0 : Dc cX2_copy 0 (.aload_n 1) 1 1 := ⟨by decide +kernel, rfl⟩
theorem e_X2_copy_1 : Dc cX2_copy 1 (.getfield 13) 3 4 := ⟨by decide +kernel, rfl⟩
theorem e_X2_copy_4 : Dc cX2_copy 4 (.aload_n 0) 1 5 := ⟨by decide +kernel, rfl⟩
theorem e_X2_copy_5 : Dc cX2_copy 5 (.getfield 13) 3 8 := ⟨by decide +kernel, rfl⟩
theorem e_X2_copy_8 : Dc cX2_copy 8 (.if_icmp .ne 16) 3 11 := ⟨by decide +kernel, rfl⟩
theorem e_X2_copy_11 : Dc cX2_copy 11 (.aload_n 1) 1 12 := ⟨by decide +kernel, rfl⟩
theorem e_X2_copy_12 : Dc cX2_copy 12 (.getfield 16) 3 15 := ⟨by decide +kernel, rfl⟩
theorem e_X2_copy_15 : Dc cX2_copy 15 (.arraylength) 1 16 := ⟨by decide +kernel, rfl⟩
theorem e_X2_copy_16 : Dc cX2_copy 16 (.aload_n 0) 1 17 := ⟨by decide +kernel, rfl⟩
theorem e_X2_copy_17 : Dc cX2_copy 17 (.getfield 16) 3 20 := ⟨by decide +kernel, rfl⟩
theorem e_X2_copy_20 : Dc cX2_copy 20 (.arraylength) 1 21 := ⟨by decide +kernel, rfl⟩
theorem e_X2_copy_21 : Dc cX2_copy 21 (.if_icmp .eq 4) 3 24 := ⟨by decide +kernel, rfl⟩
theorem e_X2_copy_24 : Dc cX2_copy 24 (.return_) 1 25 := ⟨by decide +kernel, rfl⟩
theorem e_X2_copy_25 : Dc cX2_copy 25 (.aload_n 1) 1 26 := ⟨by decide +kernel, rfl⟩
theorem e_X2_copy_26 : Dc cX2_copy 26 (.getfield 16) 3 29 := ⟨by decide +kernel, rfl⟩
theorem e_X2_copy_29 : Dc cX2_copy 29 (.iconst 0) 1 30 := ⟨by decide +kernel, rfl⟩
theorem e_X2_copy_30 : Dc cX2_copy 30 (.aload_n 0) 1 31 := ⟨by decide +kernel, rfl⟩
theorem e_X2_copy_31 : Dc cX2_copy 31 (.getfield 16) 3 34 := ⟨by decide +kernel, rfl⟩
theorem e_X2_copy_34 : Dc cX2_copy 34 (.iconst 0) 1 35 := ⟨by decide +kernel, rfl⟩
theorem e_X2_copy_35 : Dc cX2_copy 35 (.aload_n 0) 1 36 := ⟨by decide +kernel, rfl⟩
theorem e_X2_copy_36 : Dc cX2_copy 36 (.getfield 16) 3 39 := ⟨by decide +kernel, rfl⟩
theorem e_X2_copy_39 : Dc cX2_copy 39 (.arraylength) 1 40 := ⟨by decide +kernel, rfl⟩
theorem e_X2_copy_40 : Dc cX2_copy 40 (.invokestatic 28) 3 43 := ⟨by decide +kernel, rfl⟩
theorem e_X2_copy_43 : Dc cX2_copy 43 (.aload_n 0) 1 44 := ⟨by decide +kernel, rfl⟩
theorem e_X2_copy_44 : Dc cX2_copy 44 (.aload_n 1) 1 45 := ⟨by decide +kernel, rfl⟩
theorem e_X2_copy_45 : Dc cX2_copy 45 (.getfield 7) 3 48 := ⟨by decide +kernel, rfl⟩
theorem e_X2_copy_48 : Dc cX2_copy 48 (.putfield 7) 3 51 := ⟨by decide +kernel, rfl⟩
theorem e_X2_copy_51 : Dc cX2_copy 51 (.return_) 1 52 := ⟨by decide +kernel, rfl⟩
set_option maxHeartbeats 4000000 in
set_option maxRecDepth 20000 in
theorem R_X2_copy (hD : DD E) (o : Nat) (o1 : Nat) (ho : iRo o) (ho1 : iRo o1) (s : Sg) : ∀ τ, (f_X2_copy o o1 s) = some τ → RV l E 1 M_X2_copy [.ref (ead E o), .ref (ead E o1)] s τ := by
  refine ofU hD (by decide +kernel) (Nat.le_of_ble_eq_true rfl) (fun X C => ?_)
  show MF l E X (fun q : Sg => QV E X q) (f_X2_copy o o1 s) s 0 [(0, .ref (ead E o)), (1, .ref (ead E o1))] []
  unfold f_X2_copy
  refine MF.aload_n C e_X2_copy_0 1 rfl rfl ?_
  refine MF.get C cf_X2 l_X2_13 e_X2_copy_1 (iRo.f0 ho1) ?_
  refine MF.aload_n C e_X2_copy_4 0 rfl rfl ?_
  refine MF.get C cf_X2 l_X2_13 e_X2_copy_5 (iRo.f0 ho) ?_
  refine MF.icmp_ne (tgt := 24) C e_X2_copy_8 (by decide) (fun _ => ?_) (fun _ => ?_)
  · exact MF.vret C e_X2_copy_24
  · refine MF.aload_n C e_X2_copy_11 1 rfl rfl ?_
    refine MF.getR (j := (o1 + 1)) C cf_X2 l_X2_16 e_X2_copy_12 (iRo.f1 ho1) ?_
    refine MF.alenI C e_X2_copy_15 (iRo.a ho1) ?_
    refine MF.aload_n C e_X2_copy_16 0 rfl rfl ?_
    refine MF.getR (j := (o + 1)) C cf_X2 l_X2_16 e_X2_copy_17 (iRo.f1 ho) ?_
    refine MF.alenI C e_X2_copy_20 (iRo.a ho) ?_
    refine MF.icmp_eq (tgt := 25) C e_X2_copy_21 (by decide) (fun _ => ?_) (fun _ => ?_)
    · refine MF.aload_n C e_X2_copy_25 1 rfl rfl ?_
      refine MF.getR (j := (o1 + 1)) C cf_X2 l_X2_16 e_X2_copy_26 (iRo.f1 ho1) ?_
      refine MF.iconst (v := (nI 0)) C e_X2_copy_29 rfl ?_
      refine MF.aload_n C e_X2_copy_30 0 rfl rfl ?_
      refine MF.getR (j := (o + 1)) C cf_X2 l_X2_16 e_X2_copy_31 (iRo.f1 ho) ?_
      refine MF.iconst (v := (nI 0)) C e_X2_copy_34 rfl ?_
      refine MF.aload_n C e_X2_copy_35 0 rfl rfl ?_
      refine MF.getR (j := (o + 1)) C cf_X2 l_X2_16 e_X2_copy_36 (iRo.f1 ho) ?_
      refine MF.alenI C e_X2_copy_39 (iRo.a ho) ?_
      refine MF.copy C k_X2_28 e_X2_copy_40 (iRo.a ho1) (iRo.a ho) (by decide) (Nat.le_of_ble_eq_true rfl) (fun s1 => ?_)
      refine MF.aload_n C e_X2_copy_43 0 rfl rfl ?_
      refine MF.aload_n C e_X2_copy_44 1 rfl rfl ?_
      refine MF.get C cf_X2 l_X2_7 e_X2_copy_45 (iRo.f2 ho1) ?_
      refine MF.put C cf_X2 l_X2_7 p_X2_2 e_X2_copy_48 (iRo.f2 ho) rfl ?_
      refine MF.nmS (fun s2 => ?_)
      exact MF.vret C e_X2_copy_51
    · exact MF.vret C e_X2_copy_24
theorem e_X2_mixInto_0 : Dc cX2_mixInto 0 (.lload_n 1) 1 1 := ⟨by decide +kernel, rfl⟩
theorem e_X2_mixInto_1 : Dc cX2_mixInto 1 (.lstore_n 3) 1 2 := ⟨by decide +kernel, rfl⟩
theorem e_X2_mixInto_2 : Dc cX2_mixInto 2 (.iconst 0) 1 3 := ⟨by decide +kernel, rfl⟩
theorem e_X2_mixInto_3 : Dc cX2_mixInto 3 (.istore 5) 2 5 := ⟨by decide +kernel, rfl⟩
theorem e_X2_mixInto_5 : Dc cX2_mixInto 5 (.iload 5) 2 7 := ⟨by decide +kernel, rfl⟩
theorem e_X2_mixInto_7 : Dc cX2_mixInto 7 (.aload_n 0) 1 8 := ⟨by decide +kernel, rfl⟩
theorem e_X2_mixInto_8 : Dc cX2_mixInto 8 (.getfield 7) 3 11 := ⟨by decide +kernel, rfl⟩
theorem e_X2_mixInto_11 : Dc cX2_mixInto 11 (.aload_n 0) 1 12 := ⟨by decide +kernel, rfl⟩
theorem e_X2_mixInto_12 : Dc cX2_mixInto 12 (.getfield 13) 3 15 := ⟨by decide +kernel, rfl⟩
theorem e_X2_mixInto_15 : Dc cX2_mixInto 15 (.imul) 1 16 := ⟨by decide +kernel, rfl⟩
theorem e_X2_mixInto_16 : Dc cX2_mixInto 16 (.if_icmp .ge 24) 3 19 := ⟨by decide +kernel, rfl⟩
theorem e_X2_mixInto_19 : Dc cX2_mixInto 19 (.ldc2_w 40) 3 22 := ⟨by decide +kernel, rfl⟩
theorem e_X2_mixInto_22 : Dc cX2_mixInto 22 (.lload_n 3) 1 23 := ⟨by decide +kernel, rfl⟩
theorem e_X2_mixInto_23 : Dc cX2_mixInto 23 (.lmul) 1 24 := ⟨by decide +kernel, rfl⟩
theorem e_X2_mixInto_24 : Dc cX2_mixInto 24 (.aload_n 0) 1 25 := ⟨by decide +kernel, rfl⟩
theorem e_X2_mixInto_25 : Dc cX2_mixInto 25 (.getfield 16) 3 28 := ⟨by decide +kernel, rfl⟩
theorem e_X2_mixInto_28 : Dc cX2_mixInto 28 (.iload 5) 2 30 := ⟨by decide +kernel, rfl⟩
theorem e_X2_mixInto_30 : Dc cX2_mixInto 30 (.iaload) 1 31 := ⟨by decide +kernel, rfl⟩
theorem e_X2_mixInto_31 : Dc cX2_mixInto 31 (.i2l) 1 32 := ⟨by decide +kernel, rfl⟩
theorem e_X2_mixInto_32 : Dc cX2_mixInto 32 (.ladd) 1 33 := ⟨by decide +kernel, rfl⟩
theorem e_X2_mixInto_33 : Dc cX2_mixInto 33 (.lstore_n 3) 1 34 := ⟨by decide +kernel, rfl⟩
theorem e_X2_mixInto_34 : Dc cX2_mixInto 34 (.iinc 5 1) 3 37 := ⟨by decide +kernel, rfl⟩
theorem e_X2_mixInto_37 : Dc cX2_mixInto 37 (.goto (-32)) 3 40 := ⟨by decide +kernel, rfl⟩
theorem e_X2_mixInto_40 : Dc cX2_mixInto 40 (.lload_n 3) 1 41 := ⟨by decide +kernel, rfl⟩
theorem e_X2_mixInto_41 : Dc cX2_mixInto 41 (.lreturn) 1 42 := ⟨by decide +kernel, rfl⟩
set_option maxHeartbeats 4000000 in
set_option maxRecDepth 20000 in
theorem R_X2_mixInto (hD : DD E) (o : Nat) (x1 : Int64) (ho : iRo o) (s : Sg) : ∀ v, (f_X2_mixInto o x1 s) = some v → RLg l E 0 M_X2_mixInto [.ref (ead E o), .long x1] s v s := by
  refine ofL hD (by decide +kernel) (Nat.le_of_ble_eq_true rfl) (fun X C => ?_)
  show MF l E X (fun q : Int64 => QL E X q s) (f_X2_mixInto o x1 s) s 0 [(0, .ref (ead E o)), (1, .long x1)] []
  unfold f_X2_mixInto
  refine MF.lload_n C e_X2_mixInto_0 1 rfl rfl ?_
  refine MF.lstore_n (lv' := [(0, .ref (ead E o)), (1, .long x1), (3, .long x1)]) C e_X2_mixInto_1 (by decide) rfl ?_
  refine MF.iconst (v := (nI 0)) C e_X2_mixInto_2 rfl ?_
  refine MF.istore (lv' := [(0, .ref (ead E o)), (1, .long x1), (3, .long x1), (5, .int (nI 0))]) C e_X2_mixInto_3 (by decide) rfl ?_
  refine MF.sub [0, 2, 3] rfl ?_
  refine MF.loop2 (fun i1 i2 => s) (fun i1 i2 => [(0, .ref (ead E o)), (3, .long i1), (5, .int i2)]) (fun self3 hself3 i1 i2 => ?_) fu x1 (nI 0)
  unfold b_X2_mixInto_5
  refine MF.iload C e_X2_mixInto_5 2 rfl ?_
  refine MF.aload_n C e_X2_mixInto_7 0 rfl rfl ?_
  refine MF.get C cf_X2 l_X2_7 e_X2_mixInto_8 (iRo.f2 ho) ?_
  refine MF.aload_n C e_X2_mixInto_11 0 rfl rfl ?_
  refine MF.get C cf_X2 l_X2_13 e_X2_mixInto_12 (iRo.f0 ho) ?_
  refine MF.imul C e_X2_mixInto_15 ?_
  refine MF.icmp_ge (tgt := 40) C e_X2_mixInto_16 (by decide) (fun _ => ?_) (fun _ => ?_)
  · refine MF.lload_n C e_X2_mixInto_40 1 rfl rfl ?_
    exact MF.lretp C e_X2_mixInto_41
  · refine MF.ldc2 C e_X2_mixInto_19 t_X2_40 ?_
    refine MF.lload_n C e_X2_mixInto_22 1 rfl rfl ?_
    refine MF.lmul C e_X2_mixInto_23 ?_
    refine MF.aload_n C e_X2_mixInto_24 0 rfl rfl ?_
    refine MF.getR (j := (o + 1)) C cf_X2 l_X2_16 e_X2_mixInto_25 (iRo.f1 ho) ?_
    refine MF.iload C e_X2_mixInto_28 2 rfl ?_
    refine MF.iald C e_X2_mixInto_30 (iRo.a ho) (fun v4 => ?_)
    refine MF.i2l C e_X2_mixInto_31 ?_
    refine MF.ladd C e_X2_mixInto_32 ?_
    refine MF.nmL (fun v5 => ?_)
    refine MF.lstore_n (lv' := [(0, .ref (ead E o)), (3, .long v5), (5, .int i2)]) C e_X2_mixInto_33 (by decide) rfl ?_
    refine MF.iinc (v := (nI 1)) (lv' := [(0, .ref (ead E o)), (3, .long v5), (5, .int (i2 + (nI 1)))]) C e_X2_mixInto_34 2 rfl rfl (by decide) rfl ?_
    refine MF.goto (tgt := 5) C e_X2_mixInto_37 (by decide) ?_
    exact hself3 v5 (i2 + (nI 1))
theorem e_X3_hourOfOne_0 : Dc cX3_hourOfOne 0 (.iload_n 3) 1 1 := ⟨by decide +kernel, rfl⟩
theorem e_X3_hourOfOne_1 : Dc cX3_hourOfOne 1 (.istore 5) 2 3 := ⟨by decide +kernel, rfl⟩
theorem e_X3_hourOfOne_3 : Dc cX3_hourOfOne 3 (.iload 5) 2 5 := ⟨by decide +kernel, rfl⟩
theorem e_X3_hourOfOne_5 : Dc cX3_hourOfOne 5 (.iload 4) 2 7 := ⟨by decide +kernel, rfl⟩
theorem e_X3_hourOfOne_7 : Dc cX3_hourOfOne 7 (.if_icmp .gt 61) 3 10 := ⟨by decide +kernel, rfl⟩
theorem e_X3_hourOfOne_10 : Dc cX3_hourOfOne 10 (.aload_n 0) 1 11 := ⟨by decide +kernel, rfl⟩
theorem e_X3_hourOfOne_11 : Dc cX3_hourOfOne 11 (.getfield 28) 3 14 := ⟨by decide +kernel, rfl⟩
theorem e_X3_hourOfOne_14 : Dc cX3_hourOfOne 14 (.iload_n 1) 1 15 := ⟨by decide +kernel, rfl⟩
theorem e_X3_hourOfOne_15 : Dc cX3_hourOfOne 15 (.iload_n 2) 1 16 := ⟨by decide +kernel, rfl⟩
theorem e_X3_hourOfOne_16 : Dc cX3_hourOfOne 16 (.iload 5) 2 18 := ⟨by decide +kernel, rfl⟩
theorem e_X3_hourOfOne_18 : Dc cX3_hourOfOne 18 (.invokevirtual 42) 3 21 := ⟨by decide +kernel, rfl⟩
theorem e_X3_hourOfOne_21 : Dc cX3_hourOfOne 21 (.istore 6) 2 23 := ⟨by decide +kernel, rfl⟩
theorem e_X3_hourOfOne_23 : Dc cX3_hourOfOne 23 (.aload_n 0) 1 24 := ⟨by decide +kernel, rfl⟩
theorem e_X3_hourOfOne_24 : Dc cX3_hourOfOne 24 (.getfield 28) 3 27 := ⟨by decide +kernel, rfl⟩
theorem e_X3_hourOfOne_27 : Dc cX3_hourOfOne 27 (.iload_n 1) 1 28 := ⟨by decide +kernel, rfl⟩
theorem e_X3_hourOfOne_28 : Dc cX3_hourOfOne 28 (.iload 4) 2 30 := ⟨by decide +kernel, rfl⟩
theorem e_X3_hourOfOne_30 : Dc cX3_hourOfOne 30 (.iconst (-1)) 1 31 := ⟨by decide +kernel, rfl⟩
theorem e_X3_hourOfOne_31 : Dc cX3_hourOfOne 31 (.invokevirtual 34) 3 34 := ⟨by decide +kernel, rfl⟩
theorem e_X3_hourOfOne_34 : Dc cX3_hourOfOne 34 (.iload_n 2) 1 35 := ⟨by decide +kernel, rfl⟩
theorem e_X3_hourOfOne_35 : Dc cX3_hourOfOne 35 (.if_icmp .ne 7) 3 38 := ⟨by decide +kernel, rfl⟩
theorem e_X3_hourOfOne_38 : Dc cX3_hourOfOne 38 (.iconst 1) 1 39 := ⟨by decide +kernel, rfl⟩
theorem e_X3_hourOfOne_39 : Dc cX3_hourOfOne 39 (.goto 4) 3 42 := ⟨by decide +kernel, rfl⟩
theorem e_X3_hourOfOne_42 : Dc cX3_hourOfOne 42 (.iconst 0) 1 43 := ⟨by decide +kernel, rfl⟩
theorem e_X3_hourOfOne_43 : Dc cX3_hourOfOne 43 (.istore 7) 2 45 := ⟨by decide +kernel, rfl⟩
theorem e_X3_hourOfOne_45 : Dc cX3_hourOfOne 45 (.aload_n 0) 1 46 := ⟨by decide +kernel, rfl⟩
theorem e_X3_hourOfOne_46 : Dc cX3_hourOfOne 46 (.getfield 28) 3 49 := ⟨by decide +kernel, rfl⟩
theorem e_X3_hourOfOne_49 : Dc cX3_hourOfOne 49 (.iload 6) 2 51 := ⟨by decide +kernel, rfl⟩
theorem e_X3_hourOfOne_51 : Dc cX3_hourOfOne 51 (.invokevirtual 45) 3 54 := ⟨by decide +kernel, rfl⟩
theorem e_X3_hourOfOne_54 : Dc cX3_hourOfOne 54 (.iload 7) 2 56 := ⟨by decide +kernel, rfl⟩
theorem e_X3_hourOfOne_56 : Dc cX3_hourOfOne 56 (.ifCond .eq 6) 3 59 := ⟨by decide +kernel, rfl⟩
theorem e_X3_hourOfOne_59 : Dc cX3_hourOfOne 59 (.iload 5) 2 61 := ⟨by decide +kernel, rfl⟩
theorem e_X3_hourOfOne_61 : Dc cX3_hourOfOne 61 (.ireturn) 1 62 := ⟨by decide +kernel, rfl⟩
theorem e_X3_hourOfOne_62 : Dc cX3_hourOfOne 62 (.iinc 5 1) 3 65 := ⟨by decide +kernel, rfl⟩
theorem e_X3_hourOfOne_65 : Dc cX3_hourOfOne 65 (.goto (-62)) 3 68 := ⟨by decide +kernel, rfl⟩
theorem e_X3_hourOfOne_68 : Dc cX3_hourOfOne 68 (.iconst (-1)) 1 69 := ⟨by decide +kernel, rfl⟩
theorem e_X3_hourOfOne_69 : Dc cX3_hourOfOne 69 (.ireturn) 1 70 := ⟨by decide +kernel, rfl⟩
set_option maxHeartbeats 4000000 in
set_option maxRecDepth 20000 in
theorem R_X3_hourOfOne (hD : DD E) (x1 : Int32) (x2 : Int32) (x3 : Int32) (x4 : Int32) (s : Sg) : ∀ v τ, (f_X3_hourOfOne x1 x2 x3 x4 s) = some (v, τ) → RI l E 4 M_X3_hourOfOne [.ref (ead E 63), .int x1, .int x2, .int x3, .int x4] s v τ := by
  refine ofI hD (by decide +kernel) (Nat.le_of_ble_eq_true rfl) (fun X C => ?_)
  show MF l E X (fun q : Int32 × Sg => QI E X q.1 q.2) (f_X3_hourOfOne x1 x2 x3 x4 s) s 0 [(0, .ref (ead E 63)), (1, .int x1), (2, .int x2), (3, .int x3), (4, .int x4)] []
  unfold f_X3_hourOfOne
  refine MF.iload_n C e_X3_hourOfOne_0 3 rfl rfl ?_
  refine MF.istore (lv' := [(0, .ref (ead E 63)), (1, .int x1), (2, .int x2), (3, .int x3), (4, .int x4), (5, .int x3)]) C e_X3_hourOfOne_1 (by decide) rfl ?_
  refine MF.sub [0, 1, 2, 4, 5] rfl ?_
  refine MF.loop2 (fun i1 s2 => s2) (fun i1 s2 => [(0, .ref (ead E 63)), (1, .int x1), (2, .int x2), (4, .int x4), (5, .int i1)]) (fun self3 hself3 i1 s2 => ?_) fu x3 s
  unfold b_X3_hourOfOne_3
  refine MF.iload C e_X3_hourOfOne_3 4 rfl ?_
  refine MF.iload C e_X3_hourOfOne_5 3 rfl ?_
  refine MF.icmp_gt (tgt := 68) C e_X3_hourOfOne_7 (by decide) (fun _ => ?_) (fun _ => ?_)
  · refine MF.iconst (v := (-1 : Int32)) C e_X3_hourOfOne_68 rfl ?_
    exact MF.iret C e_X3_hourOfOne_69
  · refine MF.aload_n C e_X3_hourOfOne_10 0 rfl rfl ?_
    refine MF.getR (j := 52) C cf_X3 l_X3_28 e_X3_hourOfOne_11 kF_63_0 ?_
    refine MF.iload_n C e_X3_hourOfOne_14 1 rfl rfl ?_
    refine MF.iload_n C e_X3_hourOfOne_15 2 rfl rfl ?_
    refine MF.iload C e_X3_hourOfOne_16 4 rfl ?_
    refine MF.callVI (As := [.int x1, .int x2, .int i1]) C (R_X0_addStaged hD x1 x2 i1 s2) m_X0_addStaged k_X3_42 kO_52 rfl (by decide) e_X3_hourOfOne_18 rfl rfl (Nat.le_of_ble_eq_true rfl) (fun v4 s5 => ?_)
    refine MF.istore (lv' := [(0, .ref (ead E 63)), (1, .int x1), (2, .int x2), (4, .int x4), (5, .int i1), (6, .int v4)]) C e_X3_hourOfOne_21 (by decide) rfl ?_
    refine MF.aload_n C e_X3_hourOfOne_23 0 rfl rfl ?_
    refine MF.getR (j := 52) C cf_X3 l_X3_28 e_X3_hourOfOne_24 kF_63_0 ?_
    refine MF.iload_n C e_X3_hourOfOne_27 1 rfl rfl ?_
    refine MF.iload C e_X3_hourOfOne_28 3 rfl ?_
    refine MF.iconst (v := (-1 : Int32)) C e_X3_hourOfOne_30 rfl ?_
    refine MF.callVI (As := [.int x1, .int x4, .int (-1 : Int32)]) C (R_X0_wordIn hD x1 x4 (-1 : Int32) s5) m_X0_wordIn k_X3_34 kO_52 rfl (by decide) e_X3_hourOfOne_31 rfl rfl (Nat.le_of_ble_eq_true rfl) (fun v6 s7 => ?_)
    refine MF.iload_n C e_X3_hourOfOne_34 2 rfl rfl ?_
    refine MF.join (fun j : Int32 → Option (Int32 × Sg) => ∀ (a8 : Int32), MF l E X (fun q : Int32 × Sg => QI E X q.1 q.2) (j a8) s7 43 [(0, .ref (ead E 63)), (1, .int x1), (2, .int x2), (4, .int x4), (5, .int i1), (6, .int v4)] [.int a8]) ?_ (fun j9 hj9 => ?_)
    · intro a8
      refine MF.istore (lv' := [(0, .ref (ead E 63)), (1, .int x1), (2, .int x2), (4, .int x4), (5, .int i1), (6, .int v4), (7, .int a8)]) C e_X3_hourOfOne_43 (by decide) rfl ?_
      refine MF.aload_n C e_X3_hourOfOne_45 0 rfl rfl ?_
      refine MF.getR (j := 52) C cf_X3 l_X3_28 e_X3_hourOfOne_46 kF_63_0 ?_
      refine MF.iload C e_X3_hourOfOne_49 5 rfl ?_
      refine MF.callVU (As := [.int v4]) C (R_X0_dropStaged hD v4 s7) m_X0_dropStaged k_X3_45 kO_52 rfl (by decide) e_X3_hourOfOne_51 rfl rfl (Nat.le_of_ble_eq_true rfl) (fun s10 => ?_)
      refine MF.iload C e_X3_hourOfOne_54 6 rfl ?_
      refine MF.if_eq (tgt := 62) C e_X3_hourOfOne_56 (by decide) (fun _ => ?_) (fun _ => ?_)
      · refine MF.iinc (v := (nI 1)) (lv' := [(0, .ref (ead E 63)), (1, .int x1), (2, .int x2), (4, .int x4), (5, .int (i1 + (nI 1))), (6, .int v4), (7, .int a8)]) C e_X3_hourOfOne_62 4 rfl rfl (by decide) rfl ?_
        refine MF.goto (tgt := 3) C e_X3_hourOfOne_65 (by decide) ?_
        refine MF.sub [0, 1, 2, 3, 4] rfl ?_
        exact hself3 (i1 + (nI 1)) s10
      · refine MF.iload C e_X3_hourOfOne_59 4 rfl ?_
        exact MF.iret C e_X3_hourOfOne_61
    refine MF.icmp_ne (tgt := 42) C e_X3_hourOfOne_35 (by decide) (fun _ => ?_) (fun _ => ?_)
    · refine MF.iconst (v := (nI 0)) C e_X3_hourOfOne_42 rfl ?_
      exact hj9 (nI 0)
    · refine MF.iconst (v := (nI 1)) C e_X3_hourOfOne_38 rfl ?_
      refine MF.goto (tgt := 43) C e_X3_hourOfOne_39 (by decide) ?_
      exact hj9 (nI 1)
theorem e_X3_fewestStaged_0 : Dc cX3_fewestStaged 0 (.aload_n 0) 1 1 := ⟨by decide +kernel, rfl⟩
theorem e_X3_fewestStaged_1 : Dc cX3_fewestStaged 1 (.getfield 28) 3 4 := ⟨by decide +kernel, rfl⟩
theorem e_X3_fewestStaged_4 : Dc cX3_fewestStaged 4 (.iload_n 1) 1 5 := ⟨by decide +kernel, rfl⟩
theorem e_X3_fewestStaged_5 : Dc cX3_fewestStaged 5 (.iload_n 3) 1 6 := ⟨by decide +kernel, rfl⟩
theorem e_X3_fewestStaged_6 : Dc cX3_fewestStaged 6 (.iconst (-1)) 1 7 := ⟨by decide +kernel, rfl⟩
theorem e_X3_fewestStaged_7 : Dc cX3_fewestStaged 7 (.invokevirtual 34) 3 10 := ⟨by decide +kernel, rfl⟩
theorem e_X3_fewestStaged_10 : Dc cX3_fewestStaged 10 (.iload_n 2) 1 11 := ⟨by decide +kernel, rfl⟩
theorem e_X3_fewestStaged_11 : Dc cX3_fewestStaged 11 (.if_icmp .ne 5) 3 14 := ⟨by decide +kernel, rfl⟩
theorem e_X3_fewestStaged_14 : Dc cX3_fewestStaged 14 (.iconst 0) 1 15 := ⟨by decide +kernel, rfl⟩
theorem e_X3_fewestStaged_15 : Dc cX3_fewestStaged 15 (.ireturn) 1 16 := ⟨by decide +kernel, rfl⟩
theorem e_X3_fewestStaged_16 : Dc cX3_fewestStaged 16 (.aload_n 0) 1 17 := ⟨by decide +kernel, rfl⟩
theorem e_X3_fewestStaged_17 : Dc cX3_fewestStaged 17 (.aload_n 0) 1 18 := ⟨by decide +kernel, rfl⟩
theorem e_X3_fewestStaged_18 : Dc cX3_fewestStaged 18 (.iload_n 1) 1 19 := ⟨by decide +kernel, rfl⟩
theorem e_X3_fewestStaged_19 : Dc cX3_fewestStaged 19 (.iload_n 2) 1 20 := ⟨by decide +kernel, rfl⟩
theorem e_X3_fewestStaged_20 : Dc cX3_fewestStaged 20 (.iconst 0) 1 21 := ⟨by decide +kernel, rfl⟩
theorem e_X3_fewestStaged_21 : Dc cX3_fewestStaged 21 (.iload_n 3) 1 22 := ⟨by decide +kernel, rfl⟩
theorem e_X3_fewestStaged_22 : Dc cX3_fewestStaged 22 (.invokevirtual 38) 3 25 := ⟨by decide +kernel, rfl⟩
theorem e_X3_fewestStaged_25 : Dc cX3_fewestStaged 25 (.putfield 18) 3 28 := ⟨by decide +kernel, rfl⟩
theorem e_X3_fewestStaged_28 : Dc cX3_fewestStaged 28 (.aload_n 0) 1 29 := ⟨by decide +kernel, rfl⟩
theorem e_X3_fewestStaged_29 : Dc cX3_fewestStaged 29 (.getfield 18) 3 32 := ⟨by decide +kernel, rfl⟩
theorem e_X3_fewestStaged_32 : Dc cX3_fewestStaged 32 (.iconst (-1)) 1 33 := ⟨by decide +kernel, rfl⟩
theorem e_X3_fewestStaged_33 : Dc cX3_fewestStaged 33 (.if_icmp .eq 5) 3 36 := ⟨by decide +kernel, rfl⟩
theorem e_X3_fewestStaged_36 : Dc cX3_fewestStaged 36 (.iconst 1) 1 37 := ⟨by decide +kernel, rfl⟩
theorem e_X3_fewestStaged_37 : Dc cX3_fewestStaged 37 (.ireturn) 1 38 := ⟨by decide +kernel, rfl⟩
theorem e_X3_fewestStaged_38 : Dc cX3_fewestStaged 38 (.iconst 0) 1 39 := ⟨by decide +kernel, rfl⟩
theorem e_X3_fewestStaged_39 : Dc cX3_fewestStaged 39 (.istore 4) 2 41 := ⟨by decide +kernel, rfl⟩
theorem e_X3_fewestStaged_41 : Dc cX3_fewestStaged 41 (.iload 4) 2 43 := ⟨by decide +kernel, rfl⟩
theorem e_X3_fewestStaged_43 : Dc cX3_fewestStaged 43 (.iload_n 3) 1 44 := ⟨by decide +kernel, rfl⟩
theorem e_X3_fewestStaged_44 : Dc cX3_fewestStaged 44 (.if_icmp .ge 62) 3 47 := ⟨by decide +kernel, rfl⟩
theorem e_X3_fewestStaged_47 : Dc cX3_fewestStaged 47 (.aload_n 0) 1 48 := ⟨by decide +kernel, rfl⟩
theorem e_X3_fewestStaged_48 : Dc cX3_fewestStaged 48 (.getfield 28) 3 51 := ⟨by decide +kernel, rfl⟩
theorem e_X3_fewestStaged_51 : Dc cX3_fewestStaged 51 (.iload_n 1) 1 52 := ⟨by decide +kernel, rfl⟩
theorem e_X3_fewestStaged_52 : Dc cX3_fewestStaged 52 (.iload_n 2) 1 53 := ⟨by decide +kernel, rfl⟩
theorem e_X3_fewestStaged_53 : Dc cX3_fewestStaged 53 (.iload 4) 2 55 := ⟨by decide +kernel, rfl⟩
theorem e_X3_fewestStaged_55 : Dc cX3_fewestStaged 55 (.invokevirtual 42) 3 58 := ⟨by decide +kernel, rfl⟩
theorem e_X3_fewestStaged_58 : Dc cX3_fewestStaged 58 (.istore 5) 2 60 := ⟨by decide +kernel, rfl⟩
theorem e_X3_fewestStaged_60 : Dc cX3_fewestStaged 60 (.aload_n 0) 1 61 := ⟨by decide +kernel, rfl⟩
theorem e_X3_fewestStaged_61 : Dc cX3_fewestStaged 61 (.aload_n 0) 1 62 := ⟨by decide +kernel, rfl⟩
theorem e_X3_fewestStaged_62 : Dc cX3_fewestStaged 62 (.iload_n 1) 1 63 := ⟨by decide +kernel, rfl⟩
theorem e_X3_fewestStaged_63 : Dc cX3_fewestStaged 63 (.iload_n 2) 1 64 := ⟨by decide +kernel, rfl⟩
theorem e_X3_fewestStaged_64 : Dc cX3_fewestStaged 64 (.iload 4) 2 66 := ⟨by decide +kernel, rfl⟩
theorem e_X3_fewestStaged_66 : Dc cX3_fewestStaged 66 (.iconst 1) 1 67 := ⟨by decide +kernel, rfl⟩
theorem e_X3_fewestStaged_67 : Dc cX3_fewestStaged 67 (.iadd) 1 68 := ⟨by decide +kernel, rfl⟩
theorem e_X3_fewestStaged_68 : Dc cX3_fewestStaged 68 (.iload_n 3) 1 69 := ⟨by decide +kernel, rfl⟩
theorem e_X3_fewestStaged_69 : Dc cX3_fewestStaged 69 (.invokevirtual 38) 3 72 := ⟨by decide +kernel, rfl⟩
theorem e_X3_fewestStaged_72 : Dc cX3_fewestStaged 72 (.putfield 22) 3 75 := ⟨by decide +kernel, rfl⟩
theorem e_X3_fewestStaged_75 : Dc cX3_fewestStaged 75 (.aload_n 0) 1 76 := ⟨by decide +kernel, rfl⟩
theorem e_X3_fewestStaged_76 : Dc cX3_fewestStaged 76 (.getfield 28) 3 79 := ⟨by decide +kernel, rfl⟩
theorem e_X3_fewestStaged_79 : Dc cX3_fewestStaged 79 (.iload 5) 2 81 := ⟨by decide +kernel, rfl⟩
theorem e_X3_fewestStaged_81 : Dc cX3_fewestStaged 81 (.invokevirtual 45) 3 84 := ⟨by decide +kernel, rfl⟩
theorem e_X3_fewestStaged_84 : Dc cX3_fewestStaged 84 (.aload_n 0) 1 85 := ⟨by decide +kernel, rfl⟩
theorem e_X3_fewestStaged_85 : Dc cX3_fewestStaged 85 (.getfield 22) 3 88 := ⟨by decide +kernel, rfl⟩
theorem e_X3_fewestStaged_88 : Dc cX3_fewestStaged 88 (.iconst (-1)) 1 89 := ⟨by decide +kernel, rfl⟩
theorem e_X3_fewestStaged_89 : Dc cX3_fewestStaged 89 (.if_icmp .eq 11) 3 92 := ⟨by decide +kernel, rfl⟩
theorem e_X3_fewestStaged_92 : Dc cX3_fewestStaged 92 (.aload_n 0) 1 93 := ⟨by decide +kernel, rfl⟩
theorem e_X3_fewestStaged_93 : Dc cX3_fewestStaged 93 (.iload 4) 2 95 := ⟨by decide +kernel, rfl⟩
theorem e_X3_fewestStaged_95 : Dc cX3_fewestStaged 95 (.putfield 18) 3 98 := ⟨by decide +kernel, rfl⟩
theorem e_X3_fewestStaged_98 : Dc cX3_fewestStaged 98 (.iconst 2) 1 99 := ⟨by decide +kernel, rfl⟩
theorem e_X3_fewestStaged_99 : Dc cX3_fewestStaged 99 (.ireturn) 1 100 := ⟨by decide +kernel, rfl⟩
theorem e_X3_fewestStaged_100 : Dc cX3_fewestStaged 100 (.iinc 4 1) 3 103 := ⟨by decide +kernel, rfl⟩
theorem e_X3_fewestStaged_103 : Dc cX3_fewestStaged 103 (.goto (-62)) 3 106 := ⟨by decide +kernel, rfl⟩
theorem e_X3_fewestStaged_106 : Dc cX3_fewestStaged 106 (.iconst (-1)) 1 107 := ⟨by decide +kernel, rfl⟩
theorem e_X3_fewestStaged_107 : Dc cX3_fewestStaged 107 (.ireturn) 1 108 := ⟨by decide +kernel, rfl⟩
set_option maxHeartbeats 4000000 in
set_option maxRecDepth 20000 in
theorem R_X3_fewestStaged (hD : DD E) (x1 : Int32) (x2 : Int32) (x3 : Int32) (s : Sg) : ∀ v τ, (f_X3_fewestStaged x1 x2 x3 s) = some (v, τ) → RI l E 5 M_X3_fewestStaged [.ref (ead E 63), .int x1, .int x2, .int x3] s v τ := by
  refine ofI hD (by decide +kernel) (Nat.le_of_ble_eq_true rfl) (fun X C => ?_)
  show MF l E X (fun q : Int32 × Sg => QI E X q.1 q.2) (f_X3_fewestStaged x1 x2 x3 s) s 0 [(0, .ref (ead E 63)), (1, .int x1), (2, .int x2), (3, .int x3)] []
  unfold f_X3_fewestStaged
  refine MF.aload_n C e_X3_fewestStaged_0 0 rfl rfl ?_
  refine MF.getR (j := 52) C cf_X3 l_X3_28 e_X3_fewestStaged_1 kF_63_0 ?_
  refine MF.iload_n C e_X3_fewestStaged_4 1 rfl rfl ?_
  refine MF.iload_n C e_X3_fewestStaged_5 3 rfl rfl ?_
  refine MF.iconst (v := (-1 : Int32)) C e_X3_fewestStaged_6 rfl ?_
  refine MF.callVI (As := [.int x1, .int x3, .int (-1 : Int32)]) C (R_X0_wordIn hD x1 x3 (-1 : Int32) s) m_X0_wordIn k_X3_34 kO_52 rfl (by decide) e_X3_fewestStaged_7 rfl rfl (Nat.le_of_ble_eq_true rfl) (fun v1 s2 => ?_)
  refine MF.iload_n C e_X3_fewestStaged_10 2 rfl rfl ?_
  refine MF.icmp_ne (tgt := 16) C e_X3_fewestStaged_11 (by decide) (fun _ => ?_) (fun _ => ?_)
  · refine MF.aload_n C e_X3_fewestStaged_16 0 rfl rfl ?_
    refine MF.aload_n C e_X3_fewestStaged_17 0 rfl rfl ?_
    refine MF.iload_n C e_X3_fewestStaged_18 1 rfl rfl ?_
    refine MF.iload_n C e_X3_fewestStaged_19 2 rfl rfl ?_
    refine MF.iconst (v := (nI 0)) C e_X3_fewestStaged_20 rfl ?_
    refine MF.iload_n C e_X3_fewestStaged_21 3 rfl rfl ?_
    refine MF.callVI (As := [.int x1, .int x2, .int (nI 0), .int x3]) C (R_X3_hourOfOne hD x1 x2 (nI 0) x3 s2) m_X3_hourOfOne k_X3_38 kO_63 rfl (by decide) e_X3_fewestStaged_22 rfl rfl (Nat.le_of_ble_eq_true rfl) (fun v3 s4 => ?_)
    refine MF.put C cf_X3 l_X3_18 p_X3_3 e_X3_fewestStaged_25 kF_63_3 rfl ?_
    refine MF.nmS (fun s5 => ?_)
    refine MF.aload_n C e_X3_fewestStaged_28 0 rfl rfl ?_
    refine MF.get C cf_X3 l_X3_18 e_X3_fewestStaged_29 kF_63_3 ?_
    refine MF.iconst (v := (-1 : Int32)) C e_X3_fewestStaged_32 rfl ?_
    refine MF.icmp_eq (tgt := 38) C e_X3_fewestStaged_33 (by decide) (fun _ => ?_) (fun _ => ?_)
    · refine MF.iconst (v := (nI 0)) C e_X3_fewestStaged_38 rfl ?_
      refine MF.istore (lv' := [(0, .ref (ead E 63)), (1, .int x1), (2, .int x2), (3, .int x3), (4, .int (nI 0))]) C e_X3_fewestStaged_39 (by decide) rfl ?_
      refine MF.loop2 (fun i6 s7 => s7) (fun i6 s7 => [(0, .ref (ead E 63)), (1, .int x1), (2, .int x2), (3, .int x3), (4, .int i6)]) (fun self8 hself8 i6 s7 => ?_) fu (nI 0) s5
      unfold b_X3_fewestStaged_41
      refine MF.iload C e_X3_fewestStaged_41 4 rfl ?_
      refine MF.iload_n C e_X3_fewestStaged_43 3 rfl rfl ?_
      refine MF.icmp_ge (tgt := 106) C e_X3_fewestStaged_44 (by decide) (fun _ => ?_) (fun _ => ?_)
      · refine MF.iconst (v := (-1 : Int32)) C e_X3_fewestStaged_106 rfl ?_
        exact MF.iret C e_X3_fewestStaged_107
      · refine MF.aload_n C e_X3_fewestStaged_47 0 rfl rfl ?_
        refine MF.getR (j := 52) C cf_X3 l_X3_28 e_X3_fewestStaged_48 kF_63_0 ?_
        refine MF.iload_n C e_X3_fewestStaged_51 1 rfl rfl ?_
        refine MF.iload_n C e_X3_fewestStaged_52 2 rfl rfl ?_
        refine MF.iload C e_X3_fewestStaged_53 4 rfl ?_
        refine MF.callVI (As := [.int x1, .int x2, .int i6]) C (R_X0_addStaged hD x1 x2 i6 s7) m_X0_addStaged k_X3_42 kO_52 rfl (by decide) e_X3_fewestStaged_55 rfl rfl (Nat.le_of_ble_eq_true rfl) (fun v9 s10 => ?_)
        refine MF.istore (lv' := [(0, .ref (ead E 63)), (1, .int x1), (2, .int x2), (3, .int x3), (4, .int i6), (5, .int v9)]) C e_X3_fewestStaged_58 (by decide) rfl ?_
        refine MF.aload_n C e_X3_fewestStaged_60 0 rfl rfl ?_
        refine MF.aload_n C e_X3_fewestStaged_61 0 rfl rfl ?_
        refine MF.iload_n C e_X3_fewestStaged_62 1 rfl rfl ?_
        refine MF.iload_n C e_X3_fewestStaged_63 2 rfl rfl ?_
        refine MF.iload C e_X3_fewestStaged_64 4 rfl ?_
        refine MF.iconst (v := (nI 1)) C e_X3_fewestStaged_66 rfl ?_
        refine MF.iadd C e_X3_fewestStaged_67 ?_
        refine MF.iload_n C e_X3_fewestStaged_68 3 rfl rfl ?_
        refine MF.callVI (As := [.int x1, .int x2, .int (i6 + (nI 1)), .int x3]) C (R_X3_hourOfOne hD x1 x2 (i6 + (nI 1)) x3 s10) m_X3_hourOfOne k_X3_38 kO_63 rfl (by decide) e_X3_fewestStaged_69 rfl rfl (Nat.le_of_ble_eq_true rfl) (fun v11 s12 => ?_)
        refine MF.put C cf_X3 l_X3_22 p_X3_4 e_X3_fewestStaged_72 kF_63_4 rfl ?_
        refine MF.nmS (fun s13 => ?_)
        refine MF.aload_n C e_X3_fewestStaged_75 0 rfl rfl ?_
        refine MF.getR (j := 52) C cf_X3 l_X3_28 e_X3_fewestStaged_76 kF_63_0 ?_
        refine MF.iload C e_X3_fewestStaged_79 5 rfl ?_
        refine MF.callVU (As := [.int v9]) C (R_X0_dropStaged hD v9 s13) m_X0_dropStaged k_X3_45 kO_52 rfl (by decide) e_X3_fewestStaged_81 rfl rfl (Nat.le_of_ble_eq_true rfl) (fun s14 => ?_)
        refine MF.aload_n C e_X3_fewestStaged_84 0 rfl rfl ?_
        refine MF.get C cf_X3 l_X3_22 e_X3_fewestStaged_85 kF_63_4 ?_
        refine MF.iconst (v := (-1 : Int32)) C e_X3_fewestStaged_88 rfl ?_
        refine MF.icmp_eq (tgt := 100) C e_X3_fewestStaged_89 (by decide) (fun _ => ?_) (fun _ => ?_)
        · refine MF.iinc (v := (nI 1)) (lv' := [(0, .ref (ead E 63)), (1, .int x1), (2, .int x2), (3, .int x3), (4, .int (i6 + (nI 1))), (5, .int v9)]) C e_X3_fewestStaged_100 4 rfl rfl (by decide) rfl ?_
          refine MF.goto (tgt := 41) C e_X3_fewestStaged_103 (by decide) ?_
          refine MF.sub [0, 1, 2, 3, 4] rfl ?_
          exact hself8 (i6 + (nI 1)) s14
        · refine MF.aload_n C e_X3_fewestStaged_92 0 rfl rfl ?_
          refine MF.iload C e_X3_fewestStaged_93 4 rfl ?_
          refine MF.put C cf_X3 l_X3_18 p_X3_3 e_X3_fewestStaged_95 kF_63_3 rfl ?_
          refine MF.nmS (fun s15 => ?_)
          refine MF.iconst (v := (nI 2)) C e_X3_fewestStaged_98 rfl ?_
          exact MF.iret C e_X3_fewestStaged_99
    · refine MF.iconst (v := (nI 1)) C e_X3_fewestStaged_36 rfl ?_
      exact MF.iret C e_X3_fewestStaged_37
  · refine MF.iconst (v := (nI 0)) C e_X3_fewestStaged_14 rfl ?_
    exact MF.iret C e_X3_fewestStaged_15
theorem e_X3_hourStaged_0 : Dc cX3_hourStaged 0 (.iload_n 1) 1 1 := ⟨by decide +kernel, rfl⟩
theorem e_X3_hourStaged_1 : Dc cX3_hourStaged 1 (.ifCond .ne 10) 3 4 := ⟨by decide +kernel, rfl⟩
theorem e_X3_hourStaged_4 : Dc cX3_hourStaged 4 (.aload_n 0) 1 5 := ⟨by decide +kernel, rfl⟩
theorem e_X3_hourStaged_5 : Dc cX3_hourStaged 5 (.getfield 18) 3 8 := ⟨by decide +kernel, rfl⟩
theorem e_X3_hourStaged_8 : Dc cX3_hourStaged 8 (.goto 7) 3 11 := ⟨by decide +kernel, rfl⟩
theorem e_X3_hourStaged_11 : Dc cX3_hourStaged 11 (.aload_n 0) 1 12 := ⟨by decide +kernel, rfl⟩
theorem e_X3_hourStaged_12 : Dc cX3_hourStaged 12 (.getfield 22) 3 15 := ⟨by decide +kernel, rfl⟩
theorem e_X3_hourStaged_15 : Dc cX3_hourStaged 15 (.ireturn) 1 16 := ⟨by decide +kernel, rfl⟩
set_option maxHeartbeats 4000000 in
set_option maxRecDepth 20000 in
theorem R_X3_hourStaged (hD : DD E) (x1 : Int32) (s : Sg) : ∀ v, (f_X3_hourStaged x1 s) = some v → RI l E 0 M_X3_hourStaged [.ref (ead E 63), .int x1] s v s := by
  refine ofP hD (by decide +kernel) (Nat.le_of_ble_eq_true rfl) (fun X C => ?_)
  show MF l E X (fun q : Int32 => QI E X q s) (f_X3_hourStaged x1 s) s 0 [(0, .ref (ead E 63)), (1, .int x1)] []
  unfold f_X3_hourStaged
  refine MF.iload_n C e_X3_hourStaged_0 1 rfl rfl ?_
  refine MF.if_ne (tgt := 11) C e_X3_hourStaged_1 (by decide) (fun _ => ?_) (fun _ => ?_)
  · refine MF.aload_n C e_X3_hourStaged_11 0 rfl rfl ?_
    refine MF.get C cf_X3 l_X3_22 e_X3_hourStaged_12 kF_63_4 ?_
    exact MF.iretp C e_X3_hourStaged_15
  · refine MF.aload_n C e_X3_hourStaged_4 0 rfl rfl ?_
    refine MF.get C cf_X3 l_X3_18 e_X3_hourStaged_5 kF_63_3 ?_
    refine MF.goto (tgt := 15) C e_X3_hourStaged_8 (by decide) ?_
    exact MF.iretp C e_X3_hourStaged_15
theorem e_X3_fewestForbidden_0 : Dc cX3_fewestForbidden 0 (.iconst 1) 1 1 := ⟨by decide +kernel, rfl⟩
theorem e_X3_fewestForbidden_1 : Dc cX3_fewestForbidden 1 (.aload_n 2) 1 2 := ⟨by decide +kernel, rfl⟩
theorem e_X3_fewestForbidden_2 : Dc cX3_fewestForbidden 2 (.getfield 49) 3 5 := ⟨by decide +kernel, rfl⟩
theorem e_X3_fewestForbidden_5 : Dc cX3_fewestForbidden 5 (.invokevirtual 55) 3 8 := ⟨by decide +kernel, rfl⟩
theorem e_X3_fewestForbidden_8 : Dc cX3_fewestForbidden 8 (.ishl) 1 9 := ⟨by decide +kernel, rfl⟩
theorem e_X3_fewestForbidden_9 : Dc cX3_fewestForbidden 9 (.iconst 1) 1 10 := ⟨by decide +kernel, rfl⟩
theorem e_X3_fewestForbidden_10 : Dc cX3_fewestForbidden 10 (.isub) 1 11 := ⟨by decide +kernel, rfl⟩
theorem e_X3_fewestForbidden_11 : Dc cX3_fewestForbidden 11 (.istore_n 3) 1 12 := ⟨by decide +kernel, rfl⟩
theorem e_X3_fewestForbidden_12 : Dc cX3_fewestForbidden 12 (.iconst (-1)) 1 13 := ⟨by decide +kernel, rfl⟩
theorem e_X3_fewestForbidden_13 : Dc cX3_fewestForbidden 13 (.istore 4) 2 15 := ⟨by decide +kernel, rfl⟩
theorem e_X3_fewestForbidden_15 : Dc cX3_fewestForbidden 15 (.iconst 0) 1 16 := ⟨by decide +kernel, rfl⟩
theorem e_X3_fewestForbidden_16 : Dc cX3_fewestForbidden 16 (.istore 5) 2 18 := ⟨by decide +kernel, rfl⟩
theorem e_X3_fewestForbidden_18 : Dc cX3_fewestForbidden 18 (.iload 5) 2 20 := ⟨by decide +kernel, rfl⟩
theorem e_X3_fewestForbidden_20 : Dc cX3_fewestForbidden 20 (.iload_n 3) 1 21 := ⟨by decide +kernel, rfl⟩
theorem e_X3_fewestForbidden_21 : Dc cX3_fewestForbidden 21 (.if_icmp .gt 69) 3 24 := ⟨by decide +kernel, rfl⟩
theorem e_X3_fewestForbidden_24 : Dc cX3_fewestForbidden 24 (.iload 4) 2 26 := ⟨by decide +kernel, rfl⟩
theorem e_X3_fewestForbidden_26 : Dc cX3_fewestForbidden 26 (.iconst (-1)) 1 27 := ⟨by decide +kernel, rfl⟩
theorem e_X3_fewestForbidden_27 : Dc cX3_fewestForbidden 27 (.if_icmp .eq 16) 3 30 := ⟨by decide +kernel, rfl⟩
theorem e_X3_fewestForbidden_30 : Dc cX3_fewestForbidden 30 (.iload 5) 2 32 := ⟨by decide +kernel, rfl⟩
theorem e_X3_fewestForbidden_32 : Dc cX3_fewestForbidden 32 (.invokestatic 61) 3 35 := ⟨by decide +kernel, rfl⟩
theorem e_X3_fewestForbidden_35 : Dc cX3_fewestForbidden 35 (.iload 4) 2 37 := ⟨by decide +kernel, rfl⟩
theorem e_X3_fewestForbidden_37 : Dc cX3_fewestForbidden 37 (.invokestatic 61) 3 40 := ⟨by decide +kernel, rfl⟩
theorem e_X3_fewestForbidden_40 : Dc cX3_fewestForbidden 40 (.if_icmp .ge 7) 3 43 := ⟨by decide +kernel, rfl⟩
theorem e_X3_fewestForbidden_43 : Dc cX3_fewestForbidden 43 (.iconst 1) 1 44 := ⟨by decide +kernel, rfl⟩
theorem e_X3_fewestForbidden_44 : Dc cX3_fewestForbidden 44 (.goto 4) 3 47 := ⟨by decide +kernel, rfl⟩
theorem e_X3_fewestForbidden_47 : Dc cX3_fewestForbidden 47 (.iconst 0) 1 48 := ⟨by decide +kernel, rfl⟩
theorem e_X3_fewestForbidden_48 : Dc cX3_fewestForbidden 48 (.istore 6) 2 50 := ⟨by decide +kernel, rfl⟩
theorem e_X3_fewestForbidden_50 : Dc cX3_fewestForbidden 50 (.iload 6) 2 52 := ⟨by decide +kernel, rfl⟩
theorem e_X3_fewestForbidden_52 : Dc cX3_fewestForbidden 52 (.ifCond .eq 32) 3 55 := ⟨by decide +kernel, rfl⟩
theorem e_X3_fewestForbidden_55 : Dc cX3_fewestForbidden 55 (.aload_n 0) 1 56 := ⟨by decide +kernel, rfl⟩
theorem e_X3_fewestForbidden_56 : Dc cX3_fewestForbidden 56 (.getfield 28) 3 59 := ⟨by decide +kernel, rfl⟩
theorem e_X3_fewestForbidden_59 : Dc cX3_fewestForbidden 59 (.iload_n 1) 1 60 := ⟨by decide +kernel, rfl⟩
theorem e_X3_fewestForbidden_60 : Dc cX3_fewestForbidden 60 (.bipush 23) 2 62 := ⟨by decide +kernel, rfl⟩
theorem e_X3_fewestForbidden_62 : Dc cX3_fewestForbidden 62 (.iload 5) 2 64 := ⟨by decide +kernel, rfl⟩
theorem e_X3_fewestForbidden_64 : Dc cX3_fewestForbidden 64 (.iconst (-1)) 1 65 := ⟨by decide +kernel, rfl⟩
theorem e_X3_fewestForbidden_65 : Dc cX3_fewestForbidden 65 (.ixor) 1 66 := ⟨by decide +kernel, rfl⟩
theorem e_X3_fewestForbidden_66 : Dc cX3_fewestForbidden 66 (.invokevirtual 34) 3 69 := ⟨by decide +kernel, rfl⟩
theorem e_X3_fewestForbidden_69 : Dc cX3_fewestForbidden 69 (.aload_n 0) 1 70 := ⟨by decide +kernel, rfl⟩
theorem e_X3_fewestForbidden_70 : Dc cX3_fewestForbidden 70 (.getfield 28) 3 73 := ⟨by decide +kernel, rfl⟩
theorem e_X3_fewestForbidden_73 : Dc cX3_fewestForbidden 73 (.iload_n 1) 1 74 := ⟨by decide +kernel, rfl⟩
theorem e_X3_fewestForbidden_74 : Dc cX3_fewestForbidden 74 (.invokevirtual 67) 3 77 := ⟨by decide +kernel, rfl⟩
theorem e_X3_fewestForbidden_77 : Dc cX3_fewestForbidden 77 (.if_icmp .ne 7) 3 80 := ⟨by decide +kernel, rfl⟩
theorem e_X3_fewestForbidden_80 : Dc cX3_fewestForbidden 80 (.iload 5) 2 82 := ⟨by decide +kernel, rfl⟩
theorem e_X3_fewestForbidden_82 : Dc cX3_fewestForbidden 82 (.istore 4) 2 84 := ⟨by decide +kernel, rfl⟩
theorem e_X3_fewestForbidden_84 : Dc cX3_fewestForbidden 84 (.iinc 5 1) 3 87 := ⟨by decide +kernel, rfl⟩
theorem e_X3_fewestForbidden_87 : Dc cX3_fewestForbidden 87 (.goto (-69)) 3 90 := ⟨by decide +kernel, rfl⟩
theorem e_X3_fewestForbidden_90 : Dc cX3_fewestForbidden 90 (.iload 4) 2 92 := ⟨by decide +kernel, rfl⟩
theorem e_X3_fewestForbidden_92 : Dc cX3_fewestForbidden 92 (.ireturn) 1 93 := ⟨by decide +kernel, rfl⟩
set_option maxHeartbeats 4000000 in
set_option maxRecDepth 20000 in
theorem R_X3_fewestForbidden (hD : DD E) (x1 : Int32) (t2 : Nat) (ht2 : iTo t2) (s : Sg) : ∀ v τ, (f_X3_fewestForbidden x1 t2 s) = some (v, τ) → RI l E 4 M_X3_fewestForbidden [.ref (ead E 63), .int x1, .ref (ead E t2)] s v τ := by
  refine ofI hD (by decide +kernel) (Nat.le_of_ble_eq_true rfl) (fun X C => ?_)
  show MF l E X (fun q : Int32 × Sg => QI E X q.1 q.2) (f_X3_fewestForbidden x1 t2 s) s 0 [(0, .ref (ead E 63)), (1, .int x1), (2, .ref (ead E t2))] []
  unfold f_X3_fewestForbidden
  refine MF.iconst (v := (nI 1)) C e_X3_fewestForbidden_0 rfl ?_
  refine MF.aload_n C e_X3_fewestForbidden_1 2 rfl rfl ?_
  refine MF.getRN (j := (t2 + 3)) C cf_X5 l_X3_49 e_X3_fewestForbidden_2 (iTo.f1 ht2) ?_
  refine MF.callVP (As := []) C (R_X2_size hD (t2 + 3) (iTo.o1 ht2) s) m_X2_size k_X3_55 (iRo.o (iTo.o1 ht2)) rfl (by decide) e_X3_fewestForbidden_5 rfl rfl (Nat.le_of_ble_eq_true rfl) (fun v1 => ?_)
  refine MF.ishl C e_X3_fewestForbidden_8 ?_
  refine MF.iconst (v := (nI 1)) C e_X3_fewestForbidden_9 rfl ?_
  refine MF.isub C e_X3_fewestForbidden_10 ?_
  refine MF.nmI (fun v2 => ?_)
  refine MF.istore_n (lv' := [(0, .ref (ead E 63)), (1, .int x1), (2, .ref (ead E t2)), (3, .int v2)]) C e_X3_fewestForbidden_11 (by decide) rfl ?_
  refine MF.iconst (v := (-1 : Int32)) C e_X3_fewestForbidden_12 rfl ?_
  refine MF.istore (lv' := [(0, .ref (ead E 63)), (1, .int x1), (2, .ref (ead E t2)), (3, .int v2), (4, .int (-1 : Int32))]) C e_X3_fewestForbidden_13 (by decide) rfl ?_
  refine MF.iconst (v := (nI 0)) C e_X3_fewestForbidden_15 rfl ?_
  refine MF.istore (lv' := [(0, .ref (ead E 63)), (1, .int x1), (2, .ref (ead E t2)), (3, .int v2), (4, .int (-1 : Int32)), (5, .int (nI 0))]) C e_X3_fewestForbidden_16 (by decide) rfl ?_
  refine MF.sub [0, 1, 3, 4, 5] rfl ?_
  refine MF.loop3 (fun i3 i4 s5 => s5) (fun i3 i4 s5 => [(0, .ref (ead E 63)), (1, .int x1), (3, .int v2), (4, .int i3), (5, .int i4)]) (fun self6 hself6 i3 i4 s5 => ?_) fu (-1 : Int32) (nI 0) s
  unfold b_X3_fewestForbidden_18
  refine MF.iload C e_X3_fewestForbidden_18 4 rfl ?_
  refine MF.iload_n C e_X3_fewestForbidden_20 2 rfl rfl ?_
  refine MF.icmp_gt (tgt := 90) C e_X3_fewestForbidden_21 (by decide) (fun _ => ?_) (fun _ => ?_)
  · refine MF.iload C e_X3_fewestForbidden_90 3 rfl ?_
    exact MF.iret C e_X3_fewestForbidden_92
  · refine MF.iload C e_X3_fewestForbidden_24 3 rfl ?_
    refine MF.iconst (v := (-1 : Int32)) C e_X3_fewestForbidden_26 rfl ?_
    refine MF.join (fun j : Int32 → Option (Int32 × Sg) => ∀ (a7 : Int32), MF l E X (fun q : Int32 × Sg => QI E X q.1 q.2) (j a7) s5 48 [(0, .ref (ead E 63)), (1, .int x1), (3, .int v2), (4, .int i3), (5, .int i4)] [.int a7]) ?_ (fun j8 hj8 => ?_)
    · intro a7
      refine MF.istore (lv' := [(0, .ref (ead E 63)), (1, .int x1), (3, .int v2), (4, .int i3), (5, .int i4), (6, .int a7)]) C e_X3_fewestForbidden_48 (by decide) rfl ?_
      refine MF.iload C e_X3_fewestForbidden_50 5 rfl ?_
      refine MF.join (fun j : Int32 → Sg → Option (Int32 × Sg) => ∀ (a9 : Int32) (s10 : Sg), MF l E X (fun q : Int32 × Sg => QI E X q.1 q.2) (j a9 s10) s10 84 [(0, .ref (ead E 63)), (1, .int x1), (3, .int v2), (4, .int a9), (5, .int i4)] []) ?_ (fun j11 hj11 => ?_)
      · intro a9 s10
        refine MF.iinc (v := (nI 1)) (lv' := [(0, .ref (ead E 63)), (1, .int x1), (3, .int v2), (4, .int a9), (5, .int (i4 + (nI 1)))]) C e_X3_fewestForbidden_84 4 rfl rfl (by decide) rfl ?_
        refine MF.goto (tgt := 18) C e_X3_fewestForbidden_87 (by decide) ?_
        exact hself6 a9 (i4 + (nI 1)) s10
      refine MF.if_eq (tgt := 84) C e_X3_fewestForbidden_52 (by decide) (fun _ => ?_) (fun _ => ?_)
      · refine MF.sub [0, 1, 2, 3, 4] rfl ?_
        exact hj11 i3 s5
      · refine MF.aload_n C e_X3_fewestForbidden_55 0 rfl rfl ?_
        refine MF.getR (j := 52) C cf_X3 l_X3_28 e_X3_fewestForbidden_56 kF_63_0 ?_
        refine MF.iload_n C e_X3_fewestForbidden_59 1 rfl rfl ?_
        refine MF.bipush (v := (nI 23)) C e_X3_fewestForbidden_60 (by decide) ?_
        refine MF.iload C e_X3_fewestForbidden_62 4 rfl ?_
        refine MF.iconst (v := (-1 : Int32)) C e_X3_fewestForbidden_64 rfl ?_
        refine MF.ixor C e_X3_fewestForbidden_65 ?_
        refine MF.callVI (As := [.int x1, .int (nI 23), .int (i4 ^^^ (-1 : Int32))]) C (R_X0_wordIn hD x1 (nI 23) (i4 ^^^ (-1 : Int32)) s5) m_X0_wordIn k_X3_34 kO_52 rfl (by decide) e_X3_fewestForbidden_66 rfl rfl (Nat.le_of_ble_eq_true rfl) (fun v12 s13 => ?_)
        refine MF.aload_n C e_X3_fewestForbidden_69 0 rfl rfl ?_
        refine MF.getR (j := 52) C cf_X3 l_X3_28 e_X3_fewestForbidden_70 kF_63_0 ?_
        refine MF.iload_n C e_X3_fewestForbidden_73 1 rfl rfl ?_
        refine MF.callVP (As := [.int x1]) C (R_X0_firstWordOf hD x1 s13) m_X0_firstWordOf k_X3_67 kO_52 rfl (by decide) e_X3_fewestForbidden_74 rfl rfl (Nat.le_of_ble_eq_true rfl) (fun v14 => ?_)
        refine MF.icmp_ne (tgt := 84) C e_X3_fewestForbidden_77 (by decide) (fun _ => ?_) (fun _ => ?_)
        · refine MF.sub [0, 1, 2, 3, 4] rfl ?_
          exact hj11 i3 s13
        · refine MF.iload C e_X3_fewestForbidden_80 4 rfl ?_
          refine MF.istore (lv' := [(0, .ref (ead E 63)), (1, .int x1), (3, .int v2), (4, .int i4), (5, .int i4), (6, .int a7)]) C e_X3_fewestForbidden_82 (by decide) rfl ?_
          refine MF.sub [0, 1, 2, 3, 4] rfl ?_
          exact hj11 i4 s13
    refine MF.join (fun j : Unit → Option (Int32 × Sg) => ∀ (_u : Unit), MF l E X (fun q : Int32 × Sg => QI E X q.1 q.2) (j _u) s5 43 [(0, .ref (ead E 63)), (1, .int x1), (3, .int v2), (4, .int i3), (5, .int i4)] []) ?_ (fun j15 hj15 => ?_)
    · intro _
      refine MF.iconst (v := (nI 1)) C e_X3_fewestForbidden_43 rfl ?_
      refine MF.goto (tgt := 48) C e_X3_fewestForbidden_44 (by decide) ?_
      exact hj8 (nI 1)
    refine MF.icmp_eq (tgt := 43) C e_X3_fewestForbidden_27 (by decide) (fun _ => ?_) (fun _ => ?_)
    · exact hj15 ()
    · refine MF.iload C e_X3_fewestForbidden_30 4 rfl ?_
      refine MF.callSP (As := [.int i4]) C (R_J6_bitCount_0f7a4 hD i4 s5) m_J6_bitCount_0f7a4 k_X3_61 (by decide) e_X3_fewestForbidden_32 rfl rfl (Nat.le_of_ble_eq_true rfl) (fun v16 => ?_)
      refine MF.iload C e_X3_fewestForbidden_35 3 rfl ?_
      refine MF.callSP (As := [.int i3]) C (R_J6_bitCount_0f7a4 hD i3 s5) m_J6_bitCount_0f7a4 k_X3_61 (by decide) e_X3_fewestForbidden_37 rfl rfl (Nat.le_of_ble_eq_true rfl) (fun v17 => ?_)
      refine MF.icmp_ge (tgt := 47) C e_X3_fewestForbidden_40 (by decide) (fun _ => ?_) (fun _ => ?_)
      · refine MF.iconst (v := (nI 0)) C e_X3_fewestForbidden_47 rfl ?_
        exact hj8 (nI 0)
      · exact hj15 ()
theorem e_X3_agrees_0 : Dc cX3_agrees 0 (.iconst 0) 1 1 := ⟨by decide +kernel, rfl⟩
theorem e_X3_agrees_1 : Dc cX3_agrees 1 (.istore_n 3) 1 2 := ⟨by decide +kernel, rfl⟩
theorem e_X3_agrees_2 : Dc cX3_agrees 2 (.iload_n 3) 1 3 := ⟨by decide +kernel, rfl⟩
theorem e_X3_agrees_3 : Dc cX3_agrees 3 (.aload_n 2) 1 4 := ⟨by decide +kernel, rfl⟩
theorem e_X3_agrees_4 : Dc cX3_agrees 4 (.invokevirtual 55) 3 7 := ⟨by decide +kernel, rfl⟩
theorem e_X3_agrees_7 : Dc cX3_agrees 7 (.if_icmp .ge 44) 3 10 := ⟨by decide +kernel, rfl⟩
theorem e_X3_agrees_10 : Dc cX3_agrees 10 (.aload_n 0) 1 11 := ⟨by decide +kernel, rfl⟩
theorem e_X3_agrees_11 : Dc cX3_agrees 11 (.getfield 28) 3 14 := ⟨by decide +kernel, rfl⟩
theorem e_X3_agrees_14 : Dc cX3_agrees 14 (.aload_n 2) 1 15 := ⟨by decide +kernel, rfl⟩
theorem e_X3_agrees_15 : Dc cX3_agrees 15 (.iload_n 3) 1 16 := ⟨by decide +kernel, rfl⟩
theorem e_X3_agrees_16 : Dc cX3_agrees 16 (.iconst 0) 1 17 := ⟨by decide +kernel, rfl⟩
theorem e_X3_agrees_17 : Dc cX3_agrees 17 (.invokevirtual 77) 3 20 := ⟨by decide +kernel, rfl⟩
theorem e_X3_agrees_20 : Dc cX3_agrees 20 (.aload_n 2) 1 21 := ⟨by decide +kernel, rfl⟩
theorem e_X3_agrees_21 : Dc cX3_agrees 21 (.iload_n 3) 1 22 := ⟨by decide +kernel, rfl⟩
theorem e_X3_agrees_22 : Dc cX3_agrees 22 (.iconst 1) 1 23 := ⟨by decide +kernel, rfl⟩
theorem e_X3_agrees_23 : Dc cX3_agrees 23 (.invokevirtual 77) 3 26 := ⟨by decide +kernel, rfl⟩
theorem e_X3_agrees_26 : Dc cX3_agrees 26 (.iload_n 1) 1 27 := ⟨by decide +kernel, rfl⟩
theorem e_X3_agrees_27 : Dc cX3_agrees 27 (.invokevirtual 34) 3 30 := ⟨by decide +kernel, rfl⟩
theorem e_X3_agrees_30 : Dc cX3_agrees 30 (.istore 4) 2 32 := ⟨by decide +kernel, rfl⟩
theorem e_X3_agrees_32 : Dc cX3_agrees 32 (.iload 4) 2 34 := ⟨by decide +kernel, rfl⟩
theorem e_X3_agrees_34 : Dc cX3_agrees 34 (.aload_n 2) 1 35 := ⟨by decide +kernel, rfl⟩
theorem e_X3_agrees_35 : Dc cX3_agrees 35 (.iload_n 3) 1 36 := ⟨by decide +kernel, rfl⟩
theorem e_X3_agrees_36 : Dc cX3_agrees 36 (.iconst 2) 1 37 := ⟨by decide +kernel, rfl⟩
theorem e_X3_agrees_37 : Dc cX3_agrees 37 (.invokevirtual 77) 3 40 := ⟨by decide +kernel, rfl⟩
theorem e_X3_agrees_40 : Dc cX3_agrees 40 (.if_icmp .eq 5) 3 43 := ⟨by decide +kernel, rfl⟩
theorem e_X3_agrees_43 : Dc cX3_agrees 43 (.iconst 0) 1 44 := ⟨by decide +kernel, rfl⟩
theorem e_X3_agrees_44 : Dc cX3_agrees 44 (.ireturn) 1 45 := ⟨by decide +kernel, rfl⟩
theorem e_X3_agrees_45 : Dc cX3_agrees 45 (.iinc 3 1) 3 48 := ⟨by decide +kernel, rfl⟩
theorem e_X3_agrees_48 : Dc cX3_agrees 48 (.goto (-46)) 3 51 := ⟨by decide +kernel, rfl⟩
theorem e_X3_agrees_51 : Dc cX3_agrees 51 (.iconst 1) 1 52 := ⟨by decide +kernel, rfl⟩
theorem e_X3_agrees_52 : Dc cX3_agrees 52 (.ireturn) 1 53 := ⟨by decide +kernel, rfl⟩
set_option maxHeartbeats 4000000 in
set_option maxRecDepth 20000 in
theorem R_X3_agrees (hD : DD E) (x1 : Int32) (o2 : Nat) (ho2 : iRo o2) (s : Sg) : ∀ v τ, (f_X3_agrees x1 o2 s) = some (v, τ) → RI l E 4 M_X3_agrees [.ref (ead E 63), .int x1, .ref (ead E o2)] s v τ := by
  refine ofI hD (by decide +kernel) (Nat.le_of_ble_eq_true rfl) (fun X C => ?_)
  show MF l E X (fun q : Int32 × Sg => QI E X q.1 q.2) (f_X3_agrees x1 o2 s) s 0 [(0, .ref (ead E 63)), (1, .int x1), (2, .ref (ead E o2))] []
  unfold f_X3_agrees
  refine MF.iconst (v := (nI 0)) C e_X3_agrees_0 rfl ?_
  refine MF.istore_n (lv' := [(0, .ref (ead E 63)), (1, .int x1), (2, .ref (ead E o2)), (3, .int (nI 0))]) C e_X3_agrees_1 (by decide) rfl ?_
  refine MF.loop2 (fun i1 s2 => s2) (fun i1 s2 => [(0, .ref (ead E 63)), (1, .int x1), (2, .ref (ead E o2)), (3, .int i1)]) (fun self3 hself3 i1 s2 => ?_) fu (nI 0) s
  unfold b_X3_agrees_2
  refine MF.iload_n C e_X3_agrees_2 3 rfl rfl ?_
  refine MF.aload_n C e_X3_agrees_3 2 rfl rfl ?_
  refine MF.callVP (As := []) C (R_X2_size hD o2 ho2 s2) m_X2_size k_X3_55 (iRo.o ho2) rfl (by decide) e_X3_agrees_4 rfl rfl (Nat.le_of_ble_eq_true rfl) (fun v4 => ?_)
  refine MF.icmp_ge (tgt := 51) C e_X3_agrees_7 (by decide) (fun _ => ?_) (fun _ => ?_)
  · refine MF.iconst (v := (nI 1)) C e_X3_agrees_51 rfl ?_
    exact MF.nret C e_X3_agrees_52 rfl
  · refine MF.aload_n C e_X3_agrees_10 0 rfl rfl ?_
    refine MF.getR (j := 52) C cf_X3 l_X3_28 e_X3_agrees_11 kF_63_0 ?_
    refine MF.aload_n C e_X3_agrees_14 2 rfl rfl ?_
    refine MF.iload_n C e_X3_agrees_15 3 rfl rfl ?_
    refine MF.iconst (v := (nI 0)) C e_X3_agrees_16 rfl ?_
    refine MF.callVP (As := [.int i1, .int (nI 0)]) C (R_X2_cell hD o2 i1 (nI 0) ho2 s2) m_X2_cell k_X3_77 (iRo.o ho2) rfl (by decide) e_X3_agrees_17 rfl rfl (Nat.le_of_ble_eq_true rfl) (fun v5 => ?_)
    refine MF.aload_n C e_X3_agrees_20 2 rfl rfl ?_
    refine MF.iload_n C e_X3_agrees_21 3 rfl rfl ?_
    refine MF.iconst (v := (nI 1)) C e_X3_agrees_22 rfl ?_
    refine MF.callVP (As := [.int i1, .int (nI 1)]) C (R_X2_cell hD o2 i1 (nI 1) ho2 s2) m_X2_cell k_X3_77 (iRo.o ho2) rfl (by decide) e_X3_agrees_23 rfl rfl (Nat.le_of_ble_eq_true rfl) (fun v6 => ?_)
    refine MF.iload_n C e_X3_agrees_26 1 rfl rfl ?_
    refine MF.callVI (As := [.int v5, .int v6, .int x1]) C (R_X0_wordIn hD v5 v6 x1 s2) m_X0_wordIn k_X3_34 kO_52 rfl (by decide) e_X3_agrees_27 rfl rfl (Nat.le_of_ble_eq_true rfl) (fun v7 s8 => ?_)
    refine MF.istore (lv' := [(0, .ref (ead E 63)), (1, .int x1), (2, .ref (ead E o2)), (3, .int i1), (4, .int v7)]) C e_X3_agrees_30 (by decide) rfl ?_
    refine MF.iload C e_X3_agrees_32 4 rfl ?_
    refine MF.aload_n C e_X3_agrees_34 2 rfl rfl ?_
    refine MF.iload_n C e_X3_agrees_35 3 rfl rfl ?_
    refine MF.iconst (v := (nI 2)) C e_X3_agrees_36 rfl ?_
    refine MF.callVP (As := [.int i1, .int (nI 2)]) C (R_X2_cell hD o2 i1 (nI 2) ho2 s8) m_X2_cell k_X3_77 (iRo.o ho2) rfl (by decide) e_X3_agrees_37 rfl rfl (Nat.le_of_ble_eq_true rfl) (fun v9 => ?_)
    refine MF.icmp_eq (tgt := 45) C e_X3_agrees_40 (by decide) (fun _ => ?_) (fun _ => ?_)
    · refine MF.iinc (v := (nI 1)) (lv' := [(0, .ref (ead E 63)), (1, .int x1), (2, .ref (ead E o2)), (3, .int (i1 + (nI 1))), (4, .int v7)]) C e_X3_agrees_45 3 rfl rfl (by decide) rfl ?_
      refine MF.goto (tgt := 2) C e_X3_agrees_48 (by decide) ?_
      refine MF.sub [0, 1, 2, 3] rfl ?_
      exact hself3 (i1 + (nI 1)) s8
    · refine MF.iconst (v := (nI 0)) C e_X3_agrees_43 rfl ?_
      exact MF.nret C e_X3_agrees_44 rfl
theorem e_X3_trueSets_0 : Dc cX3_trueSets 0 (.iconst 1) 1 1 := ⟨by decide +kernel, rfl⟩
theorem e_X3_trueSets_1 : Dc cX3_trueSets 1 (.aload_n 1) 1 2 := ⟨by decide +kernel, rfl⟩
theorem e_X3_trueSets_2 : Dc cX3_trueSets 2 (.getfield 49) 3 5 := ⟨by decide +kernel, rfl⟩
theorem e_X3_trueSets_5 : Dc cX3_trueSets 5 (.invokevirtual 55) 3 8 := ⟨by decide +kernel, rfl⟩
theorem e_X3_trueSets_8 : Dc cX3_trueSets 8 (.ishl) 1 9 := ⟨by decide +kernel, rfl⟩
theorem e_X3_trueSets_9 : Dc cX3_trueSets 9 (.iconst 1) 1 10 := ⟨by decide +kernel, rfl⟩
theorem e_X3_trueSets_10 : Dc cX3_trueSets 10 (.isub) 1 11 := ⟨by decide +kernel, rfl⟩
theorem e_X3_trueSets_11 : Dc cX3_trueSets 11 (.istore_n 2) 1 12 := ⟨by decide +kernel, rfl⟩
theorem e_X3_trueSets_12 : Dc cX3_trueSets 12 (.iconst 0) 1 13 := ⟨by decide +kernel, rfl⟩
theorem e_X3_trueSets_13 : Dc cX3_trueSets 13 (.istore_n 3) 1 14 := ⟨by decide +kernel, rfl⟩
theorem e_X3_trueSets_14 : Dc cX3_trueSets 14 (.aload_n 0) 1 15 := ⟨by decide +kernel, rfl⟩
theorem e_X3_trueSets_15 : Dc cX3_trueSets 15 (.iload_n 2) 1 16 := ⟨by decide +kernel, rfl⟩
theorem e_X3_trueSets_16 : Dc cX3_trueSets 16 (.putfield 25) 3 19 := ⟨by decide +kernel, rfl⟩
theorem e_X3_trueSets_19 : Dc cX3_trueSets 19 (.iconst 0) 1 20 := ⟨by decide +kernel, rfl⟩
theorem e_X3_trueSets_20 : Dc cX3_trueSets 20 (.istore 4) 2 22 := ⟨by decide +kernel, rfl⟩
theorem e_X3_trueSets_22 : Dc cX3_trueSets 22 (.iload 4) 2 24 := ⟨by decide +kernel, rfl⟩
theorem e_X3_trueSets_24 : Dc cX3_trueSets 24 (.iload_n 2) 1 25 := ⟨by decide +kernel, rfl⟩
theorem e_X3_trueSets_25 : Dc cX3_trueSets 25 (.if_icmp .gt 36) 3 28 := ⟨by decide +kernel, rfl⟩
theorem e_X3_trueSets_28 : Dc cX3_trueSets 28 (.aload_n 0) 1 29 := ⟨by decide +kernel, rfl⟩
theorem e_X3_trueSets_29 : Dc cX3_trueSets 29 (.iload 4) 2 31 := ⟨by decide +kernel, rfl⟩
theorem e_X3_trueSets_31 : Dc cX3_trueSets 31 (.aload_n 1) 1 32 := ⟨by decide +kernel, rfl⟩
theorem e_X3_trueSets_32 : Dc cX3_trueSets 32 (.getfield 70) 3 35 := ⟨by decide +kernel, rfl⟩
theorem e_X3_trueSets_35 : Dc cX3_trueSets 35 (.invokevirtual 73) 3 38 := ⟨by decide +kernel, rfl⟩
theorem e_X3_trueSets_38 : Dc cX3_trueSets 38 (.ifCond .eq 17) 3 41 := ⟨by decide +kernel, rfl⟩
theorem e_X3_trueSets_41 : Dc cX3_trueSets 41 (.iinc 3 1) 3 44 := ⟨by decide +kernel, rfl⟩
theorem e_X3_trueSets_44 : Dc cX3_trueSets 44 (.aload_n 0) 1 45 := ⟨by decide +kernel, rfl⟩
theorem e_X3_trueSets_45 : Dc cX3_trueSets 45 (.dup) 1 46 := ⟨by decide +kernel, rfl⟩
theorem e_X3_trueSets_46 : Dc cX3_trueSets 46 (.getfield 25) 3 49 := ⟨by decide +kernel, rfl⟩
theorem e_X3_trueSets_49 : Dc cX3_trueSets 49 (.iload 4) 2 51 := ⟨by decide +kernel, rfl⟩
theorem e_X3_trueSets_51 : Dc cX3_trueSets 51 (.iand) 1 52 := ⟨by decide +kernel, rfl⟩
theorem e_X3_trueSets_52 : Dc cX3_trueSets 52 (.putfield 25) 3 55 := ⟨by decide +kernel, rfl⟩
theorem e_X3_trueSets_55 : Dc cX3_trueSets 55 (.iinc 4 1) 3 58 := ⟨by decide +kernel, rfl⟩
theorem e_X3_trueSets_58 : Dc cX3_trueSets 58 (.goto (-36)) 3 61 := ⟨by decide +kernel, rfl⟩
theorem e_X3_trueSets_61 : Dc cX3_trueSets 61 (.iload_n 3) 1 62 := ⟨by decide +kernel, rfl⟩
theorem e_X3_trueSets_62 : Dc cX3_trueSets 62 (.ireturn) 1 63 := ⟨by decide +kernel, rfl⟩
set_option maxHeartbeats 4000000 in
set_option maxRecDepth 20000 in
theorem R_X3_trueSets (hD : DD E) (t1 : Nat) (ht1 : iTo t1) (s : Sg) : ∀ v τ, (f_X3_trueSets t1 s) = some (v, τ) → RI l E 5 M_X3_trueSets [.ref (ead E 63), .ref (ead E t1)] s v τ := by
  refine ofI hD (by decide +kernel) (Nat.le_of_ble_eq_true rfl) (fun X C => ?_)
  show MF l E X (fun q : Int32 × Sg => QI E X q.1 q.2) (f_X3_trueSets t1 s) s 0 [(0, .ref (ead E 63)), (1, .ref (ead E t1))] []
  unfold f_X3_trueSets
  refine MF.iconst (v := (nI 1)) C e_X3_trueSets_0 rfl ?_
  refine MF.aload_n C e_X3_trueSets_1 1 rfl rfl ?_
  refine MF.getRN (j := (t1 + 3)) C cf_X5 l_X3_49 e_X3_trueSets_2 (iTo.f1 ht1) ?_
  refine MF.callVP (As := []) C (R_X2_size hD (t1 + 3) (iTo.o1 ht1) s) m_X2_size k_X3_55 (iRo.o (iTo.o1 ht1)) rfl (by decide) e_X3_trueSets_5 rfl rfl (Nat.le_of_ble_eq_true rfl) (fun v1 => ?_)
  refine MF.ishl C e_X3_trueSets_8 ?_
  refine MF.iconst (v := (nI 1)) C e_X3_trueSets_9 rfl ?_
  refine MF.isub C e_X3_trueSets_10 ?_
  refine MF.nmI (fun v2 => ?_)
  refine MF.istore_n (lv' := [(0, .ref (ead E 63)), (1, .ref (ead E t1)), (2, .int v2)]) C e_X3_trueSets_11 (by decide) rfl ?_
  refine MF.iconst (v := (nI 0)) C e_X3_trueSets_12 rfl ?_
  refine MF.istore_n (lv' := [(0, .ref (ead E 63)), (1, .ref (ead E t1)), (2, .int v2), (3, .int (nI 0))]) C e_X3_trueSets_13 (by decide) rfl ?_
  refine MF.aload_n C e_X3_trueSets_14 0 rfl rfl ?_
  refine MF.iload_n C e_X3_trueSets_15 2 rfl rfl ?_
  refine MF.put C cf_X3 l_X3_25 p_X3_5 e_X3_trueSets_16 kF_63_5 rfl ?_
  refine MF.nmS (fun s3 => ?_)
  refine MF.iconst (v := (nI 0)) C e_X3_trueSets_19 rfl ?_
  refine MF.istore (lv' := [(0, .ref (ead E 63)), (1, .ref (ead E t1)), (2, .int v2), (3, .int (nI 0)), (4, .int (nI 0))]) C e_X3_trueSets_20 (by decide) rfl ?_
  refine MF.loop3 (fun i4 i5 s6 => s6) (fun i4 i5 s6 => [(0, .ref (ead E 63)), (1, .ref (ead E t1)), (2, .int v2), (3, .int i4), (4, .int i5)]) (fun self7 hself7 i4 i5 s6 => ?_) fu (nI 0) (nI 0) s3
  unfold b_X3_trueSets_22
  refine MF.iload C e_X3_trueSets_22 4 rfl ?_
  refine MF.iload_n C e_X3_trueSets_24 2 rfl rfl ?_
  refine MF.icmp_gt (tgt := 61) C e_X3_trueSets_25 (by decide) (fun _ => ?_) (fun _ => ?_)
  · refine MF.iload_n C e_X3_trueSets_61 3 rfl rfl ?_
    exact MF.iret C e_X3_trueSets_62
  · refine MF.aload_n C e_X3_trueSets_28 0 rfl rfl ?_
    refine MF.iload C e_X3_trueSets_29 4 rfl ?_
    refine MF.aload_n C e_X3_trueSets_31 1 rfl rfl ?_
    refine MF.getRN (j := (t1 + 5)) C cf_X5 l_X3_70 e_X3_trueSets_32 (iTo.f2 ht1) ?_
    refine MF.callVI (As := [.int i5, .ref (ead E (t1 + 5))]) C (R_X3_agrees hD i5 (t1 + 5) (iTo.o2 ht1) s6) m_X3_agrees k_X3_73 kO_63 rfl (by decide) e_X3_trueSets_35 rfl rfl (Nat.le_of_ble_eq_true rfl) (fun v8 s9 => ?_)
    refine MF.join (fun j : Int32 → Sg → Option (Int32 × Sg) => ∀ (a10 : Int32) (s11 : Sg), MF l E X (fun q : Int32 × Sg => QI E X q.1 q.2) (j a10 s11) s11 55 [(0, .ref (ead E 63)), (1, .ref (ead E t1)), (2, .int v2), (3, .int a10), (4, .int i5)] []) ?_ (fun j12 hj12 => ?_)
    · intro a10 s11
      refine MF.iinc (v := (nI 1)) (lv' := [(0, .ref (ead E 63)), (1, .ref (ead E t1)), (2, .int v2), (3, .int a10), (4, .int (i5 + (nI 1)))]) C e_X3_trueSets_55 4 rfl rfl (by decide) rfl ?_
      refine MF.goto (tgt := 22) C e_X3_trueSets_58 (by decide) ?_
      exact hself7 a10 (i5 + (nI 1)) s11
    refine MF.if_eq (tgt := 55) C e_X3_trueSets_38 (by decide) (fun _ => ?_) (fun _ => ?_)
    · exact hj12 i4 s9
    · refine MF.iinc (v := (nI 1)) (lv' := [(0, .ref (ead E 63)), (1, .ref (ead E t1)), (2, .int v2), (3, .int (i4 + (nI 1))), (4, .int i5)]) C e_X3_trueSets_41 3 rfl rfl (by decide) rfl ?_
      refine MF.aload_n C e_X3_trueSets_44 0 rfl rfl ?_
      refine MF.dup C e_X3_trueSets_45 rfl ?_
      refine MF.get C cf_X3 l_X3_25 e_X3_trueSets_46 kF_63_5 ?_
      refine MF.iload C e_X3_trueSets_49 4 rfl ?_
      refine MF.iand C e_X3_trueSets_51 ?_
      refine MF.put C cf_X3 l_X3_25 p_X3_5 e_X3_trueSets_52 kF_63_5 rfl ?_
      refine MF.nmS (fun s13 => ?_)
      exact hj12 (i4 + (nI 1)) s13
theorem e_X3_inAllTrueSets_0 : Dc cX3_inAllTrueSets 0 (.aload_n 0) 1 1 := ⟨by decide +kernel, rfl⟩
theorem e_X3_inAllTrueSets_1 : Dc cX3_inAllTrueSets 1 (.getfield 25) 3 4 := ⟨by decide +kernel, rfl⟩
theorem e_X3_inAllTrueSets_4 : Dc cX3_inAllTrueSets 4 (.ireturn) 1 5 := ⟨by decide +kernel, rfl⟩
set_option maxHeartbeats 4000000 in
set_option maxRecDepth 20000 in
theorem R_X3_inAllTrueSets (hD : DD E) (s : Sg) : ∀ v, (f_X3_inAllTrueSets s) = some v → RI l E 0 M_X3_inAllTrueSets [.ref (ead E 63)] s v s := by
  refine ofP hD (by decide +kernel) (Nat.le_of_ble_eq_true rfl) (fun X C => ?_)
  show MF l E X (fun q : Int32 => QI E X q s) (f_X3_inAllTrueSets s) s 0 [(0, .ref (ead E 63))] []
  unfold f_X3_inAllTrueSets
  refine MF.aload_n C e_X3_inAllTrueSets_0 0 rfl rfl ?_
  refine MF.get C cf_X3 l_X3_25 e_X3_inAllTrueSets_1 kF_63_5 ?_
  exact MF.iretp C e_X3_inAllTrueSets_4
theorem e_X5_dearestWord_0 : Dc cX5_dearestWord 0 (.iconst 0) 1 1 := ⟨by decide +kernel, rfl⟩
theorem e_X5_dearestWord_1 : Dc cX5_dearestWord 1 (.istore_n 1) 1 2 := ⟨by decide +kernel, rfl⟩
theorem e_X5_dearestWord_2 : Dc cX5_dearestWord 2 (.iconst 1) 1 3 := ⟨by decide +kernel, rfl⟩
theorem e_X5_dearestWord_3 : Dc cX5_dearestWord 3 (.istore_n 2) 1 4 := ⟨by decide +kernel, rfl⟩
theorem e_X5_dearestWord_4 : Dc cX5_dearestWord 4 (.iload_n 2) 1 5 := ⟨by decide +kernel, rfl⟩
theorem e_X5_dearestWord_5 : Dc cX5_dearestWord 5 (.bipush 16) 2 7 := ⟨by decide +kernel, rfl⟩
theorem e_X5_dearestWord_7 : Dc cX5_dearestWord 7 (.if_icmp .ge 26) 3 10 := ⟨by decide +kernel, rfl⟩
theorem e_X5_dearestWord_10 : Dc cX5_dearestWord 10 (.aload_n 0) 1 11 := ⟨by decide +kernel, rfl⟩
theorem e_X5_dearestWord_11 : Dc cX5_dearestWord 11 (.getfield 29) 3 14 := ⟨by decide +kernel, rfl⟩
theorem e_X5_dearestWord_14 : Dc cX5_dearestWord 14 (.iload_n 2) 1 15 := ⟨by decide +kernel, rfl⟩
theorem e_X5_dearestWord_15 : Dc cX5_dearestWord 15 (.iaload) 1 16 := ⟨by decide +kernel, rfl⟩
theorem e_X5_dearestWord_16 : Dc cX5_dearestWord 16 (.aload_n 0) 1 17 := ⟨by decide +kernel, rfl⟩
theorem e_X5_dearestWord_17 : Dc cX5_dearestWord 17 (.getfield 29) 3 20 := ⟨by decide +kernel, rfl⟩
theorem e_X5_dearestWord_20 : Dc cX5_dearestWord 20 (.iload_n 1) 1 21 := ⟨by decide +kernel, rfl⟩
theorem e_X5_dearestWord_21 : Dc cX5_dearestWord 21 (.iaload) 1 22 := ⟨by decide +kernel, rfl⟩
theorem e_X5_dearestWord_22 : Dc cX5_dearestWord 22 (.if_icmp .le 5) 3 25 := ⟨by decide +kernel, rfl⟩
theorem e_X5_dearestWord_25 : Dc cX5_dearestWord 25 (.iload_n 2) 1 26 := ⟨by decide +kernel, rfl⟩
theorem e_X5_dearestWord_26 : Dc cX5_dearestWord 26 (.istore_n 1) 1 27 := ⟨by decide +kernel, rfl⟩
theorem e_X5_dearestWord_27 : Dc cX5_dearestWord 27 (.iinc 2 1) 3 30 := ⟨by decide +kernel, rfl⟩
theorem e_X5_dearestWord_30 : Dc cX5_dearestWord 30 (.goto (-26)) 3 33 := ⟨by decide +kernel, rfl⟩
theorem e_X5_dearestWord_33 : Dc cX5_dearestWord 33 (.iload_n 1) 1 34 := ⟨by decide +kernel, rfl⟩
theorem e_X5_dearestWord_34 : Dc cX5_dearestWord 34 (.ireturn) 1 35 := ⟨by decide +kernel, rfl⟩
set_option maxHeartbeats 4000000 in
set_option maxRecDepth 20000 in
theorem R_X5_dearestWord (hD : DD E) (t : Nat) (ht : iTo t) (s : Sg) : ∀ v, (f_X5_dearestWord t s) = some v → RI l E 0 M_X5_dearestWord [.ref (ead E t)] s v s := by
  refine ofP hD (by decide +kernel) (Nat.le_of_ble_eq_true rfl) (fun X C => ?_)
  show MF l E X (fun q : Int32 => QI E X q s) (f_X5_dearestWord t s) s 0 [(0, .ref (ead E t))] []
  unfold f_X5_dearestWord
  refine MF.iconst (v := (nI 0)) C e_X5_dearestWord_0 rfl ?_
  refine MF.istore_n (lv' := [(0, .ref (ead E t)), (1, .int (nI 0))]) C e_X5_dearestWord_1 (by decide) rfl ?_
  refine MF.iconst (v := (nI 1)) C e_X5_dearestWord_2 rfl ?_
  refine MF.istore_n (lv' := [(0, .ref (ead E t)), (1, .int (nI 0)), (2, .int (nI 1))]) C e_X5_dearestWord_3 (by decide) rfl ?_
  refine MF.loop2 (fun i1 i2 => s) (fun i1 i2 => [(0, .ref (ead E t)), (1, .int i1), (2, .int i2)]) (fun self3 hself3 i1 i2 => ?_) fu (nI 0) (nI 1)
  unfold b_X5_dearestWord_4
  refine MF.iload_n C e_X5_dearestWord_4 2 rfl rfl ?_
  refine MF.bipush (v := (nI 16)) C e_X5_dearestWord_5 (by decide) ?_
  refine MF.icmp_ge (tgt := 33) C e_X5_dearestWord_7 (by decide) (fun _ => ?_) (fun _ => ?_)
  · refine MF.iload_n C e_X5_dearestWord_33 1 rfl rfl ?_
    exact MF.iretp C e_X5_dearestWord_34
  · refine MF.aload_n C e_X5_dearestWord_10 0 rfl rfl ?_
    refine MF.getR (j := (t + 9)) C cf_X5 l_X5_29 e_X5_dearestWord_11 (iTo.f4 ht) ?_
    refine MF.iload_n C e_X5_dearestWord_14 2 rfl rfl ?_
    refine MF.iald C e_X5_dearestWord_15 (iTo.o4 ht) (fun v4 => ?_)
    refine MF.aload_n C e_X5_dearestWord_16 0 rfl rfl ?_
    refine MF.getR (j := (t + 9)) C cf_X5 l_X5_29 e_X5_dearestWord_17 (iTo.f4 ht) ?_
    refine MF.iload_n C e_X5_dearestWord_20 1 rfl rfl ?_
    refine MF.iald C e_X5_dearestWord_21 (iTo.o4 ht) (fun v5 => ?_)
    refine MF.join (fun j : Int32 → Option Int32 => ∀ (a6 : Int32), MF l E X (fun q : Int32 => QI E X q s) (j a6) s 27 [(0, .ref (ead E t)), (1, .int a6), (2, .int i2)] []) ?_ (fun j7 hj7 => ?_)
    · intro a6
      refine MF.iinc (v := (nI 1)) (lv' := [(0, .ref (ead E t)), (1, .int a6), (2, .int (i2 + (nI 1)))]) C e_X5_dearestWord_27 2 rfl rfl (by decide) rfl ?_
      refine MF.goto (tgt := 4) C e_X5_dearestWord_30 (by decide) ?_
      exact hself3 a6 (i2 + (nI 1))
    refine MF.icmp_le (tgt := 27) C e_X5_dearestWord_22 (by decide) (fun _ => ?_) (fun _ => ?_)
    · exact hj7 i1
    · refine MF.iload_n C e_X5_dearestWord_25 2 rfl rfl ?_
      refine MF.istore_n (lv' := [(0, .ref (ead E t)), (1, .int i2), (2, .int i2)]) C e_X5_dearestWord_26 (by decide) rfl ?_
      exact hj7 i2
end WK
