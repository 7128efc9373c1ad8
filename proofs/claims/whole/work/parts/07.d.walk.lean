section WK
variable {l : Launch} {E : EX}
theorem e_X5_changeRent_0 : Dc cX5_changeRent 0 (.iload_n 1) 1 1 := ⟨by decide +kernel, rfl⟩
theorem e_X5_changeRent_1 : Dc cX5_changeRent 1 (.bipush 16) 2 3 := ⟨by decide +kernel, rfl⟩
theorem e_X5_changeRent_3 : Dc cX5_changeRent 3 (.invokestatic 46) 3 6 := ⟨by decide +kernel, rfl⟩
theorem e_X5_changeRent_6 : Dc cX5_changeRent 6 (.ifCond .ne 5) 3 9 := ⟨by decide +kernel, rfl⟩
theorem e_X5_changeRent_9 : Dc cX5_changeRent 9 (.iconst 0) 1 10 := ⟨by decide +kernel, rfl⟩
theorem e_X5_changeRent_10 : Dc cX5_changeRent 10 (.ireturn) 1 11 := ⟨by decide +kernel, rfl⟩
theorem e_X5_changeRent_11 : Dc cX5_changeRent 11 (.aload_n 0) 1 12 := ⟨by decide +kernel, rfl⟩
theorem e_X5_changeRent_12 : Dc cX5_changeRent 12 (.getfield 29) 3 15 := ⟨by decide +kernel, rfl⟩
theorem e_X5_changeRent_15 : Dc cX5_changeRent 15 (.iload_n 1) 1 16 := ⟨by decide +kernel, rfl⟩
theorem e_X5_changeRent_16 : Dc cX5_changeRent 16 (.iaload) 1 17 := ⟨by decide +kernel, rfl⟩
theorem e_X5_changeRent_17 : Dc cX5_changeRent 17 (.istore_n 3) 1 18 := ⟨by decide +kernel, rfl⟩
theorem e_X5_changeRent_18 : Dc cX5_changeRent 18 (.aload_n 0) 1 19 := ⟨by decide +kernel, rfl⟩
theorem e_X5_changeRent_19 : Dc cX5_changeRent 19 (.getfield 29) 3 22 := ⟨by decide +kernel, rfl⟩
theorem e_X5_changeRent_22 : Dc cX5_changeRent 22 (.iload_n 1) 1 23 := ⟨by decide +kernel, rfl⟩
theorem e_X5_changeRent_23 : Dc cX5_changeRent 23 (.iload_n 2) 1 24 := ⟨by decide +kernel, rfl⟩
theorem e_X5_changeRent_24 : Dc cX5_changeRent 24 (.iastore) 1 25 := ⟨by decide +kernel, rfl⟩
theorem e_X5_changeRent_25 : Dc cX5_changeRent 25 (.iload_n 3) 1 26 := ⟨by decide +kernel, rfl⟩
theorem e_X5_changeRent_26 : Dc cX5_changeRent 26 (.ireturn) 1 27 := ⟨by decide +kernel, rfl⟩
set_option maxHeartbeats 4000000 in
set_option maxRecDepth 20000 in
theorem R_X5_changeRent (hD : DD E) (t : Nat) (x1 : Int32) (x2 : Int32) (ht : iTo t) (s : Sg) : ∀ v τ, (f_X5_changeRent t x1 x2 s) = some (v, τ) → RI l E 1 M_X5_changeRent [.ref (ead E t), .int x1, .int x2] s v τ := by
  refine ofI hD (by decide +kernel) (Nat.le_of_ble_eq_true rfl) (fun X C => ?_)
  show MF l E X (fun q : Int32 × Sg => QI E X q.1 q.2) (f_X5_changeRent t x1 x2 s) s 0 [(0, .ref (ead E t)), (1, .int x1), (2, .int x2)] []
  unfold f_X5_changeRent
  refine MF.iload_n C e_X5_changeRent_0 1 rfl rfl ?_
  refine MF.bipush (v := (nI 16)) C e_X5_changeRent_1 (by decide) ?_
  refine MF.callSNP (As := [.int x1, .int (nI 16)]) C (R_X7_isBelow hD x1 (nI 16) s) m_X7_isBelow k_X5_46 (by decide) e_X5_changeRent_3 rfl rfl (Nat.le_of_ble_eq_true rfl) (fun v1 => ?_)
  refine MF.if_ne (tgt := 11) C e_X5_changeRent_6 (by decide) (fun _ => ?_) (fun _ => ?_)
  · refine MF.aload_n C e_X5_changeRent_11 0 rfl rfl ?_
    refine MF.getR (j := (t + 9)) C cf_X5 l_X5_29 e_X5_changeRent_12 (iTo.f4 ht) ?_
    refine MF.iload_n C e_X5_changeRent_15 1 rfl rfl ?_
    refine MF.iald C e_X5_changeRent_16 (iTo.o4 ht) (fun v2 => ?_)
    refine MF.istore_n (lv' := [(0, .ref (ead E t)), (1, .int x1), (2, .int x2), (3, .int v2)]) C e_X5_changeRent_17 (by decide) rfl ?_
    refine MF.aload_n C e_X5_changeRent_18 0 rfl rfl ?_
    refine MF.getR (j := (t + 9)) C cf_X5 l_X5_29 e_X5_changeRent_19 (iTo.f4 ht) ?_
    refine MF.iload_n C e_X5_changeRent_22 1 rfl rfl ?_
    refine MF.iload_n C e_X5_changeRent_23 2 rfl rfl ?_
    refine MF.iast C e_X5_changeRent_24 (iTo.o4 ht) (fun s3 => ?_)
    refine MF.iload_n C e_X5_changeRent_25 3 rfl rfl ?_
    exact MF.iret C e_X5_changeRent_26
  · refine MF.iconst (v := (nI 0)) C e_X5_changeRent_9 rfl ?_
    exact MF.iret C e_X5_changeRent_10
theorem e_X5_take_0 : Dc cX5_take 0 (.iload_n 1) 1 1 := ⟨by decide +kernel, rfl⟩
theorem e_X5_take_1 : Dc cX5_take 1 (.tableswitch 82 0 2 #[27, 35, 60]) 27 28 := ⟨by decide +kernel, rfl⟩
theorem e_X5_take_28 : Dc cX5_take 28 (.aload_n 0) 1 29 := ⟨by decide +kernel, rfl⟩
theorem e_X5_take_29 : Dc cX5_take 29 (.aload_n 2) 1 30 := ⟨by decide +kernel, rfl⟩
theorem e_X5_take_30 : Dc cX5_take 30 (.iconst 0) 1 31 := ⟨by decide +kernel, rfl⟩
theorem e_X5_take_31 : Dc cX5_take 31 (.iaload) 1 32 := ⟨by decide +kernel, rfl⟩
theorem e_X5_take_32 : Dc cX5_take 32 (.invokevirtual 61) 3 35 := ⟨by decide +kernel, rfl⟩
theorem e_X5_take_35 : Dc cX5_take 35 (.ireturn) 1 36 := ⟨by decide +kernel, rfl⟩
theorem e_X5_take_36 : Dc cX5_take 36 (.aload_n 0) 1 37 := ⟨by decide +kernel, rfl⟩
theorem e_X5_take_37 : Dc cX5_take 37 (.getfield 26) 3 40 := ⟨by decide +kernel, rfl⟩
theorem e_X5_take_40 : Dc cX5_take 40 (.invokevirtual 65) 3 43 := ⟨by decide +kernel, rfl⟩
theorem e_X5_take_43 : Dc cX5_take 43 (.aload_n 0) 1 44 := ⟨by decide +kernel, rfl⟩
theorem e_X5_take_44 : Dc cX5_take 44 (.getfield 16) 3 47 := ⟨by decide +kernel, rfl⟩
theorem e_X5_take_47 : Dc cX5_take 47 (.aload_n 2) 1 48 := ⟨by decide +kernel, rfl⟩
theorem e_X5_take_48 : Dc cX5_take 48 (.invokevirtual 68) 3 51 := ⟨by decide +kernel, rfl⟩
theorem e_X5_take_51 : Dc cX5_take 51 (.aload_n 0) 1 52 := ⟨by decide +kernel, rfl⟩
theorem e_X5_take_52 : Dc cX5_take 52 (.getfield 16) 3 55 := ⟨by decide +kernel, rfl⟩
theorem e_X5_take_55 : Dc cX5_take 55 (.invokevirtual 50) 3 58 := ⟨by decide +kernel, rfl⟩
theorem e_X5_take_58 : Dc cX5_take 58 (.iconst 1) 1 59 := ⟨by decide +kernel, rfl⟩
theorem e_X5_take_59 : Dc cX5_take 59 (.isub) 1 60 := ⟨by decide +kernel, rfl⟩
theorem e_X5_take_60 : Dc cX5_take 60 (.ireturn) 1 61 := ⟨by decide +kernel, rfl⟩
theorem e_X5_take_61 : Dc cX5_take 61 (.aload_n 0) 1 62 := ⟨by decide +kernel, rfl⟩
theorem e_X5_take_62 : Dc cX5_take 62 (.invokevirtual 72) 3 65 := ⟨by decide +kernel, rfl⟩
theorem e_X5_take_65 : Dc cX5_take 65 (.aload_n 0) 1 66 := ⟨by decide +kernel, rfl⟩
theorem e_X5_take_66 : Dc cX5_take 66 (.getfield 20) 3 69 := ⟨by decide +kernel, rfl⟩
theorem e_X5_take_69 : Dc cX5_take 69 (.aload_n 2) 1 70 := ⟨by decide +kernel, rfl⟩
theorem e_X5_take_70 : Dc cX5_take 70 (.invokevirtual 68) 3 73 := ⟨by decide +kernel, rfl⟩
theorem e_X5_take_73 : Dc cX5_take 73 (.aload_n 0) 1 74 := ⟨by decide +kernel, rfl⟩
theorem e_X5_take_74 : Dc cX5_take 74 (.getfield 20) 3 77 := ⟨by decide +kernel, rfl⟩
theorem e_X5_take_77 : Dc cX5_take 77 (.invokevirtual 50) 3 80 := ⟨by decide +kernel, rfl⟩
theorem e_X5_take_80 : Dc cX5_take 80 (.iconst 1) 1 81 := ⟨by decide +kernel, rfl⟩
theorem e_X5_take_81 : Dc cX5_take 81 (.isub) 1 82 := ⟨by decide +kernel, rfl⟩
theorem e_X5_take_82 : Dc cX5_take 82 (.ireturn) 1 83 := ⟨by decide +kernel, rfl⟩
theorem e_X5_take_83 : Dc cX5_take 83 (.aload_n 0) 1 84 := ⟨by decide +kernel, rfl⟩
theorem e_X5_take_84 : Dc cX5_take 84 (.aload_n 2) 1 85 := ⟨by decide +kernel, rfl⟩
theorem e_X5_take_85 : Dc cX5_take 85 (.iconst 0) 1 86 := ⟨by decide +kernel, rfl⟩
theorem e_X5_take_86 : Dc cX5_take 86 (.iaload) 1 87 := ⟨by decide +kernel, rfl⟩
theorem e_X5_take_87 : Dc cX5_take 87 (.aload_n 2) 1 88 := ⟨by decide +kernel, rfl⟩
theorem e_X5_take_88 : Dc cX5_take 88 (.iconst 1) 1 89 := ⟨by decide +kernel, rfl⟩
theorem e_X5_take_89 : Dc cX5_take 89 (.iaload) 1 90 := ⟨by decide +kernel, rfl⟩
theorem e_X5_take_90 : Dc cX5_take 90 (.invokevirtual 75) 3 93 := ⟨by decide +kernel, rfl⟩
theorem e_X5_take_93 : Dc cX5_take 93 (.ireturn) 1 94 := ⟨by decide +kernel, rfl⟩
set_option maxHeartbeats 4000000 in
set_option maxRecDepth 20000 in
theorem R_X5_take (hD : DD E) (t : Nat) (x1 : Int32) (c2 : Nat) (ht : iTo t) (hc2 : iA c2) (s : Sg) : ∀ v τ, (f_X5_take t x1 c2 s) = some (v, τ) → RI l E 4 M_X5_take [.ref (ead E t), .int x1, .ref (ead E c2)] s v τ := by
  refine ofI hD (by decide +kernel) (Nat.le_of_ble_eq_true rfl) (fun X C => ?_)
  show MF l E X (fun q : Int32 × Sg => QI E X q.1 q.2) (f_X5_take t x1 c2 s) s 0 [(0, .ref (ead E t)), (1, .int x1), (2, .ref (ead E c2))] []
  unfold f_X5_take
  refine MF.iload_n C e_X5_take_0 1 rfl rfl ?_
  refine MF.split (fun h0 => ?_) (fun h0 => ?_)
  · refine MF.tabIn (tgt := 28) C e_X5_take_1 h0 (by decide) (by decide) rfl (by decide) ?_
    refine MF.aload_n C e_X5_take_28 0 rfl rfl ?_
    refine MF.aload_n C e_X5_take_29 2 rfl rfl ?_
    refine MF.iconst (v := (nI 0)) C e_X5_take_30 rfl ?_
    refine MF.iald C e_X5_take_31 hc2 (fun v1 => ?_)
    refine MF.callVI (As := [.int v1]) C (R_X5_begin hD t v1 ht s) m_X5_begin k_X5_61 (iTo.o ht) rfl (by decide) e_X5_take_32 rfl rfl (Nat.le_of_ble_eq_true rfl) (fun v2 s3 => ?_)
    exact MF.iret C e_X5_take_35
  · refine MF.split (fun h1 => ?_) (fun h1 => ?_)
    · refine MF.tabIn (tgt := 36) C e_X5_take_1 h1 (by decide) (by decide) rfl (by decide) ?_
      refine MF.aload_n C e_X5_take_36 0 rfl rfl ?_
      refine MF.getR (j := (t + 7)) C cf_X5 l_X5_26 e_X5_take_37 (iTo.f3 ht) ?_
      refine MF.callVU (As := []) C (R_X2_empty hD (t + 7) (iTo.o3 ht) s) m_X2_empty k_X5_65 (iRo.o (iTo.o3 ht)) rfl (by decide) e_X5_take_40 rfl rfl (Nat.le_of_ble_eq_true rfl) (fun s4 => ?_)
      refine MF.aload_n C e_X5_take_43 0 rfl rfl ?_
      refine MF.getR (j := (t + 1)) C cf_X5 l_X5_16 e_X5_take_44 (iTo.f0 ht) ?_
      refine MF.aload_n C e_X5_take_47 2 rfl rfl ?_
      refine MF.callVU (As := [.ref (ead E c2)]) C (R_X2_add hD (t + 1) c2 (iTo.o0 ht) hc2 s4) m_X2_add k_X5_68 (iRo.o (iTo.o0 ht)) rfl (by decide) e_X5_take_48 rfl rfl (Nat.le_of_ble_eq_true rfl) (fun s5 => ?_)
      refine MF.aload_n C e_X5_take_51 0 rfl rfl ?_
      refine MF.getR (j := (t + 1)) C cf_X5 l_X5_16 e_X5_take_52 (iTo.f0 ht) ?_
      refine MF.callVP (As := []) C (R_X2_size hD (t + 1) (iTo.o0 ht) s5) m_X2_size k_X5_50 (iRo.o (iTo.o0 ht)) rfl (by decide) e_X5_take_55 rfl rfl (Nat.le_of_ble_eq_true rfl) (fun v6 => ?_)
      refine MF.iconst (v := (nI 1)) C e_X5_take_58 rfl ?_
      refine MF.isub C e_X5_take_59 ?_
      exact MF.iret C e_X5_take_60
    · refine MF.split (fun h2 => ?_) (fun h2 => ?_)
      · refine MF.tabIn (tgt := 61) C e_X5_take_1 h2 (by decide) (by decide) rfl (by decide) ?_
        refine MF.aload_n C e_X5_take_61 0 rfl rfl ?_
        refine MF.callVU (As := []) C (R_X5_remember hD t ht s) m_X5_remember k_X5_72 (iTo.o ht) rfl (by decide) e_X5_take_62 rfl rfl (Nat.le_of_ble_eq_true rfl) (fun s7 => ?_)
        refine MF.aload_n C e_X5_take_65 0 rfl rfl ?_
        refine MF.getR (j := (t + 3)) C cf_X5 l_X5_20 e_X5_take_66 (iTo.f1 ht) ?_
        refine MF.aload_n C e_X5_take_69 2 rfl rfl ?_
        refine MF.callVU (As := [.ref (ead E c2)]) C (R_X2_add hD (t + 3) c2 (iTo.o1 ht) hc2 s7) m_X2_add k_X5_68 (iRo.o (iTo.o1 ht)) rfl (by decide) e_X5_take_70 rfl rfl (Nat.le_of_ble_eq_true rfl) (fun s8 => ?_)
        refine MF.aload_n C e_X5_take_73 0 rfl rfl ?_
        refine MF.getR (j := (t + 3)) C cf_X5 l_X5_20 e_X5_take_74 (iTo.f1 ht) ?_
        refine MF.callVP (As := []) C (R_X2_size hD (t + 3) (iTo.o1 ht) s8) m_X2_size k_X5_50 (iRo.o (iTo.o1 ht)) rfl (by decide) e_X5_take_77 rfl rfl (Nat.le_of_ble_eq_true rfl) (fun v9 => ?_)
        refine MF.iconst (v := (nI 1)) C e_X5_take_80 rfl ?_
        refine MF.isub C e_X5_take_81 ?_
        exact MF.iret C e_X5_take_82
      · refine MF.tabOut (tgt := 83) C e_X5_take_1 (by have q0 : _ ≠ (0 : Int) := i32_ne h0; have q1 : _ ≠ (1 : Int) := i32_ne h1; have q2 : _ ≠ (2 : Int) := i32_ne h2; omega) (by decide) ?_
        refine MF.aload_n C e_X5_take_83 0 rfl rfl ?_
        refine MF.aload_n C e_X5_take_84 2 rfl rfl ?_
        refine MF.iconst (v := (nI 0)) C e_X5_take_85 rfl ?_
        refine MF.iald C e_X5_take_86 hc2 (fun v10 => ?_)
        refine MF.aload_n C e_X5_take_87 2 rfl rfl ?_
        refine MF.iconst (v := (nI 1)) C e_X5_take_88 rfl ?_
        refine MF.iald C e_X5_take_89 hc2 (fun v11 => ?_)
        refine MF.callVI (As := [.int v10, .int v11]) C (R_X5_changeRent hD t v10 v11 ht s) m_X5_changeRent k_X5_75 (iTo.o ht) rfl (by decide) e_X5_take_90 rfl rfl (Nat.le_of_ble_eq_true rfl) (fun v12 s13 => ?_)
        exact MF.iret C e_X5_take_93
theorem e_X4_takeItem_0 : Dc cX4_takeItem 0 (.aload_n 0) 1 1 := ⟨by decide +kernel, rfl⟩
theorem e_X4_takeItem_1 : Dc cX4_takeItem 1 (.invokevirtual 47) 3 4 := ⟨by decide +kernel, rfl⟩
theorem e_X4_takeItem_4 : Dc cX4_takeItem 4 (.istore_n 3) 1 5 := ⟨by decide +kernel, rfl⟩
theorem e_X4_takeItem_5 : Dc cX4_takeItem 5 (.iload_n 3) 1 6 := ⟨by decide +kernel, rfl⟩
theorem e_X4_takeItem_6 : Dc cX4_takeItem 6 (.iconst (-1)) 1 7 := ⟨by decide +kernel, rfl⟩
theorem e_X4_takeItem_7 : Dc cX4_takeItem 7 (.if_icmp .eq 24) 3 10 := ⟨by decide +kernel, rfl⟩
theorem e_X4_takeItem_10 : Dc cX4_takeItem 10 (.iload_n 2) 1 11 := ⟨by decide +kernel, rfl⟩
theorem e_X4_takeItem_11 : Dc cX4_takeItem 11 (.iload_n 3) 1 12 := ⟨by decide +kernel, rfl⟩
theorem e_X4_takeItem_12 : Dc cX4_takeItem 12 (.ifCond .ne 7) 3 15 := ⟨by decide +kernel, rfl⟩
theorem e_X4_takeItem_15 : Dc cX4_takeItem 15 (.iconst 1) 1 16 := ⟨by decide +kernel, rfl⟩
theorem e_X4_takeItem_16 : Dc cX4_takeItem 16 (.goto 4) 3 19 := ⟨by decide +kernel, rfl⟩
theorem e_X4_takeItem_19 : Dc cX4_takeItem 19 (.iconst 0) 1 20 := ⟨by decide +kernel, rfl⟩
theorem e_X4_takeItem_20 : Dc cX4_takeItem 20 (.if_icmp .ne 11) 3 23 := ⟨by decide +kernel, rfl⟩
theorem e_X4_takeItem_23 : Dc cX4_takeItem 23 (.aload_n 1) 1 24 := ⟨by decide +kernel, rfl⟩
theorem e_X4_takeItem_24 : Dc cX4_takeItem 24 (.iload_n 3) 1 25 := ⟨by decide +kernel, rfl⟩
theorem e_X4_takeItem_25 : Dc cX4_takeItem 25 (.invokevirtual 51) 3 28 := ⟨by decide +kernel, rfl⟩
theorem e_X4_takeItem_28 : Dc cX4_takeItem 28 (.ifCond .eq 5) 3 31 := ⟨by decide +kernel, rfl⟩
theorem e_X4_takeItem_31 : Dc cX4_takeItem 31 (.iconst 0) 1 32 := ⟨by decide +kernel, rfl⟩
theorem e_X4_takeItem_32 : Dc cX4_takeItem 32 (.ireturn) 1 33 := ⟨by decide +kernel, rfl⟩
theorem e_X4_takeItem_33 : Dc cX4_takeItem 33 (.iconst 0) 1 34 := ⟨by decide +kernel, rfl⟩
theorem e_X4_takeItem_34 : Dc cX4_takeItem 34 (.istore 4) 2 36 := ⟨by decide +kernel, rfl⟩
theorem e_X4_takeItem_36 : Dc cX4_takeItem 36 (.iload 4) 2 38 := ⟨by decide +kernel, rfl⟩
theorem e_X4_takeItem_38 : Dc cX4_takeItem 38 (.getstatic 55) 3 41 := ⟨by decide +kernel, rfl⟩
theorem e_X4_takeItem_41 : Dc cX4_takeItem 41 (.iload_n 3) 1 42 := ⟨by decide +kernel, rfl⟩
theorem e_X4_takeItem_42 : Dc cX4_takeItem 42 (.iaload) 1 43 := ⟨by decide +kernel, rfl⟩
theorem e_X4_takeItem_43 : Dc cX4_takeItem 43 (.if_icmp .ge 50) 3 46 := ⟨by decide +kernel, rfl⟩
theorem e_X4_takeItem_46 : Dc cX4_takeItem 46 (.aload_n 0) 1 47 := ⟨by decide +kernel, rfl⟩
theorem e_X4_takeItem_47 : Dc cX4_takeItem 47 (.invokevirtual 35) 3 50 := ⟨by decide +kernel, rfl⟩
theorem e_X4_takeItem_50 : Dc cX4_takeItem 50 (.aload_n 0) 1 51 := ⟨by decide +kernel, rfl⟩
theorem e_X4_takeItem_51 : Dc cX4_takeItem 51 (.getfield 25) 3 54 := ⟨by decide +kernel, rfl⟩
theorem e_X4_takeItem_54 : Dc cX4_takeItem 54 (.iconst 2) 1 55 := ⟨by decide +kernel, rfl⟩
theorem e_X4_takeItem_55 : Dc cX4_takeItem 55 (.if_icmp .eq 5) 3 58 := ⟨by decide +kernel, rfl⟩
theorem e_X4_takeItem_58 : Dc cX4_takeItem 58 (.iconst 0) 1 59 := ⟨by decide +kernel, rfl⟩
theorem e_X4_takeItem_59 : Dc cX4_takeItem 59 (.ireturn) 1 60 := ⟨by decide +kernel, rfl⟩
theorem e_X4_takeItem_60 : Dc cX4_takeItem 60 (.aload_n 0) 1 61 := ⟨by decide +kernel, rfl⟩
theorem e_X4_takeItem_61 : Dc cX4_takeItem 61 (.getfield 15) 3 64 := ⟨by decide +kernel, rfl⟩
theorem e_X4_takeItem_64 : Dc cX4_takeItem 64 (.iload 4) 2 66 := ⟨by decide +kernel, rfl⟩
theorem e_X4_takeItem_66 : Dc cX4_takeItem 66 (.aload_n 0) 1 67 := ⟨by decide +kernel, rfl⟩
theorem e_X4_takeItem_67 : Dc cX4_takeItem 67 (.invokevirtual 58) 3 70 := ⟨by decide +kernel, rfl⟩
theorem e_X4_takeItem_70 : Dc cX4_takeItem 70 (.iastore) 1 71 := ⟨by decide +kernel, rfl⟩
theorem e_X4_takeItem_71 : Dc cX4_takeItem 71 (.aload_n 1) 1 72 := ⟨by decide +kernel, rfl⟩
theorem e_X4_takeItem_72 : Dc cX4_takeItem 72 (.iload_n 3) 1 73 := ⟨by decide +kernel, rfl⟩
theorem e_X4_takeItem_73 : Dc cX4_takeItem 73 (.iload 4) 2 75 := ⟨by decide +kernel, rfl⟩
theorem e_X4_takeItem_75 : Dc cX4_takeItem 75 (.aload_n 0) 1 76 := ⟨by decide +kernel, rfl⟩
theorem e_X4_takeItem_76 : Dc cX4_takeItem 76 (.getfield 15) 3 79 := ⟨by decide +kernel, rfl⟩
theorem e_X4_takeItem_79 : Dc cX4_takeItem 79 (.invokevirtual 61) 3 82 := ⟨by decide +kernel, rfl⟩
theorem e_X4_takeItem_82 : Dc cX4_takeItem 82 (.ifCond .ne 5) 3 85 := ⟨by decide +kernel, rfl⟩
theorem e_X4_takeItem_85 : Dc cX4_takeItem 85 (.iconst 0) 1 86 := ⟨by decide +kernel, rfl⟩
theorem e_X4_takeItem_86 : Dc cX4_takeItem 86 (.ireturn) 1 87 := ⟨by decide +kernel, rfl⟩
theorem e_X4_takeItem_87 : Dc cX4_takeItem 87 (.iinc 4 1) 3 90 := ⟨by decide +kernel, rfl⟩
theorem e_X4_takeItem_90 : Dc cX4_takeItem 90 (.goto (-54)) 3 93 := ⟨by decide +kernel, rfl⟩
theorem e_X4_takeItem_93 : Dc cX4_takeItem 93 (.aload_n 0) 1 94 := ⟨by decide +kernel, rfl⟩
theorem e_X4_takeItem_94 : Dc cX4_takeItem 94 (.invokevirtual 35) 3 97 := ⟨by decide +kernel, rfl⟩
theorem e_X4_takeItem_97 : Dc cX4_takeItem 97 (.aload_n 0) 1 98 := ⟨by decide +kernel, rfl⟩
theorem e_X4_takeItem_98 : Dc cX4_takeItem 98 (.getfield 25) 3 101 := ⟨by decide +kernel, rfl⟩
theorem e_X4_takeItem_101 : Dc cX4_takeItem 101 (.iconst 3) 1 102 := ⟨by decide +kernel, rfl⟩
theorem e_X4_takeItem_102 : Dc cX4_takeItem 102 (.if_icmp .eq 5) 3 105 := ⟨by decide +kernel, rfl⟩
theorem e_X4_takeItem_105 : Dc cX4_takeItem 105 (.iconst 0) 1 106 := ⟨by decide +kernel, rfl⟩
theorem e_X4_takeItem_106 : Dc cX4_takeItem 106 (.ireturn) 1 107 := ⟨by decide +kernel, rfl⟩
theorem e_X4_takeItem_107 : Dc cX4_takeItem 107 (.aload_n 1) 1 108 := ⟨by decide +kernel, rfl⟩
theorem e_X4_takeItem_108 : Dc cX4_takeItem 108 (.iload_n 3) 1 109 := ⟨by decide +kernel, rfl⟩
theorem e_X4_takeItem_109 : Dc cX4_takeItem 109 (.aload_n 0) 1 110 := ⟨by decide +kernel, rfl⟩
theorem e_X4_takeItem_110 : Dc cX4_takeItem 110 (.getfield 15) 3 113 := ⟨by decide +kernel, rfl⟩
theorem e_X4_takeItem_113 : Dc cX4_takeItem 113 (.invokevirtual 65) 3 116 := ⟨by decide +kernel, rfl⟩
theorem e_X4_takeItem_116 : Dc cX4_takeItem 116 (.pop) 1 117 := ⟨by decide +kernel, rfl⟩
theorem e_X4_takeItem_117 : Dc cX4_takeItem 117 (.iconst 1) 1 118 := ⟨by decide +kernel, rfl⟩
theorem e_X4_takeItem_118 : Dc cX4_takeItem 118 (.ireturn) 1 119 := ⟨by decide +kernel, rfl⟩
set_option maxHeartbeats 4000000 in
set_option maxRecDepth 20000 in
theorem R_X4_takeItem (hD : DD E) (t1 : Nat) (x2 : Int32) (ht1 : iTo t1) (s : Sg) : ∀ v τ, (f_X4_takeItem t1 x2 s) = some (v, τ) → RI l E 6 M_X4_takeItem [.ref (ead E 49), .ref (ead E t1), .int x2] s v τ := by
  refine ofI hD (by decide +kernel) (Nat.le_of_ble_eq_true rfl) (fun X C => ?_)
  show MF l E X (fun q : Int32 × Sg => QI E X q.1 q.2) (f_X4_takeItem t1 x2 s) s 0 [(0, .ref (ead E 49)), (1, .ref (ead E t1)), (2, .int x2)] []
  unfold f_X4_takeItem
  refine MF.aload_n C e_X4_takeItem_0 0 rfl rfl ?_
  refine MF.callVI (As := []) C (R_X4_itemCalled hD s) m_X4_itemCalled k_X4_47 kO_49 rfl (by decide) e_X4_takeItem_1 rfl rfl (Nat.le_of_ble_eq_true rfl) (fun v1 s2 => ?_)
  refine MF.istore_n (lv' := [(0, .ref (ead E 49)), (1, .ref (ead E t1)), (2, .int x2), (3, .int v1)]) C e_X4_takeItem_4 (by decide) rfl ?_
  refine MF.iload_n C e_X4_takeItem_5 3 rfl rfl ?_
  refine MF.iconst (v := (-1 : Int32)) C e_X4_takeItem_6 rfl ?_
  refine MF.icmp_eq (tgt := 31) C e_X4_takeItem_7 (by decide) (fun _ => ?_) (fun _ => ?_)
  · refine MF.iconst (v := (nI 0)) C e_X4_takeItem_31 rfl ?_
    exact MF.nret C e_X4_takeItem_32 rfl
  · refine MF.iload_n C e_X4_takeItem_10 2 rfl rfl ?_
    refine MF.iload_n C e_X4_takeItem_11 3 rfl rfl ?_
    refine MF.join (fun j : Int32 → Option (Int32 × Sg) => ∀ (a3 : Int32), MF l E X (fun q : Int32 × Sg => QI E X q.1 q.2) (j a3) s2 20 [(0, .ref (ead E 49)), (1, .ref (ead E t1)), (3, .int v1)] [.int a3, .int x2]) ?_ (fun j4 hj4 => ?_)
    · intro a3
      refine MF.icmp_ne (tgt := 31) C e_X4_takeItem_20 (by decide) (fun _ => ?_) (fun _ => ?_)
      · refine MF.iconst (v := (nI 0)) C e_X4_takeItem_31 rfl ?_
        exact MF.nret C e_X4_takeItem_32 rfl
      · refine MF.aload_n C e_X4_takeItem_23 1 rfl rfl ?_
        refine MF.iload_n C e_X4_takeItem_24 2 rfl rfl ?_
        refine MF.callVP (As := [.int v1]) C (R_X5_hasNoRoomFor hD t1 v1 ht1 s2) m_X5_hasNoRoomFor k_X4_51 (iTo.o ht1) rfl (by decide) e_X4_takeItem_25 rfl rfl (Nat.le_of_ble_eq_true rfl) (fun v5 => ?_)
        refine MF.if_eq (tgt := 33) C e_X4_takeItem_28 (by decide) (fun _ => ?_) (fun _ => ?_)
        · refine MF.iconst (v := (nI 0)) C e_X4_takeItem_33 rfl ?_
          refine MF.istore (lv' := [(0, .ref (ead E 49)), (1, .ref (ead E t1)), (3, .int v1), (4, .int (nI 0))]) C e_X4_takeItem_34 (by decide) rfl ?_
          refine MF.join (fun j : Sg → Option (Int32 × Sg) => ∀ (s6 : Sg), MF l E X (fun q : Int32 × Sg => QI E X q.1 q.2) (j s6) s6 93 [(0, .ref (ead E 49)), (1, .ref (ead E t1)), (3, .int v1)] []) ?_ (fun j7 hj7 => ?_)
          · intro s6
            refine MF.aload_n C e_X4_takeItem_93 0 rfl rfl ?_
            refine MF.callVU (As := []) C (R_X4_findToken hD s6) m_X4_findToken k_X4_35 kO_49 rfl (by decide) e_X4_takeItem_94 rfl rfl (Nat.le_of_ble_eq_true rfl) (fun s8 => ?_)
            refine MF.aload_n C e_X4_takeItem_97 0 rfl rfl ?_
            refine MF.get C cf_X4 l_X4_25 e_X4_takeItem_98 kF_49_4 ?_
            refine MF.iconst (v := (nI 3)) C e_X4_takeItem_101 rfl ?_
            refine MF.icmp_eq (tgt := 107) C e_X4_takeItem_102 (by decide) (fun _ => ?_) (fun _ => ?_)
            · refine MF.aload_n C e_X4_takeItem_107 1 rfl rfl ?_
              refine MF.iload_n C e_X4_takeItem_108 2 rfl rfl ?_
              refine MF.aload_n C e_X4_takeItem_109 0 rfl rfl ?_
              refine MF.getR (j := 51) C cf_X4 l_X4_15 e_X4_takeItem_110 kF_49_1 ?_
              refine MF.callVI (As := [.int v1, .ref (ead E 51)]) C (R_X5_take hD t1 v1 51 ht1 kA_51 s8) m_X5_take k_X4_65 (iTo.o ht1) rfl (by decide) e_X4_takeItem_113 rfl rfl (Nat.le_of_ble_eq_true rfl) (fun v9 s10 => ?_)
              refine MF.pop C e_X4_takeItem_116 rfl ?_
              refine MF.iconst (v := (nI 1)) C e_X4_takeItem_117 rfl ?_
              exact MF.nret C e_X4_takeItem_118 rfl
            · refine MF.iconst (v := (nI 0)) C e_X4_takeItem_105 rfl ?_
              exact MF.nret C e_X4_takeItem_106 rfl
          refine MF.loop2 (fun i11 s12 => s12) (fun i11 s12 => [(0, .ref (ead E 49)), (1, .ref (ead E t1)), (3, .int v1), (4, .int i11)]) (fun self13 hself13 i11 s12 => ?_) fu (nI 0) s2
          unfold b_X4_takeItem_36
          refine MF.iload C e_X4_takeItem_36 3 rfl ?_
          refine MF.getTN (t := 0) C (by decide) l_X4_55 e_X4_takeItem_38 ?_
          refine MF.iload_n C e_X4_takeItem_41 2 rfl rfl ?_
          refine MF.tald C (by decide) e_X4_takeItem_42 (fun v14 => ?_)
          refine MF.icmp_ge (tgt := 93) C e_X4_takeItem_43 (by decide) (fun _ => ?_) (fun _ => ?_)
          · refine MF.sub [0, 1, 2] rfl ?_
            exact hj7 s12
          · refine MF.aload_n C e_X4_takeItem_46 0 rfl rfl ?_
            refine MF.callVU (As := []) C (R_X4_findToken hD s12) m_X4_findToken k_X4_35 kO_49 rfl (by decide) e_X4_takeItem_47 rfl rfl (Nat.le_of_ble_eq_true rfl) (fun s15 => ?_)
            refine MF.aload_n C e_X4_takeItem_50 0 rfl rfl ?_
            refine MF.get C cf_X4 l_X4_25 e_X4_takeItem_51 kF_49_4 ?_
            refine MF.iconst (v := (nI 2)) C e_X4_takeItem_54 rfl ?_
            refine MF.icmp_eq (tgt := 60) C e_X4_takeItem_55 (by decide) (fun _ => ?_) (fun _ => ?_)
            · refine MF.aload_n C e_X4_takeItem_60 0 rfl rfl ?_
              refine MF.getR (j := 51) C cf_X4 l_X4_15 e_X4_takeItem_61 kF_49_1 ?_
              refine MF.iload C e_X4_takeItem_64 3 rfl ?_
              refine MF.aload_n C e_X4_takeItem_66 0 rfl rfl ?_
              refine MF.callVP (As := []) C (R_X4_value hD s15) m_X4_value k_X4_58 kO_49 rfl (by decide) e_X4_takeItem_67 rfl rfl (Nat.le_of_ble_eq_true rfl) (fun v16 => ?_)
              refine MF.iast C e_X4_takeItem_70 kA_51 (fun s17 => ?_)
              refine MF.aload_n C e_X4_takeItem_71 1 rfl rfl ?_
              refine MF.iload_n C e_X4_takeItem_72 2 rfl rfl ?_
              refine MF.iload C e_X4_takeItem_73 3 rfl ?_
              refine MF.aload_n C e_X4_takeItem_75 0 rfl rfl ?_
              refine MF.getR (j := 51) C cf_X4 l_X4_15 e_X4_takeItem_76 kF_49_1 ?_
              refine MF.callVP (As := [.int v1, .int i11, .ref (ead E 51)]) C (R_X5_fits hD t1 v1 i11 51 ht1 kA_51 s17) m_X5_fits k_X4_61 (iTo.o ht1) rfl (by decide) e_X4_takeItem_79 rfl rfl (Nat.le_of_ble_eq_true rfl) (fun v18 => ?_)
              refine MF.if_ne (tgt := 87) C e_X4_takeItem_82 (by decide) (fun _ => ?_) (fun _ => ?_)
              · refine MF.iinc (v := (nI 1)) (lv' := [(0, .ref (ead E 49)), (1, .ref (ead E t1)), (3, .int v1), (4, .int (i11 + (nI 1)))]) C e_X4_takeItem_87 3 rfl rfl (by decide) rfl ?_
                refine MF.goto (tgt := 36) C e_X4_takeItem_90 (by decide) ?_
                exact hself13 (i11 + (nI 1)) s17
              · refine MF.iconst (v := (nI 0)) C e_X4_takeItem_85 rfl ?_
                exact MF.nret C e_X4_takeItem_86 rfl
            · refine MF.iconst (v := (nI 0)) C e_X4_takeItem_58 rfl ?_
              exact MF.nret C e_X4_takeItem_59 rfl
        · refine MF.iconst (v := (nI 0)) C e_X4_takeItem_31 rfl ?_
          exact MF.nret C e_X4_takeItem_32 rfl
    refine MF.if_ne (tgt := 19) C e_X4_takeItem_12 (by decide) (fun _ => ?_) (fun _ => ?_)
    · refine MF.iconst (v := (nI 0)) C e_X4_takeItem_19 rfl ?_
      refine MF.sub [0, 1, 3] rfl ?_
      exact hj4 (nI 0)
    · refine MF.iconst (v := (nI 1)) C e_X4_takeItem_15 rfl ?_
      refine MF.goto (tgt := 20) C e_X4_takeItem_16 (by decide) ?_
      refine MF.sub [0, 1, 3] rfl ?_
      exact hj4 (nI 1)
theorem e_X4_readInto_0 : Dc cX4_readInto 0 (.aload_n 0) 1 1 := ⟨by decide +kernel, rfl⟩
theorem e_X4_readInto_1 : Dc cX4_readInto 1 (.iconst 0) 1 2 := ⟨by decide +kernel, rfl⟩
theorem e_X4_readInto_2 : Dc cX4_readInto 2 (.putfield 22) 3 5 := ⟨by decide +kernel, rfl⟩
theorem e_X4_readInto_5 : Dc cX4_readInto 5 (.iconst 0) 1 6 := ⟨by decide +kernel, rfl⟩
theorem e_X4_readInto_6 : Dc cX4_readInto 6 (.istore_n 2) 1 7 := ⟨by decide +kernel, rfl⟩
theorem e_X4_readInto_7 : Dc cX4_readInto 7 (.iload_n 2) 1 8 := ⟨by decide +kernel, rfl⟩
theorem e_X4_readInto_8 : Dc cX4_readInto 8 (.sipush 150) 3 11 := ⟨by decide +kernel, rfl⟩
theorem e_X4_readInto_11 : Dc cX4_readInto 11 (.if_icmp .gt 50) 3 14 := ⟨by decide +kernel, rfl⟩
theorem e_X4_readInto_14 : Dc cX4_readInto 14 (.aload_n 0) 1 15 := ⟨by decide +kernel, rfl⟩
theorem e_X4_readInto_15 : Dc cX4_readInto 15 (.invokevirtual 35) 3 18 := ⟨by decide +kernel, rfl⟩
theorem e_X4_readInto_18 : Dc cX4_readInto 18 (.aload_n 0) 1 19 := ⟨by decide +kernel, rfl⟩
theorem e_X4_readInto_19 : Dc cX4_readInto 19 (.getfield 25) 3 22 := ⟨by decide +kernel, rfl⟩
theorem e_X4_readInto_22 : Dc cX4_readInto 22 (.ifCond .ne 13) 3 25 := ⟨by decide +kernel, rfl⟩
theorem e_X4_readInto_25 : Dc cX4_readInto 25 (.iload_n 2) 1 26 := ⟨by decide +kernel, rfl⟩
theorem e_X4_readInto_26 : Dc cX4_readInto 26 (.ifCond .le 9) 3 29 := ⟨by decide +kernel, rfl⟩
theorem e_X4_readInto_29 : Dc cX4_readInto 29 (.aload_n 1) 1 30 := ⟨by decide +kernel, rfl⟩
theorem e_X4_readInto_30 : Dc cX4_readInto 30 (.invokevirtual 38) 3 33 := ⟨by decide +kernel, rfl⟩
theorem e_X4_readInto_33 : Dc cX4_readInto 33 (.iload_n 2) 1 34 := ⟨by decide +kernel, rfl⟩
theorem e_X4_readInto_34 : Dc cX4_readInto 34 (.ireturn) 1 35 := ⟨by decide +kernel, rfl⟩
theorem e_X4_readInto_35 : Dc cX4_readInto 35 (.aload_n 0) 1 36 := ⟨by decide +kernel, rfl⟩
theorem e_X4_readInto_36 : Dc cX4_readInto 36 (.aload_n 1) 1 37 := ⟨by decide +kernel, rfl⟩
theorem e_X4_readInto_37 : Dc cX4_readInto 37 (.iload_n 2) 1 38 := ⟨by decide +kernel, rfl⟩
theorem e_X4_readInto_38 : Dc cX4_readInto 38 (.ifCond .ne 7) 3 41 := ⟨by decide +kernel, rfl⟩
theorem e_X4_readInto_41 : Dc cX4_readInto 41 (.iconst 1) 1 42 := ⟨by decide +kernel, rfl⟩
theorem e_X4_readInto_42 : Dc cX4_readInto 42 (.goto 4) 3 45 := ⟨by decide +kernel, rfl⟩
theorem e_X4_readInto_45 : Dc cX4_readInto 45 (.iconst 0) 1 46 := ⟨by decide +kernel, rfl⟩
theorem e_X4_readInto_46 : Dc cX4_readInto 46 (.invokevirtual 43) 3 49 := ⟨by decide +kernel, rfl⟩
theorem e_X4_readInto_49 : Dc cX4_readInto 49 (.ifCond .ne 6) 3 52 := ⟨by decide +kernel, rfl⟩
theorem e_X4_readInto_52 : Dc cX4_readInto 52 (.goto 9) 3 55 := ⟨by decide +kernel, rfl⟩
theorem e_X4_readInto_55 : Dc cX4_readInto 55 (.iinc 2 1) 3 58 := ⟨by decide +kernel, rfl⟩
theorem e_X4_readInto_58 : Dc cX4_readInto 58 (.goto (-51)) 3 61 := ⟨by decide +kernel, rfl⟩
theorem e_X4_readInto_61 : Dc cX4_readInto 61 (.bipush (-10)) 2 63 := ⟨by decide +kernel, rfl⟩
theorem e_X4_readInto_63 : Dc cX4_readInto 63 (.aload_n 0) 1 64 := ⟨by decide +kernel, rfl⟩
theorem e_X4_readInto_64 : Dc cX4_readInto 64 (.getfield 28) 3 67 := ⟨by decide +kernel, rfl⟩
theorem e_X4_readInto_67 : Dc cX4_readInto 67 (.isub) 1 68 := ⟨by decide +kernel, rfl⟩
theorem e_X4_readInto_68 : Dc cX4_readInto 68 (.ireturn) 1 69 := ⟨by decide +kernel, rfl⟩
set_option maxHeartbeats 4000000 in
set_option maxRecDepth 20000 in
theorem R_X4_readInto (hD : DD E) (t1 : Nat) (ht1 : iTo t1) (s : Sg) : ∀ v τ, (f_X4_readInto t1 s) = some (v, τ) → RI l E 7 M_X4_readInto [.ref (ead E 49), .ref (ead E t1)] s v τ := by
  refine ofI hD (by decide +kernel) (Nat.le_of_ble_eq_true rfl) (fun X C => ?_)
  show MF l E X (fun q : Int32 × Sg => QI E X q.1 q.2) (f_X4_readInto t1 s) s 0 [(0, .ref (ead E 49)), (1, .ref (ead E t1))] []
  unfold f_X4_readInto
  refine MF.aload_n C e_X4_readInto_0 0 rfl rfl ?_
  refine MF.iconst (v := (nI 0)) C e_X4_readInto_1 rfl ?_
  refine MF.put C cf_X4 l_X4_22 p_X4_3 e_X4_readInto_2 kF_49_3 rfl ?_
  refine MF.nmS (fun s1 => ?_)
  refine MF.iconst (v := (nI 0)) C e_X4_readInto_5 rfl ?_
  refine MF.istore_n (lv' := [(0, .ref (ead E 49)), (1, .ref (ead E t1)), (2, .int (nI 0))]) C e_X4_readInto_6 (by decide) rfl ?_
  refine MF.loop2 (fun i2 s3 => s3) (fun i2 s3 => [(0, .ref (ead E 49)), (1, .ref (ead E t1)), (2, .int i2)]) (fun self4 hself4 i2 s3 => ?_) fu (nI 0) s1
  unfold b_X4_readInto_7
  refine MF.iload_n C e_X4_readInto_7 2 rfl rfl ?_
  refine MF.sipush (v := (nI 150)) C e_X4_readInto_8 (by decide) ?_
  refine MF.icmp_gt (tgt := 61) C e_X4_readInto_11 (by decide) (fun _ => ?_) (fun _ => ?_)
  · refine MF.bipush (v := (-10 : Int32)) C e_X4_readInto_61 (by decide) ?_
    refine MF.aload_n C e_X4_readInto_63 0 rfl rfl ?_
    refine MF.get C cf_X4 l_X4_28 e_X4_readInto_64 kF_49_5 ?_
    refine MF.isub C e_X4_readInto_67 ?_
    exact MF.iret C e_X4_readInto_68
  · refine MF.aload_n C e_X4_readInto_14 0 rfl rfl ?_
    refine MF.callVU (As := []) C (R_X4_findToken hD s3) m_X4_findToken k_X4_35 kO_49 rfl (by decide) e_X4_readInto_15 rfl rfl (Nat.le_of_ble_eq_true rfl) (fun s5 => ?_)
    refine MF.aload_n C e_X4_readInto_18 0 rfl rfl ?_
    refine MF.get C cf_X4 l_X4_25 e_X4_readInto_19 kF_49_4 ?_
    refine MF.join (fun j : Unit → Option (Int32 × Sg) => ∀ (_u : Unit), MF l E X (fun q : Int32 × Sg => QI E X q.1 q.2) (j _u) s5 35 [(0, .ref (ead E 49)), (1, .ref (ead E t1)), (2, .int i2)] []) ?_ (fun j6 hj6 => ?_)
    · intro _
      refine MF.aload_n C e_X4_readInto_35 0 rfl rfl ?_
      refine MF.aload_n C e_X4_readInto_36 1 rfl rfl ?_
      refine MF.iload_n C e_X4_readInto_37 2 rfl rfl ?_
      refine MF.join (fun j : Int32 → Option (Int32 × Sg) => ∀ (a7 : Int32), MF l E X (fun q : Int32 × Sg => QI E X q.1 q.2) (j a7) s5 46 [(0, .ref (ead E 49)), (1, .ref (ead E t1)), (2, .int i2)] [.int a7, .ref (ead E t1), .ref (ead E 49)]) ?_ (fun j8 hj8 => ?_)
      · intro a7
        refine MF.callVI (As := [.ref (ead E t1), .int a7]) C (R_X4_takeItem hD t1 a7 ht1 s5) m_X4_takeItem k_X4_43 kO_49 rfl (by decide) e_X4_readInto_46 rfl rfl (Nat.le_of_ble_eq_true rfl) (fun v9 s10 => ?_)
        refine MF.if_ne (tgt := 55) C e_X4_readInto_49 (by decide) (fun _ => ?_) (fun _ => ?_)
        · refine MF.iinc (v := (nI 1)) (lv' := [(0, .ref (ead E 49)), (1, .ref (ead E t1)), (2, .int (i2 + (nI 1)))]) C e_X4_readInto_55 2 rfl rfl (by decide) rfl ?_
          refine MF.goto (tgt := 7) C e_X4_readInto_58 (by decide) ?_
          exact hself4 (i2 + (nI 1)) s10
        · refine MF.goto (tgt := 61) C e_X4_readInto_52 (by decide) ?_
          refine MF.bipush (v := (-10 : Int32)) C e_X4_readInto_61 (by decide) ?_
          refine MF.aload_n C e_X4_readInto_63 0 rfl rfl ?_
          refine MF.get C cf_X4 l_X4_28 e_X4_readInto_64 kF_49_5 ?_
          refine MF.isub C e_X4_readInto_67 ?_
          exact MF.iret C e_X4_readInto_68
      refine MF.if_ne (tgt := 45) C e_X4_readInto_38 (by decide) (fun _ => ?_) (fun _ => ?_)
      · refine MF.iconst (v := (nI 0)) C e_X4_readInto_45 rfl ?_
        exact hj8 (nI 0)
      · refine MF.iconst (v := (nI 1)) C e_X4_readInto_41 rfl ?_
        refine MF.goto (tgt := 46) C e_X4_readInto_42 (by decide) ?_
        exact hj8 (nI 1)
    refine MF.if_ne (tgt := 35) C e_X4_readInto_22 (by decide) (fun _ => ?_) (fun _ => ?_)
    · exact hj6 ()
    · refine MF.iload_n C e_X4_readInto_25 2 rfl rfl ?_
      refine MF.if_le (tgt := 35) C e_X4_readInto_26 (by decide) (fun _ => ?_) (fun _ => ?_)
      · exact hj6 ()
      · refine MF.aload_n C e_X4_readInto_29 1 rfl rfl ?_
        refine MF.callVU (As := []) C (R_X5_forgetPast hD t1 ht1 s5) m_X5_forgetPast k_X4_38 (iTo.o ht1) rfl (by decide) e_X4_readInto_30 rfl rfl (Nat.le_of_ble_eq_true rfl) (fun s11 => ?_)
        refine MF.iload_n C e_X4_readInto_33 2 rfl rfl ?_
        exact MF.iret C e_X4_readInto_34
theorem e_X5_dropEvent_0 : Dc cX5_dropEvent 0 (.aload_n 0) 1 1 := ⟨by decide +kernel, rfl⟩
theorem e_X5_dropEvent_1 : Dc cX5_dropEvent 1 (.invokevirtual 72) 3 4 := ⟨by decide +kernel, rfl⟩
theorem e_X5_dropEvent_4 : Dc cX5_dropEvent 4 (.aload_n 0) 1 5 := ⟨by decide +kernel, rfl⟩
theorem e_X5_dropEvent_5 : Dc cX5_dropEvent 5 (.getfield 20) 3 8 := ⟨by decide +kernel, rfl⟩
theorem e_X5_dropEvent_8 : Dc cX5_dropEvent 8 (.iload_n 1) 1 9 := ⟨by decide +kernel, rfl⟩
theorem e_X5_dropEvent_9 : Dc cX5_dropEvent 9 (.invokevirtual 79) 3 12 := ⟨by decide +kernel, rfl⟩
theorem e_X5_dropEvent_12 : Dc cX5_dropEvent 12 (.return_) 1 13 := ⟨by decide +kernel, rfl⟩
set_option maxHeartbeats 4000000 in
set_option maxRecDepth 20000 in
theorem R_X5_dropEvent (hD : DD E) (t : Nat) (x1 : Int32) (ht : iTo t) (s : Sg) : ∀ τ, (f_X5_dropEvent t x1 s) = some τ → RV l E 4 M_X5_dropEvent [.ref (ead E t), .int x1] s τ := by
  refine ofU hD (by decide +kernel) (Nat.le_of_ble_eq_true rfl) (fun X C => ?_)
  show MF l E X (fun q : Sg => QV E X q) (f_X5_dropEvent t x1 s) s 0 [(0, .ref (ead E t)), (1, .int x1)] []
  unfold f_X5_dropEvent
  refine MF.aload_n C e_X5_dropEvent_0 0 rfl rfl ?_
  refine MF.callVU (As := []) C (R_X5_remember hD t ht s) m_X5_remember k_X5_72 (iTo.o ht) rfl (by decide) e_X5_dropEvent_1 rfl rfl (Nat.le_of_ble_eq_true rfl) (fun s1 => ?_)
  refine MF.aload_n C e_X5_dropEvent_4 0 rfl rfl ?_
  refine MF.getR (j := (t + 3)) C cf_X5 l_X5_20 e_X5_dropEvent_5 (iTo.f1 ht) ?_
  refine MF.iload_n C e_X5_dropEvent_8 1 rfl rfl ?_
  refine MF.callVU (As := [.int x1]) C (R_X2_drop hD (t + 3) x1 (iTo.o1 ht) s1) m_X2_drop k_X5_79 (iRo.o (iTo.o1 ht)) rfl (by decide) e_X5_dropEvent_9 rfl rfl (Nat.le_of_ble_eq_true rfl) (fun s2 => ?_)
  exact MF.vret C e_X5_dropEvent_12
theorem e_X5_changeLaw_0 : Dc cX5_changeLaw 0 (.aload_n 0) 1 1 := ⟨by decide +kernel, rfl⟩
theorem e_X5_changeLaw_1 : Dc cX5_changeLaw 1 (.getfield 39) 3 4 := ⟨by decide +kernel, rfl⟩
theorem e_X5_changeLaw_4 : Dc cX5_changeLaw 4 (.istore_n 2) 1 5 := ⟨by decide +kernel, rfl⟩
theorem e_X5_changeLaw_5 : Dc cX5_changeLaw 5 (.aload_n 0) 1 6 := ⟨by decide +kernel, rfl⟩
theorem e_X5_changeLaw_6 : Dc cX5_changeLaw 6 (.invokevirtual 72) 3 9 := ⟨by decide +kernel, rfl⟩
theorem e_X5_changeLaw_9 : Dc cX5_changeLaw 9 (.aload_n 0) 1 10 := ⟨by decide +kernel, rfl⟩
theorem e_X5_changeLaw_10 : Dc cX5_changeLaw 10 (.iload_n 1) 1 11 := ⟨by decide +kernel, rfl⟩
theorem e_X5_changeLaw_11 : Dc cX5_changeLaw 11 (.putfield 39) 3 14 := ⟨by decide +kernel, rfl⟩
theorem e_X5_changeLaw_14 : Dc cX5_changeLaw 14 (.iload_n 2) 1 15 := ⟨by decide +kernel, rfl⟩
theorem e_X5_changeLaw_15 : Dc cX5_changeLaw 15 (.ireturn) 1 16 := ⟨by decide +kernel, rfl⟩
set_option maxHeartbeats 4000000 in
set_option maxRecDepth 20000 in
theorem R_X5_changeLaw (hD : DD E) (t : Nat) (x1 : Int32) (ht : iTo t) (s : Sg) : ∀ v τ, (f_X5_changeLaw t x1 s) = some (v, τ) → RI l E 4 M_X5_changeLaw [.ref (ead E t), .int x1] s v τ := by
  refine ofI hD (by decide +kernel) (Nat.le_of_ble_eq_true rfl) (fun X C => ?_)
  show MF l E X (fun q : Int32 × Sg => QI E X q.1 q.2) (f_X5_changeLaw t x1 s) s 0 [(0, .ref (ead E t)), (1, .int x1)] []
  unfold f_X5_changeLaw
  refine MF.aload_n C e_X5_changeLaw_0 0 rfl rfl ?_
  refine MF.get C cf_X5 l_X5_39 e_X5_changeLaw_1 (iTo.f7 ht) ?_
  refine MF.nmI (fun v1 => ?_)
  refine MF.istore_n (lv' := [(0, .ref (ead E t)), (1, .int x1), (2, .int v1)]) C e_X5_changeLaw_4 (by decide) rfl ?_
  refine MF.aload_n C e_X5_changeLaw_5 0 rfl rfl ?_
  refine MF.callVU (As := []) C (R_X5_remember hD t ht s) m_X5_remember k_X5_72 (iTo.o ht) rfl (by decide) e_X5_changeLaw_6 rfl rfl (Nat.le_of_ble_eq_true rfl) (fun s2 => ?_)
  refine MF.aload_n C e_X5_changeLaw_9 0 rfl rfl ?_
  refine MF.iload_n C e_X5_changeLaw_10 1 rfl rfl ?_
  refine MF.put C cf_X5 l_X5_39 p_X5_7 e_X5_changeLaw_11 (iTo.f7 ht) rfl ?_
  refine MF.nmS (fun s3 => ?_)
  refine MF.iload_n C e_X5_changeLaw_14 2 rfl rfl ?_
  exact MF.iret C e_X5_changeLaw_15
theorem e_X5_goBack_0 : Dc cX5_goBack 0 (.aload_n 0) 1 1 := ⟨by decide +kernel, rfl⟩
theorem e_X5_goBack_1 : Dc cX5_goBack 1 (.getfield 26) 3 4 := ⟨by decide +kernel, rfl⟩
theorem e_X5_goBack_4 : Dc cX5_goBack 4 (.invokevirtual 50) 3 7 := ⟨by decide +kernel, rfl⟩
theorem e_X5_goBack_7 : Dc cX5_goBack 7 (.iconst 1) 1 8 := ⟨by decide +kernel, rfl⟩
theorem e_X5_goBack_8 : Dc cX5_goBack 8 (.isub) 1 9 := ⟨by decide +kernel, rfl⟩
theorem e_X5_goBack_9 : Dc cX5_goBack 9 (.istore_n 1) 1 10 := ⟨by decide +kernel, rfl⟩
theorem e_X5_goBack_10 : Dc cX5_goBack 10 (.aload_n 0) 1 11 := ⟨by decide +kernel, rfl⟩
theorem e_X5_goBack_11 : Dc cX5_goBack 11 (.aload_n 0) 1 12 := ⟨by decide +kernel, rfl⟩
theorem e_X5_goBack_12 : Dc cX5_goBack 12 (.getfield 26) 3 15 := ⟨by decide +kernel, rfl⟩
theorem e_X5_goBack_15 : Dc cX5_goBack 15 (.iload_n 1) 1 16 := ⟨by decide +kernel, rfl⟩
theorem e_X5_goBack_16 : Dc cX5_goBack 16 (.iconst 0) 1 17 := ⟨by decide +kernel, rfl⟩
theorem e_X5_goBack_17 : Dc cX5_goBack 17 (.invokevirtual 83) 3 20 := ⟨by decide +kernel, rfl⟩
theorem e_X5_goBack_20 : Dc cX5_goBack 20 (.putfield 39) 3 23 := ⟨by decide +kernel, rfl⟩
theorem e_X5_goBack_23 : Dc cX5_goBack 23 (.aload_n 0) 1 24 := ⟨by decide +kernel, rfl⟩
theorem e_X5_goBack_24 : Dc cX5_goBack 24 (.getfield 20) 3 27 := ⟨by decide +kernel, rfl⟩
theorem e_X5_goBack_27 : Dc cX5_goBack 27 (.invokevirtual 65) 3 30 := ⟨by decide +kernel, rfl⟩
theorem e_X5_goBack_30 : Dc cX5_goBack 30 (.iconst 0) 1 31 := ⟨by decide +kernel, rfl⟩
theorem e_X5_goBack_31 : Dc cX5_goBack 31 (.istore_n 2) 1 32 := ⟨by decide +kernel, rfl⟩
theorem e_X5_goBack_32 : Dc cX5_goBack 32 (.iload_n 2) 1 33 := ⟨by decide +kernel, rfl⟩
theorem e_X5_goBack_33 : Dc cX5_goBack 33 (.aload_n 0) 1 34 := ⟨by decide +kernel, rfl⟩
theorem e_X5_goBack_34 : Dc cX5_goBack 34 (.getfield 26) 3 37 := ⟨by decide +kernel, rfl⟩
theorem e_X5_goBack_37 : Dc cX5_goBack 37 (.iload_n 1) 1 38 := ⟨by decide +kernel, rfl⟩
theorem e_X5_goBack_38 : Dc cX5_goBack 38 (.iconst 1) 1 39 := ⟨by decide +kernel, rfl⟩
theorem e_X5_goBack_39 : Dc cX5_goBack 39 (.invokevirtual 83) 3 42 := ⟨by decide +kernel, rfl⟩
theorem e_X5_goBack_42 : Dc cX5_goBack 42 (.if_icmp .ge 56) 3 45 := ⟨by decide +kernel, rfl⟩
theorem e_X5_goBack_45 : Dc cX5_goBack 45 (.iconst 0) 1 46 := ⟨by decide +kernel, rfl⟩
theorem e_X5_goBack_46 : Dc cX5_goBack 46 (.istore_n 3) 1 47 := ⟨by decide +kernel, rfl⟩
theorem e_X5_goBack_47 : Dc cX5_goBack 47 (.iload_n 3) 1 48 := ⟨by decide +kernel, rfl⟩
theorem e_X5_goBack_48 : Dc cX5_goBack 48 (.bipush 6) 2 50 := ⟨by decide +kernel, rfl⟩
theorem e_X5_goBack_50 : Dc cX5_goBack 50 (.if_icmp .ge 31) 3 53 := ⟨by decide +kernel, rfl⟩
theorem e_X5_goBack_53 : Dc cX5_goBack 53 (.aload_n 0) 1 54 := ⟨by decide +kernel, rfl⟩
theorem e_X5_goBack_54 : Dc cX5_goBack 54 (.getfield 36) 3 57 := ⟨by decide +kernel, rfl⟩
theorem e_X5_goBack_57 : Dc cX5_goBack 57 (.iload_n 3) 1 58 := ⟨by decide +kernel, rfl⟩
theorem e_X5_goBack_58 : Dc cX5_goBack 58 (.aload_n 0) 1 59 := ⟨by decide +kernel, rfl⟩
theorem e_X5_goBack_59 : Dc cX5_goBack 59 (.getfield 26) 3 62 := ⟨by decide +kernel, rfl⟩
theorem e_X5_goBack_62 : Dc cX5_goBack 62 (.iload_n 1) 1 63 := ⟨by decide +kernel, rfl⟩
theorem e_X5_goBack_63 : Dc cX5_goBack 63 (.iconst 2) 1 64 := ⟨by decide +kernel, rfl⟩
theorem e_X5_goBack_64 : Dc cX5_goBack 64 (.iload_n 2) 1 65 := ⟨by decide +kernel, rfl⟩
theorem e_X5_goBack_65 : Dc cX5_goBack 65 (.bipush 6) 2 67 := ⟨by decide +kernel, rfl⟩
theorem e_X5_goBack_67 : Dc cX5_goBack 67 (.imul) 1 68 := ⟨by decide +kernel, rfl⟩
theorem e_X5_goBack_68 : Dc cX5_goBack 68 (.iadd) 1 69 := ⟨by decide +kernel, rfl⟩
theorem e_X5_goBack_69 : Dc cX5_goBack 69 (.iload_n 3) 1 70 := ⟨by decide +kernel, rfl⟩
theorem e_X5_goBack_70 : Dc cX5_goBack 70 (.iadd) 1 71 := ⟨by decide +kernel, rfl⟩
theorem e_X5_goBack_71 : Dc cX5_goBack 71 (.invokevirtual 83) 3 74 := ⟨by decide +kernel, rfl⟩
theorem e_X5_goBack_74 : Dc cX5_goBack 74 (.iastore) 1 75 := ⟨by decide +kernel, rfl⟩
theorem e_X5_goBack_75 : Dc cX5_goBack 75 (.iinc 3 1) 3 78 := ⟨by decide +kernel, rfl⟩
theorem e_X5_goBack_78 : Dc cX5_goBack 78 (.goto (-31)) 3 81 := ⟨by decide +kernel, rfl⟩
theorem e_X5_goBack_81 : Dc cX5_goBack 81 (.aload_n 0) 1 82 := ⟨by decide +kernel, rfl⟩
theorem e_X5_goBack_82 : Dc cX5_goBack 82 (.getfield 20) 3 85 := ⟨by decide +kernel, rfl⟩
theorem e_X5_goBack_85 : Dc cX5_goBack 85 (.aload_n 0) 1 86 := ⟨by decide +kernel, rfl⟩
theorem e_X5_goBack_86 : Dc cX5_goBack 86 (.getfield 36) 3 89 := ⟨by decide +kernel, rfl⟩
theorem e_X5_goBack_89 : Dc cX5_goBack 89 (.invokevirtual 68) 3 92 := ⟨by decide +kernel, rfl⟩
theorem e_X5_goBack_92 : Dc cX5_goBack 92 (.iinc 2 1) 3 95 := ⟨by decide +kernel, rfl⟩
theorem e_X5_goBack_95 : Dc cX5_goBack 95 (.goto (-63)) 3 98 := ⟨by decide +kernel, rfl⟩
theorem e_X5_goBack_98 : Dc cX5_goBack 98 (.aload_n 0) 1 99 := ⟨by decide +kernel, rfl⟩
theorem e_X5_goBack_99 : Dc cX5_goBack 99 (.getfield 26) 3 102 := ⟨by decide +kernel, rfl⟩
theorem e_X5_goBack_102 : Dc cX5_goBack 102 (.iload_n 1) 1 103 := ⟨by decide +kernel, rfl⟩
theorem e_X5_goBack_103 : Dc cX5_goBack 103 (.invokevirtual 79) 3 106 := ⟨by decide +kernel, rfl⟩
theorem e_X5_goBack_106 : Dc cX5_goBack 106 (.return_) 1 107 := ⟨by decide +kernel, rfl⟩
set_option maxHeartbeats 4000000 in
set_option maxRecDepth 20000 in
theorem R_X5_goBack (hD : DD E) (t : Nat) (ht : iTo t) (s : Sg) : ∀ τ, (f_X5_goBack t s) = some τ → RV l E 3 M_X5_goBack [.ref (ead E t)] s τ := by
  refine ofU hD (by decide +kernel) (Nat.le_of_ble_eq_true rfl) (fun X C => ?_)
  show MF l E X (fun q : Sg => QV E X q) (f_X5_goBack t s) s 0 [(0, .ref (ead E t))] []
  unfold f_X5_goBack
  refine MF.aload_n C e_X5_goBack_0 0 rfl rfl ?_
  refine MF.getR (j := (t + 7)) C cf_X5 l_X5_26 e_X5_goBack_1 (iTo.f3 ht) ?_
  refine MF.callVP (As := []) C (R_X2_size hD (t + 7) (iTo.o3 ht) s) m_X2_size k_X5_50 (iRo.o (iTo.o3 ht)) rfl (by decide) e_X5_goBack_4 rfl rfl (Nat.le_of_ble_eq_true rfl) (fun v1 => ?_)
  refine MF.iconst (v := (nI 1)) C e_X5_goBack_7 rfl ?_
  refine MF.isub C e_X5_goBack_8 ?_
  refine MF.nmI (fun v2 => ?_)
  refine MF.istore_n (lv' := [(0, .ref (ead E t)), (1, .int v2)]) C e_X5_goBack_9 (by decide) rfl ?_
  refine MF.aload_n C e_X5_goBack_10 0 rfl rfl ?_
  refine MF.aload_n C e_X5_goBack_11 0 rfl rfl ?_
  refine MF.getR (j := (t + 7)) C cf_X5 l_X5_26 e_X5_goBack_12 (iTo.f3 ht) ?_
  refine MF.iload_n C e_X5_goBack_15 1 rfl rfl ?_
  refine MF.iconst (v := (nI 0)) C e_X5_goBack_16 rfl ?_
  refine MF.callVP (As := [.int v2, .int (nI 0)]) C (R_X2_cell hD (t + 7) v2 (nI 0) (iTo.o3 ht) s) m_X2_cell k_X5_83 (iRo.o (iTo.o3 ht)) rfl (by decide) e_X5_goBack_17 rfl rfl (Nat.le_of_ble_eq_true rfl) (fun v3 => ?_)
  refine MF.put C cf_X5 l_X5_39 p_X5_7 e_X5_goBack_20 (iTo.f7 ht) rfl ?_
  refine MF.nmS (fun s4 => ?_)
  refine MF.aload_n C e_X5_goBack_23 0 rfl rfl ?_
  refine MF.getR (j := (t + 3)) C cf_X5 l_X5_20 e_X5_goBack_24 (iTo.f1 ht) ?_
  refine MF.callVU (As := []) C (R_X2_empty hD (t + 3) (iTo.o1 ht) s4) m_X2_empty k_X5_65 (iRo.o (iTo.o1 ht)) rfl (by decide) e_X5_goBack_27 rfl rfl (Nat.le_of_ble_eq_true rfl) (fun s5 => ?_)
  refine MF.iconst (v := (nI 0)) C e_X5_goBack_30 rfl ?_
  refine MF.istore_n (lv' := [(0, .ref (ead E t)), (1, .int v2), (2, .int (nI 0))]) C e_X5_goBack_31 (by decide) rfl ?_
  refine MF.loop2 (fun i6 s7 => s7) (fun i6 s7 => [(0, .ref (ead E t)), (1, .int v2), (2, .int i6)]) (fun self8 hself8 i6 s7 => ?_) fu (nI 0) s5
  unfold b_X5_goBack_32
  refine MF.iload_n C e_X5_goBack_32 2 rfl rfl ?_
  refine MF.aload_n C e_X5_goBack_33 0 rfl rfl ?_
  refine MF.getR (j := (t + 7)) C cf_X5 l_X5_26 e_X5_goBack_34 (iTo.f3 ht) ?_
  refine MF.iload_n C e_X5_goBack_37 1 rfl rfl ?_
  refine MF.iconst (v := (nI 1)) C e_X5_goBack_38 rfl ?_
  refine MF.callVP (As := [.int v2, .int (nI 1)]) C (R_X2_cell hD (t + 7) v2 (nI 1) (iTo.o3 ht) s7) m_X2_cell k_X5_83 (iRo.o (iTo.o3 ht)) rfl (by decide) e_X5_goBack_39 rfl rfl (Nat.le_of_ble_eq_true rfl) (fun v9 => ?_)
  refine MF.icmp_ge (tgt := 98) C e_X5_goBack_42 (by decide) (fun _ => ?_) (fun _ => ?_)
  · refine MF.aload_n C e_X5_goBack_98 0 rfl rfl ?_
    refine MF.getR (j := (t + 7)) C cf_X5 l_X5_26 e_X5_goBack_99 (iTo.f3 ht) ?_
    refine MF.iload_n C e_X5_goBack_102 1 rfl rfl ?_
    refine MF.callVU (As := [.int v2]) C (R_X2_drop hD (t + 7) v2 (iTo.o3 ht) s7) m_X2_drop k_X5_79 (iRo.o (iTo.o3 ht)) rfl (by decide) e_X5_goBack_103 rfl rfl (Nat.le_of_ble_eq_true rfl) (fun s10 => ?_)
    exact MF.vret C e_X5_goBack_106
  · refine MF.iconst (v := (nI 0)) C e_X5_goBack_45 rfl ?_
    refine MF.istore_n (lv' := [(0, .ref (ead E t)), (1, .int v2), (2, .int i6), (3, .int (nI 0))]) C e_X5_goBack_46 (by decide) rfl ?_
    refine MF.join (fun j : Sg → Option Sg => ∀ (s11 : Sg), MF l E X (fun q : Sg => QV E X q) (j s11) s11 81 [(0, .ref (ead E t)), (1, .int v2), (2, .int i6)] []) ?_ (fun j12 hj12 => ?_)
    · intro s11
      refine MF.aload_n C e_X5_goBack_81 0 rfl rfl ?_
      refine MF.getR (j := (t + 3)) C cf_X5 l_X5_20 e_X5_goBack_82 (iTo.f1 ht) ?_
      refine MF.aload_n C e_X5_goBack_85 0 rfl rfl ?_
      refine MF.getR (j := (t + 11)) C cf_X5 l_X5_36 e_X5_goBack_86 (iTo.f6 ht) ?_
      refine MF.callVU (As := [.ref (ead E (t + 11))]) C (R_X2_add hD (t + 3) (t + 11) (iTo.o1 ht) (iTo.o6 ht) s11) m_X2_add k_X5_68 (iRo.o (iTo.o1 ht)) rfl (by decide) e_X5_goBack_89 rfl rfl (Nat.le_of_ble_eq_true rfl) (fun s13 => ?_)
      refine MF.iinc (v := (nI 1)) (lv' := [(0, .ref (ead E t)), (1, .int v2), (2, .int (i6 + (nI 1)))]) C e_X5_goBack_92 2 rfl rfl (by decide) rfl ?_
      refine MF.goto (tgt := 32) C e_X5_goBack_95 (by decide) ?_
      exact hself8 (i6 + (nI 1)) s13
    refine MF.loop2 (fun i14 s15 => s15) (fun i14 s15 => [(0, .ref (ead E t)), (1, .int v2), (2, .int i6), (3, .int i14)]) (fun self16 hself16 i14 s15 => ?_) fu (nI 0) s7
    unfold b_X5_goBack_47
    refine MF.iload_n C e_X5_goBack_47 3 rfl rfl ?_
    refine MF.bipush (v := (nI 6)) C e_X5_goBack_48 (by decide) ?_
    refine MF.icmp_ge (tgt := 81) C e_X5_goBack_50 (by decide) (fun _ => ?_) (fun _ => ?_)
    · refine MF.sub [0, 1, 2] rfl ?_
      exact hj12 s15
    · refine MF.aload_n C e_X5_goBack_53 0 rfl rfl ?_
      refine MF.getR (j := (t + 11)) C cf_X5 l_X5_36 e_X5_goBack_54 (iTo.f6 ht) ?_
      refine MF.iload_n C e_X5_goBack_57 3 rfl rfl ?_
      refine MF.aload_n C e_X5_goBack_58 0 rfl rfl ?_
      refine MF.getR (j := (t + 7)) C cf_X5 l_X5_26 e_X5_goBack_59 (iTo.f3 ht) ?_
      refine MF.iload_n C e_X5_goBack_62 1 rfl rfl ?_
      refine MF.iconst (v := (nI 2)) C e_X5_goBack_63 rfl ?_
      refine MF.iload_n C e_X5_goBack_64 2 rfl rfl ?_
      refine MF.bipush (v := (nI 6)) C e_X5_goBack_65 (by decide) ?_
      refine MF.imul C e_X5_goBack_67 ?_
      refine MF.iadd C e_X5_goBack_68 ?_
      refine MF.iload_n C e_X5_goBack_69 3 rfl rfl ?_
      refine MF.iadd C e_X5_goBack_70 ?_
      refine MF.callVP (As := [.int v2, .int (((nI 2) + (i6 * (nI 6))) + i14)]) C (R_X2_cell hD (t + 7) v2 (((nI 2) + (i6 * (nI 6))) + i14) (iTo.o3 ht) s15) m_X2_cell k_X5_83 (iRo.o (iTo.o3 ht)) rfl (by decide) e_X5_goBack_71 rfl rfl (Nat.le_of_ble_eq_true rfl) (fun v17 => ?_)
      refine MF.iast C e_X5_goBack_74 (iTo.o6 ht) (fun s18 => ?_)
      refine MF.iinc (v := (nI 1)) (lv' := [(0, .ref (ead E t)), (1, .int v2), (2, .int i6), (3, .int (i14 + (nI 1)))]) C e_X5_goBack_75 3 rfl rfl (by decide) rfl ?_
      refine MF.goto (tgt := 47) C e_X5_goBack_78 (by decide) ?_
      exact hself16 (i14 + (nI 1)) s18
theorem e_X5_copy_0 : Dc cX5_copy 0 (.aload_n 0) 1 1 := ⟨by decide +kernel, rfl⟩
theorem e_X5_copy_1 : Dc cX5_copy 1 (.getfield 16) 3 4 := ⟨by decide +kernel, rfl⟩
theorem e_X5_copy_4 : Dc cX5_copy 4 (.aload_n 1) 1 5 := ⟨by decide +kernel, rfl⟩
theorem e_X5_copy_5 : Dc cX5_copy 5 (.getfield 16) 3 8 := ⟨by decide +kernel, rfl⟩
theorem e_X5_copy_8 : Dc cX5_copy 8 (.invokevirtual 104) 3 11 := ⟨by decide +kernel, rfl⟩
theorem e_X5_copy_11 : Dc cX5_copy 11 (.aload_n 0) 1 12 := ⟨by decide +kernel, rfl⟩
theorem e_X5_copy_12 : Dc cX5_copy 12 (.getfield 20) 3 15 := ⟨by decide +kernel, rfl⟩
theorem e_X5_copy_15 : Dc cX5_copy 15 (.aload_n 1) 1 16 := ⟨by decide +kernel, rfl⟩
theorem e_X5_copy_16 : Dc cX5_copy 16 (.getfield 20) 3 19 := ⟨by decide +kernel, rfl⟩
theorem e_X5_copy_19 : Dc cX5_copy 19 (.invokevirtual 104) 3 22 := ⟨by decide +kernel, rfl⟩
theorem e_X5_copy_22 : Dc cX5_copy 22 (.aload_n 0) 1 23 := ⟨by decide +kernel, rfl⟩
theorem e_X5_copy_23 : Dc cX5_copy 23 (.getfield 23) 3 26 := ⟨by decide +kernel, rfl⟩
theorem e_X5_copy_26 : Dc cX5_copy 26 (.aload_n 1) 1 27 := ⟨by decide +kernel, rfl⟩
theorem e_X5_copy_27 : Dc cX5_copy 27 (.getfield 23) 3 30 := ⟨by decide +kernel, rfl⟩
theorem e_X5_copy_30 : Dc cX5_copy 30 (.invokevirtual 104) 3 33 := ⟨by decide +kernel, rfl⟩
theorem e_X5_copy_33 : Dc cX5_copy 33 (.aload_n 0) 1 34 := ⟨by decide +kernel, rfl⟩
theorem e_X5_copy_34 : Dc cX5_copy 34 (.getfield 26) 3 37 := ⟨by decide +kernel, rfl⟩
theorem e_X5_copy_37 : Dc cX5_copy 37 (.aload_n 1) 1 38 := ⟨by decide +kernel, rfl⟩
theorem e_X5_copy_38 : Dc cX5_copy 38 (.getfield 26) 3 41 := ⟨by decide +kernel, rfl⟩
theorem e_X5_copy_41 : Dc cX5_copy 41 (.invokevirtual 104) 3 44 := ⟨by decide +kernel, rfl⟩
theorem e_X5_copy_44 : Dc cX5_copy 44 (.aload_n 1) 1 45 := ⟨by decide +kernel, rfl⟩
theorem e_X5_copy_45 : Dc cX5_copy 45 (.getfield 29) 3 48 := ⟨by decide +kernel, rfl⟩
theorem e_X5_copy_48 : Dc cX5_copy 48 (.iconst 0) 1 49 := ⟨by decide +kernel, rfl⟩
theorem e_X5_copy_49 : Dc cX5_copy 49 (.aload_n 0) 1 50 := ⟨by decide +kernel, rfl⟩
theorem e_X5_copy_50 : Dc cX5_copy 50 (.getfield 29) 3 53 := ⟨by decide +kernel, rfl⟩
theorem e_X5_copy_53 : Dc cX5_copy 53 (.iconst 0) 1 54 := ⟨by decide +kernel, rfl⟩
theorem e_X5_copy_54 : Dc cX5_copy 54 (.bipush 16) 2 56 := ⟨by decide +kernel, rfl⟩
theorem e_X5_copy_56 : Dc cX5_copy 56 (.invokestatic 108) 3 59 := ⟨by decide +kernel, rfl⟩
theorem e_X5_copy_59 : Dc cX5_copy 59 (.aload_n 0) 1 60 := ⟨by decide +kernel, rfl⟩
theorem e_X5_copy_60 : Dc cX5_copy 60 (.aload_n 1) 1 61 := ⟨by decide +kernel, rfl⟩
theorem e_X5_copy_61 : Dc cX5_copy 61 (.getfield 39) 3 64 := ⟨by decide +kernel, rfl⟩
theorem e_X5_copy_64 : Dc cX5_copy 64 (.putfield 39) 3 67 := ⟨by decide +kernel, rfl⟩
theorem e_X5_copy_67 : Dc cX5_copy 67 (.return_) 1 68 := ⟨by decide +kernel, rfl⟩
set_option maxHeartbeats 4000000 in
set_option maxRecDepth 20000 in
theorem R_X5_copy (hD : DD E) (t : Nat) (t1 : Nat) (ht : iTo t) (ht1 : iTo t1) (s : Sg) : ∀ τ, (f_X5_copy t t1 s) = some τ → RV l E 2 M_X5_copy [.ref (ead E t), .ref (ead E t1)] s τ := by
  refine ofU hD (by decide +kernel) (Nat.le_of_ble_eq_true rfl) (fun X C => ?_)
  show MF l E X (fun q : Sg => QV E X q) (f_X5_copy t t1 s) s 0 [(0, .ref (ead E t)), (1, .ref (ead E t1))] []
  unfold f_X5_copy
  refine MF.aload_n C e_X5_copy_0 0 rfl rfl ?_
  refine MF.getR (j := (t + 1)) C cf_X5 l_X5_16 e_X5_copy_1 (iTo.f0 ht) ?_
  refine MF.aload_n C e_X5_copy_4 1 rfl rfl ?_
  refine MF.getR (j := (t1 + 1)) C cf_X5 l_X5_16 e_X5_copy_5 (iTo.f0 ht1) ?_
  refine MF.callVU (As := [.ref (ead E (t1 + 1))]) C (R_X2_copy hD (t + 1) (t1 + 1) (iTo.o0 ht) (iTo.o0 ht1) s) m_X2_copy k_X5_104 (iRo.o (iTo.o0 ht)) rfl (by decide) e_X5_copy_8 rfl rfl (Nat.le_of_ble_eq_true rfl) (fun s1 => ?_)
  refine MF.aload_n C e_X5_copy_11 0 rfl rfl ?_
  refine MF.getR (j := (t + 3)) C cf_X5 l_X5_20 e_X5_copy_12 (iTo.f1 ht) ?_
  refine MF.aload_n C e_X5_copy_15 1 rfl rfl ?_
  refine MF.getR (j := (t1 + 3)) C cf_X5 l_X5_20 e_X5_copy_16 (iTo.f1 ht1) ?_
  refine MF.callVU (As := [.ref (ead E (t1 + 3))]) C (R_X2_copy hD (t + 3) (t1 + 3) (iTo.o1 ht) (iTo.o1 ht1) s1) m_X2_copy k_X5_104 (iRo.o (iTo.o1 ht)) rfl (by decide) e_X5_copy_19 rfl rfl (Nat.le_of_ble_eq_true rfl) (fun s2 => ?_)
  refine MF.aload_n C e_X5_copy_22 0 rfl rfl ?_
  refine MF.getR (j := (t + 5)) C cf_X5 l_X5_23 e_X5_copy_23 (iTo.f2 ht) ?_
  refine MF.aload_n C e_X5_copy_26 1 rfl rfl ?_
  refine MF.getR (j := (t1 + 5)) C cf_X5 l_X5_23 e_X5_copy_27 (iTo.f2 ht1) ?_
  refine MF.callVU (As := [.ref (ead E (t1 + 5))]) C (R_X2_copy hD (t + 5) (t1 + 5) (iTo.o2 ht) (iTo.o2 ht1) s2) m_X2_copy k_X5_104 (iRo.o (iTo.o2 ht)) rfl (by decide) e_X5_copy_30 rfl rfl (Nat.le_of_ble_eq_true rfl) (fun s3 => ?_)
  refine MF.aload_n C e_X5_copy_33 0 rfl rfl ?_
  refine MF.getR (j := (t + 7)) C cf_X5 l_X5_26 e_X5_copy_34 (iTo.f3 ht) ?_
  refine MF.aload_n C e_X5_copy_37 1 rfl rfl ?_
  refine MF.getR (j := (t1 + 7)) C cf_X5 l_X5_26 e_X5_copy_38 (iTo.f3 ht1) ?_
  refine MF.callVU (As := [.ref (ead E (t1 + 7))]) C (R_X2_copy hD (t + 7) (t1 + 7) (iTo.o3 ht) (iTo.o3 ht1) s3) m_X2_copy k_X5_104 (iRo.o (iTo.o3 ht)) rfl (by decide) e_X5_copy_41 rfl rfl (Nat.le_of_ble_eq_true rfl) (fun s4 => ?_)
  refine MF.aload_n C e_X5_copy_44 1 rfl rfl ?_
  refine MF.getR (j := (t1 + 9)) C cf_X5 l_X5_29 e_X5_copy_45 (iTo.f4 ht1) ?_
  refine MF.iconst (v := (nI 0)) C e_X5_copy_48 rfl ?_
  refine MF.aload_n C e_X5_copy_49 0 rfl rfl ?_
  refine MF.getR (j := (t + 9)) C cf_X5 l_X5_29 e_X5_copy_50 (iTo.f4 ht) ?_
  refine MF.iconst (v := (nI 0)) C e_X5_copy_53 rfl ?_
  refine MF.bipush (v := (nI 16)) C e_X5_copy_54 (by decide) ?_
  refine MF.copy C k_X5_108 e_X5_copy_56 (iTo.o4 ht1) (iTo.o4 ht) (by decide) (Nat.le_of_ble_eq_true rfl) (fun s5 => ?_)
  refine MF.aload_n C e_X5_copy_59 0 rfl rfl ?_
  refine MF.aload_n C e_X5_copy_60 1 rfl rfl ?_
  refine MF.get C cf_X5 l_X5_39 e_X5_copy_61 (iTo.f7 ht1) ?_
  refine MF.put C cf_X5 l_X5_39 p_X5_7 e_X5_copy_64 (iTo.f7 ht) rfl ?_
  refine MF.nmS (fun s6 => ?_)
  exact MF.vret C e_X5_copy_67
theorem e_X5_mixInto_0 : Dc cX5_mixInto 0 (.aload_n 0) 1 1 := ⟨by decide +kernel, rfl⟩
theorem e_X5_mixInto_1 : Dc cX5_mixInto 1 (.getfield 20) 3 4 := ⟨by decide +kernel, rfl⟩
theorem e_X5_mixInto_4 : Dc cX5_mixInto 4 (.aload_n 0) 1 5 := ⟨by decide +kernel, rfl⟩
theorem e_X5_mixInto_5 : Dc cX5_mixInto 5 (.getfield 16) 3 8 := ⟨by decide +kernel, rfl⟩
theorem e_X5_mixInto_8 : Dc cX5_mixInto 8 (.lload_n 1) 1 9 := ⟨by decide +kernel, rfl⟩
theorem e_X5_mixInto_9 : Dc cX5_mixInto 9 (.invokevirtual 114) 3 12 := ⟨by decide +kernel, rfl⟩
theorem e_X5_mixInto_12 : Dc cX5_mixInto 12 (.invokevirtual 114) 3 15 := ⟨by decide +kernel, rfl⟩
theorem e_X5_mixInto_15 : Dc cX5_mixInto 15 (.lstore_n 3) 1 16 := ⟨by decide +kernel, rfl⟩
theorem e_X5_mixInto_16 : Dc cX5_mixInto 16 (.iconst 0) 1 17 := ⟨by decide +kernel, rfl⟩
theorem e_X5_mixInto_17 : Dc cX5_mixInto 17 (.istore 5) 2 19 := ⟨by decide +kernel, rfl⟩
theorem e_X5_mixInto_19 : Dc cX5_mixInto 19 (.iload 5) 2 21 := ⟨by decide +kernel, rfl⟩
theorem e_X5_mixInto_21 : Dc cX5_mixInto 21 (.bipush 16) 2 23 := ⟨by decide +kernel, rfl⟩
theorem e_X5_mixInto_23 : Dc cX5_mixInto 23 (.if_icmp .ge 24) 3 26 := ⟨by decide +kernel, rfl⟩
theorem e_X5_mixInto_26 : Dc cX5_mixInto 26 (.ldc2_w 118) 3 29 := ⟨by decide +kernel, rfl⟩
theorem e_X5_mixInto_29 : Dc cX5_mixInto 29 (.lload_n 3) 1 30 := ⟨by decide +kernel, rfl⟩
theorem e_X5_mixInto_30 : Dc cX5_mixInto 30 (.lmul) 1 31 := ⟨by decide +kernel, rfl⟩
theorem e_X5_mixInto_31 : Dc cX5_mixInto 31 (.aload_n 0) 1 32 := ⟨by decide +kernel, rfl⟩
theorem e_X5_mixInto_32 : Dc cX5_mixInto 32 (.getfield 29) 3 35 := ⟨by decide +kernel, rfl⟩
theorem e_X5_mixInto_35 : Dc cX5_mixInto 35 (.iload 5) 2 37 := ⟨by decide +kernel, rfl⟩
theorem e_X5_mixInto_37 : Dc cX5_mixInto 37 (.iaload) 1 38 := ⟨by decide +kernel, rfl⟩
theorem e_X5_mixInto_38 : Dc cX5_mixInto 38 (.i2l) 1 39 := ⟨by decide +kernel, rfl⟩
theorem e_X5_mixInto_39 : Dc cX5_mixInto 39 (.ladd) 1 40 := ⟨by decide +kernel, rfl⟩
theorem e_X5_mixInto_40 : Dc cX5_mixInto 40 (.lstore_n 3) 1 41 := ⟨by decide +kernel, rfl⟩
theorem e_X5_mixInto_41 : Dc cX5_mixInto 41 (.iinc 5 1) 3 44 := ⟨by decide +kernel, rfl⟩
theorem e_X5_mixInto_44 : Dc cX5_mixInto 44 (.goto (-25)) 3 47 := ⟨by decide +kernel, rfl⟩
theorem e_X5_mixInto_47 : Dc cX5_mixInto 47 (.aload_n 0) 1 48 := ⟨by decide +kernel, rfl⟩
theorem e_X5_mixInto_48 : Dc cX5_mixInto 48 (.getfield 23) 3 51 := ⟨by decide +kernel, rfl⟩
theorem e_X5_mixInto_51 : Dc cX5_mixInto 51 (.lload_n 3) 1 52 := ⟨by decide +kernel, rfl⟩
theorem e_X5_mixInto_52 : Dc cX5_mixInto 52 (.invokevirtual 114) 3 55 := ⟨by decide +kernel, rfl⟩
theorem e_X5_mixInto_55 : Dc cX5_mixInto 55 (.lreturn) 1 56 := ⟨by decide +kernel, rfl⟩
set_option maxHeartbeats 4000000 in
set_option maxRecDepth 20000 in
theorem R_X5_mixInto (hD : DD E) (t : Nat) (x1 : Int64) (ht : iTo t) (s : Sg) : ∀ v, (f_X5_mixInto t x1 s) = some v → RLg l E 1 M_X5_mixInto [.ref (ead E t), .long x1] s v s := by
  refine ofL hD (by decide +kernel) (Nat.le_of_ble_eq_true rfl) (fun X C => ?_)
  show MF l E X (fun q : Int64 => QL E X q s) (f_X5_mixInto t x1 s) s 0 [(0, .ref (ead E t)), (1, .long x1)] []
  unfold f_X5_mixInto
  refine MF.aload_n C e_X5_mixInto_0 0 rfl rfl ?_
  refine MF.getR (j := (t + 3)) C cf_X5 l_X5_20 e_X5_mixInto_1 (iTo.f1 ht) ?_
  refine MF.aload_n C e_X5_mixInto_4 0 rfl rfl ?_
  refine MF.getR (j := (t + 1)) C cf_X5 l_X5_16 e_X5_mixInto_5 (iTo.f0 ht) ?_
  refine MF.lload_n C e_X5_mixInto_8 1 rfl rfl ?_
  refine MF.callVL (As := [.long x1]) C (R_X2_mixInto hD (t + 1) x1 (iTo.o0 ht) s) m_X2_mixInto k_X5_114 (iRo.o (iTo.o0 ht)) rfl (by decide) e_X5_mixInto_9 rfl rfl (Nat.le_of_ble_eq_true rfl) (fun v1 => ?_)
  refine MF.callVL (As := [.long v1]) C (R_X2_mixInto hD (t + 3) v1 (iTo.o1 ht) s) m_X2_mixInto k_X5_114 (iRo.o (iTo.o1 ht)) rfl (by decide) e_X5_mixInto_12 rfl rfl (Nat.le_of_ble_eq_true rfl) (fun v2 => ?_)
  refine MF.lstore_n (lv' := [(0, .ref (ead E t)), (1, .long x1), (3, .long v2)]) C e_X5_mixInto_15 (by decide) rfl ?_
  refine MF.iconst (v := (nI 0)) C e_X5_mixInto_16 rfl ?_
  refine MF.istore (lv' := [(0, .ref (ead E t)), (1, .long x1), (3, .long v2), (5, .int (nI 0))]) C e_X5_mixInto_17 (by decide) rfl ?_
  refine MF.sub [0, 2, 3] rfl ?_
  refine MF.loop2 (fun i3 i4 => s) (fun i3 i4 => [(0, .ref (ead E t)), (3, .long i3), (5, .int i4)]) (fun self5 hself5 i3 i4 => ?_) fu v2 (nI 0)
  unfold b_X5_mixInto_19
  refine MF.iload C e_X5_mixInto_19 2 rfl ?_
  refine MF.bipush (v := (nI 16)) C e_X5_mixInto_21 (by decide) ?_
  refine MF.icmp_ge (tgt := 47) C e_X5_mixInto_23 (by decide) (fun _ => ?_) (fun _ => ?_)
  · refine MF.aload_n C e_X5_mixInto_47 0 rfl rfl ?_
    refine MF.getR (j := (t + 5)) C cf_X5 l_X5_23 e_X5_mixInto_48 (iTo.f2 ht) ?_
    refine MF.lload_n C e_X5_mixInto_51 1 rfl rfl ?_
    refine MF.callVL (As := [.long i3]) C (R_X2_mixInto hD (t + 5) i3 (iTo.o2 ht) s) m_X2_mixInto k_X5_114 (iRo.o (iTo.o2 ht)) rfl (by decide) e_X5_mixInto_52 rfl rfl (Nat.le_of_ble_eq_true rfl) (fun v6 => ?_)
    exact MF.lretp C e_X5_mixInto_55
  · refine MF.ldc2 C e_X5_mixInto_26 t_X5_118 ?_
    refine MF.lload_n C e_X5_mixInto_29 1 rfl rfl ?_
    refine MF.lmul C e_X5_mixInto_30 ?_
    refine MF.aload_n C e_X5_mixInto_31 0 rfl rfl ?_
    refine MF.getR (j := (t + 9)) C cf_X5 l_X5_29 e_X5_mixInto_32 (iTo.f4 ht) ?_
    refine MF.iload C e_X5_mixInto_35 2 rfl ?_
    refine MF.iald C e_X5_mixInto_37 (iTo.o4 ht) (fun v7 => ?_)
    refine MF.i2l C e_X5_mixInto_38 ?_
    refine MF.ladd C e_X5_mixInto_39 ?_
    refine MF.nmL (fun v8 => ?_)
    refine MF.lstore_n (lv' := [(0, .ref (ead E t)), (3, .long v8), (5, .int i4)]) C e_X5_mixInto_40 (by decide) rfl ?_
    refine MF.iinc (v := (nI 1)) (lv' := [(0, .ref (ead E t)), (3, .long v8), (5, .int (i4 + (nI 1)))]) C e_X5_mixInto_41 2 rfl rfl (by decide) rfl ?_
    refine MF.goto (tgt := 19) C e_X5_mixInto_44 (by decide) ?_
    exact hself5 v8 (i4 + (nI 1))
theorem e_X6_shorten_0 : Dc cX6_shorten 0 (.iload_n 1) 1 1 := ⟨by decide +kernel, rfl⟩
theorem e_X6_shorten_1 : Dc cX6_shorten 1 (.bipush 8) 2 3 := ⟨by decide +kernel, rfl⟩
theorem e_X6_shorten_3 : Dc cX6_shorten 3 (.invokestatic 18) 3 6 := ⟨by decide +kernel, rfl⟩
theorem e_X6_shorten_6 : Dc cX6_shorten 6 (.ifCond .eq 38) 3 9 := ⟨by decide +kernel, rfl⟩
theorem e_X6_shorten_9 : Dc cX6_shorten 9 (.iload_n 2) 1 10 := ⟨by decide +kernel, rfl⟩
theorem e_X6_shorten_10 : Dc cX6_shorten 10 (.bipush 8) 2 12 := ⟨by decide +kernel, rfl⟩
theorem e_X6_shorten_12 : Dc cX6_shorten 12 (.invokestatic 18) 3 15 := ⟨by decide +kernel, rfl⟩
theorem e_X6_shorten_15 : Dc cX6_shorten 15 (.ifCond .eq 29) 3 18 := ⟨by decide +kernel, rfl⟩
theorem e_X6_shorten_18 : Dc cX6_shorten 18 (.aload_n 0) 1 19 := ⟨by decide +kernel, rfl⟩
theorem e_X6_shorten_19 : Dc cX6_shorten 19 (.getfield 9) 3 22 := ⟨by decide +kernel, rfl⟩
theorem e_X6_shorten_22 : Dc cX6_shorten 22 (.iload_n 1) 1 23 := ⟨by decide +kernel, rfl⟩
theorem e_X6_shorten_23 : Dc cX6_shorten 23 (.bipush 8) 2 25 := ⟨by decide +kernel, rfl⟩
theorem e_X6_shorten_25 : Dc cX6_shorten 25 (.imul) 1 26 := ⟨by decide +kernel, rfl⟩
theorem e_X6_shorten_26 : Dc cX6_shorten 26 (.iload_n 2) 1 27 := ⟨by decide +kernel, rfl⟩
theorem e_X6_shorten_27 : Dc cX6_shorten 27 (.iadd) 1 28 := ⟨by decide +kernel, rfl⟩
theorem e_X6_shorten_28 : Dc cX6_shorten 28 (.aload_n 0) 1 29 := ⟨by decide +kernel, rfl⟩
theorem e_X6_shorten_29 : Dc cX6_shorten 29 (.getfield 9) 3 32 := ⟨by decide +kernel, rfl⟩
theorem e_X6_shorten_32 : Dc cX6_shorten 32 (.iload_n 1) 1 33 := ⟨by decide +kernel, rfl⟩
theorem e_X6_shorten_33 : Dc cX6_shorten 33 (.bipush 8) 2 35 := ⟨by decide +kernel, rfl⟩
theorem e_X6_shorten_35 : Dc cX6_shorten 35 (.imul) 1 36 := ⟨by decide +kernel, rfl⟩
theorem e_X6_shorten_36 : Dc cX6_shorten 36 (.iload_n 2) 1 37 := ⟨by decide +kernel, rfl⟩
theorem e_X6_shorten_37 : Dc cX6_shorten 37 (.iadd) 1 38 := ⟨by decide +kernel, rfl⟩
theorem e_X6_shorten_38 : Dc cX6_shorten 38 (.iaload) 1 39 := ⟨by decide +kernel, rfl⟩
theorem e_X6_shorten_39 : Dc cX6_shorten 39 (.iload_n 3) 1 40 := ⟨by decide +kernel, rfl⟩
theorem e_X6_shorten_40 : Dc cX6_shorten 40 (.invokestatic 31) 3 43 := ⟨by decide +kernel, rfl⟩
theorem e_X6_shorten_43 : Dc cX6_shorten 43 (.iastore) 1 44 := ⟨by decide +kernel, rfl⟩
theorem e_X6_shorten_44 : Dc cX6_shorten 44 (.return_) 1 45 := ⟨by decide +kernel, rfl⟩
set_option maxHeartbeats 4000000 in
set_option maxRecDepth 20000 in
theorem R_X6_shorten (hD : DD E) (x1 : Int32) (x2 : Int32) (x3 : Int32) (s : Sg) : ∀ τ, (f_X6_shorten x1 x2 x3 s) = some τ → RV l E 1 M_X6_shorten [.ref (ead E 66), .int x1, .int x2, .int x3] s τ := by
  refine ofU hD (by decide +kernel) (Nat.le_of_ble_eq_true rfl) (fun X C => ?_)
  show MF l E X (fun q : Sg => QV E X q) (f_X6_shorten x1 x2 x3 s) s 0 [(0, .ref (ead E 66)), (1, .int x1), (2, .int x2), (3, .int x3)] []
  unfold f_X6_shorten
  refine MF.iload_n C e_X6_shorten_0 1 rfl rfl ?_
  refine MF.bipush (v := (nI 8)) C e_X6_shorten_1 (by decide) ?_
  refine MF.callSNP (As := [.int x1, .int (nI 8)]) C (R_X7_isBelow hD x1 (nI 8) s) m_X7_isBelow k_X6_18 (by decide) e_X6_shorten_3 rfl rfl (Nat.le_of_ble_eq_true rfl) (fun v1 => ?_)
  refine MF.if_eq (tgt := 44) C e_X6_shorten_6 (by decide) (fun _ => ?_) (fun _ => ?_)
  · exact MF.vret C e_X6_shorten_44
  · refine MF.iload_n C e_X6_shorten_9 2 rfl rfl ?_
    refine MF.bipush (v := (nI 8)) C e_X6_shorten_10 (by decide) ?_
    refine MF.callSNP (As := [.int x2, .int (nI 8)]) C (R_X7_isBelow hD x2 (nI 8) s) m_X7_isBelow k_X6_18 (by decide) e_X6_shorten_12 rfl rfl (Nat.le_of_ble_eq_true rfl) (fun v2 => ?_)
    refine MF.if_eq (tgt := 44) C e_X6_shorten_15 (by decide) (fun _ => ?_) (fun _ => ?_)
    · exact MF.vret C e_X6_shorten_44
    · refine MF.aload_n C e_X6_shorten_18 0 rfl rfl ?_
      refine MF.getR (j := 67) C cf_X6 l_X6_9 e_X6_shorten_19 kF_66_0 ?_
      refine MF.iload_n C e_X6_shorten_22 1 rfl rfl ?_
      refine MF.bipush (v := (nI 8)) C e_X6_shorten_23 (by decide) ?_
      refine MF.imul C e_X6_shorten_25 ?_
      refine MF.iload_n C e_X6_shorten_26 2 rfl rfl ?_
      refine MF.iadd C e_X6_shorten_27 ?_
      refine MF.aload_n C e_X6_shorten_28 0 rfl rfl ?_
      refine MF.getR (j := 67) C cf_X6 l_X6_9 e_X6_shorten_29 kF_66_0 ?_
      refine MF.iload_n C e_X6_shorten_32 1 rfl rfl ?_
      refine MF.bipush (v := (nI 8)) C e_X6_shorten_33 (by decide) ?_
      refine MF.imul C e_X6_shorten_35 ?_
      refine MF.iload_n C e_X6_shorten_36 2 rfl rfl ?_
      refine MF.iadd C e_X6_shorten_37 ?_
      refine MF.iald C e_X6_shorten_38 kA_67 (fun v3 => ?_)
      refine MF.iload_n C e_X6_shorten_39 3 rfl rfl ?_
      refine MF.min C k_X6_31 e_X6_shorten_40 (by decide) (Nat.le_of_ble_eq_true rfl) ?_
      refine MF.nmI (fun v4 => ?_)
      refine MF.iast C e_X6_shorten_43 kA_67 (fun s5 => ?_)
      exact MF.vret C e_X6_shorten_44
theorem e_X6_measure_0 : Dc cX6_measure 0 (.iconst 0) 1 1 := ⟨by decide +kernel, rfl⟩
theorem e_X6_measure_1 : Dc cX6_measure 1 (.istore_n 2) 1 2 := ⟨by decide +kernel, rfl⟩
theorem e_X6_measure_2 : Dc cX6_measure 2 (.iload_n 2) 1 3 := ⟨by decide +kernel, rfl⟩
theorem e_X6_measure_3 : Dc cX6_measure 3 (.aload_n 0) 1 4 := ⟨by decide +kernel, rfl⟩
theorem e_X6_measure_4 : Dc cX6_measure 4 (.getfield 9) 3 7 := ⟨by decide +kernel, rfl⟩
theorem e_X6_measure_7 : Dc cX6_measure 7 (.arraylength) 1 8 := ⟨by decide +kernel, rfl⟩
theorem e_X6_measure_8 : Dc cX6_measure 8 (.if_icmp .ge 32) 3 11 := ⟨by decide +kernel, rfl⟩
theorem e_X6_measure_11 : Dc cX6_measure 11 (.aload_n 0) 1 12 := ⟨by decide +kernel, rfl⟩
theorem e_X6_measure_12 : Dc cX6_measure 12 (.getfield 9) 3 15 := ⟨by decide +kernel, rfl⟩
theorem e_X6_measure_15 : Dc cX6_measure 15 (.iload_n 2) 1 16 := ⟨by decide +kernel, rfl⟩
theorem e_X6_measure_16 : Dc cX6_measure 16 (.iload_n 2) 1 17 := ⟨by decide +kernel, rfl⟩
theorem e_X6_measure_17 : Dc cX6_measure 17 (.bipush 8) 2 19 := ⟨by decide +kernel, rfl⟩
theorem e_X6_measure_19 : Dc cX6_measure 19 (.idiv) 1 20 := ⟨by decide +kernel, rfl⟩
theorem e_X6_measure_20 : Dc cX6_measure 20 (.iload_n 2) 1 21 := ⟨by decide +kernel, rfl⟩
theorem e_X6_measure_21 : Dc cX6_measure 21 (.bipush 8) 2 23 := ⟨by decide +kernel, rfl⟩
theorem e_X6_measure_23 : Dc cX6_measure 23 (.irem) 1 24 := ⟨by decide +kernel, rfl⟩
theorem e_X6_measure_24 : Dc cX6_measure 24 (.if_icmp .ne 7) 3 27 := ⟨by decide +kernel, rfl⟩
theorem e_X6_measure_27 : Dc cX6_measure 27 (.iconst 0) 1 28 := ⟨by decide +kernel, rfl⟩
theorem e_X6_measure_28 : Dc cX6_measure 28 (.goto 5) 3 31 := ⟨by decide +kernel, rfl⟩
theorem e_X6_measure_31 : Dc cX6_measure 31 (.ldc 26) 2 33 := ⟨by decide +kernel, rfl⟩
theorem e_X6_measure_33 : Dc cX6_measure 33 (.iastore) 1 34 := ⟨by decide +kernel, rfl⟩
theorem e_X6_measure_34 : Dc cX6_measure 34 (.iinc 2 1) 3 37 := ⟨by decide +kernel, rfl⟩
theorem e_X6_measure_37 : Dc cX6_measure 37 (.goto (-35)) 3 40 := ⟨by decide +kernel, rfl⟩
theorem e_X6_measure_40 : Dc cX6_measure 40 (.iconst 0) 1 41 := ⟨by decide +kernel, rfl⟩
theorem e_X6_measure_41 : Dc cX6_measure 41 (.istore_n 2) 1 42 := ⟨by decide +kernel, rfl⟩
theorem e_X6_measure_42 : Dc cX6_measure 42 (.iload_n 2) 1 43 := ⟨by decide +kernel, rfl⟩
theorem e_X6_measure_43 : Dc cX6_measure 43 (.aload_n 1) 1 44 := ⟨by decide +kernel, rfl⟩
theorem e_X6_measure_44 : Dc cX6_measure 44 (.invokevirtual 37) 3 47 := ⟨by decide +kernel, rfl⟩
theorem e_X6_measure_47 : Dc cX6_measure 47 (.if_icmp .ge 50) 3 50 := ⟨by decide +kernel, rfl⟩
theorem e_X6_measure_50 : Dc cX6_measure 50 (.aload_n 1) 1 51 := ⟨by decide +kernel, rfl⟩
theorem e_X6_measure_51 : Dc cX6_measure 51 (.iload_n 2) 1 52 := ⟨by decide +kernel, rfl⟩
theorem e_X6_measure_52 : Dc cX6_measure 52 (.iconst 0) 1 53 := ⟨by decide +kernel, rfl⟩
theorem e_X6_measure_53 : Dc cX6_measure 53 (.invokevirtual 43) 3 56 := ⟨by decide +kernel, rfl⟩
theorem e_X6_measure_56 : Dc cX6_measure 56 (.istore_n 3) 1 57 := ⟨by decide +kernel, rfl⟩
theorem e_X6_measure_57 : Dc cX6_measure 57 (.aload_n 1) 1 58 := ⟨by decide +kernel, rfl⟩
theorem e_X6_measure_58 : Dc cX6_measure 58 (.iload_n 2) 1 59 := ⟨by decide +kernel, rfl⟩
theorem e_X6_measure_59 : Dc cX6_measure 59 (.iconst 1) 1 60 := ⟨by decide +kernel, rfl⟩
theorem e_X6_measure_60 : Dc cX6_measure 60 (.invokevirtual 43) 3 63 := ⟨by decide +kernel, rfl⟩
theorem e_X6_measure_63 : Dc cX6_measure 63 (.istore 4) 2 65 := ⟨by decide +kernel, rfl⟩
theorem e_X6_measure_65 : Dc cX6_measure 65 (.aload_n 0) 1 66 := ⟨by decide +kernel, rfl⟩
theorem e_X6_measure_66 : Dc cX6_measure 66 (.iload_n 3) 1 67 := ⟨by decide +kernel, rfl⟩
theorem e_X6_measure_67 : Dc cX6_measure 67 (.iload 4) 2 69 := ⟨by decide +kernel, rfl⟩
theorem e_X6_measure_69 : Dc cX6_measure 69 (.aload_n 1) 1 70 := ⟨by decide +kernel, rfl⟩
theorem e_X6_measure_70 : Dc cX6_measure 70 (.iload_n 2) 1 71 := ⟨by decide +kernel, rfl⟩
theorem e_X6_measure_71 : Dc cX6_measure 71 (.iconst 2) 1 72 := ⟨by decide +kernel, rfl⟩
theorem e_X6_measure_72 : Dc cX6_measure 72 (.invokevirtual 43) 3 75 := ⟨by decide +kernel, rfl⟩
theorem e_X6_measure_75 : Dc cX6_measure 75 (.invokevirtual 46) 3 78 := ⟨by decide +kernel, rfl⟩
theorem e_X6_measure_78 : Dc cX6_measure 78 (.aload_n 0) 1 79 := ⟨by decide +kernel, rfl⟩
theorem e_X6_measure_79 : Dc cX6_measure 79 (.iload 4) 2 81 := ⟨by decide +kernel, rfl⟩
theorem e_X6_measure_81 : Dc cX6_measure 81 (.iload_n 3) 1 82 := ⟨by decide +kernel, rfl⟩
theorem e_X6_measure_82 : Dc cX6_measure 82 (.aload_n 1) 1 83 := ⟨by decide +kernel, rfl⟩
theorem e_X6_measure_83 : Dc cX6_measure 83 (.iload_n 2) 1 84 := ⟨by decide +kernel, rfl⟩
theorem e_X6_measure_84 : Dc cX6_measure 84 (.iconst 2) 1 85 := ⟨by decide +kernel, rfl⟩
theorem e_X6_measure_85 : Dc cX6_measure 85 (.invokevirtual 43) 3 88 := ⟨by decide +kernel, rfl⟩
theorem e_X6_measure_88 : Dc cX6_measure 88 (.invokevirtual 46) 3 91 := ⟨by decide +kernel, rfl⟩
theorem e_X6_measure_91 : Dc cX6_measure 91 (.iinc 2 1) 3 94 := ⟨by decide +kernel, rfl⟩
theorem e_X6_measure_94 : Dc cX6_measure 94 (.goto (-52)) 3 97 := ⟨by decide +kernel, rfl⟩
theorem e_X6_measure_97 : Dc cX6_measure 97 (.iconst 0) 1 98 := ⟨by decide +kernel, rfl⟩
theorem e_X6_measure_98 : Dc cX6_measure 98 (.istore_n 2) 1 99 := ⟨by decide +kernel, rfl⟩
theorem e_X6_measure_99 : Dc cX6_measure 99 (.iload_n 2) 1 100 := ⟨by decide +kernel, rfl⟩
theorem e_X6_measure_100 : Dc cX6_measure 100 (.bipush 8) 2 102 := ⟨by decide +kernel, rfl⟩
theorem e_X6_measure_102 : Dc cX6_measure 102 (.if_icmp .ge 70) 3 105 := ⟨by decide +kernel, rfl⟩
theorem e_X6_measure_105 : Dc cX6_measure 105 (.iconst 0) 1 106 := ⟨by decide +kernel, rfl⟩
theorem e_X6_measure_106 : Dc cX6_measure 106 (.istore_n 3) 1 107 := ⟨by decide +kernel, rfl⟩
theorem e_X6_measure_107 : Dc cX6_measure 107 (.iload_n 3) 1 108 := ⟨by decide +kernel, rfl⟩
theorem e_X6_measure_108 : Dc cX6_measure 108 (.bipush 8) 2 110 := ⟨by decide +kernel, rfl⟩
theorem e_X6_measure_110 : Dc cX6_measure 110 (.if_icmp .ge 56) 3 113 := ⟨by decide +kernel, rfl⟩
theorem e_X6_measure_113 : Dc cX6_measure 113 (.iconst 0) 1 114 := ⟨by decide +kernel, rfl⟩
theorem e_X6_measure_114 : Dc cX6_measure 114 (.istore 4) 2 116 := ⟨by decide +kernel, rfl⟩
theorem e_X6_measure_116 : Dc cX6_measure 116 (.iload 4) 2 118 := ⟨by decide +kernel, rfl⟩
theorem e_X6_measure_118 : Dc cX6_measure 118 (.bipush 8) 2 120 := ⟨by decide +kernel, rfl⟩
theorem e_X6_measure_120 : Dc cX6_measure 120 (.if_icmp .ge 40) 3 123 := ⟨by decide +kernel, rfl⟩
theorem e_X6_measure_123 : Dc cX6_measure 123 (.aload_n 0) 1 124 := ⟨by decide +kernel, rfl⟩
theorem e_X6_measure_124 : Dc cX6_measure 124 (.iload_n 3) 1 125 := ⟨by decide +kernel, rfl⟩
theorem e_X6_measure_125 : Dc cX6_measure 125 (.iload 4) 2 127 := ⟨by decide +kernel, rfl⟩
theorem e_X6_measure_127 : Dc cX6_measure 127 (.aload_n 0) 1 128 := ⟨by decide +kernel, rfl⟩
theorem e_X6_measure_128 : Dc cX6_measure 128 (.getfield 9) 3 131 := ⟨by decide +kernel, rfl⟩
theorem e_X6_measure_131 : Dc cX6_measure 131 (.iload_n 3) 1 132 := ⟨by decide +kernel, rfl⟩
theorem e_X6_measure_132 : Dc cX6_measure 132 (.bipush 8) 2 134 := ⟨by decide +kernel, rfl⟩
theorem e_X6_measure_134 : Dc cX6_measure 134 (.imul) 1 135 := ⟨by decide +kernel, rfl⟩
theorem e_X6_measure_135 : Dc cX6_measure 135 (.iload_n 2) 1 136 := ⟨by decide +kernel, rfl⟩
theorem e_X6_measure_136 : Dc cX6_measure 136 (.iadd) 1 137 := ⟨by decide +kernel, rfl⟩
theorem e_X6_measure_137 : Dc cX6_measure 137 (.iaload) 1 138 := ⟨by decide +kernel, rfl⟩
theorem e_X6_measure_138 : Dc cX6_measure 138 (.aload_n 0) 1 139 := ⟨by decide +kernel, rfl⟩
theorem e_X6_measure_139 : Dc cX6_measure 139 (.getfield 9) 3 142 := ⟨by decide +kernel, rfl⟩
theorem e_X6_measure_142 : Dc cX6_measure 142 (.iload_n 2) 1 143 := ⟨by decide +kernel, rfl⟩
theorem e_X6_measure_143 : Dc cX6_measure 143 (.bipush 8) 2 145 := ⟨by decide +kernel, rfl⟩
theorem e_X6_measure_145 : Dc cX6_measure 145 (.imul) 1 146 := ⟨by decide +kernel, rfl⟩
theorem e_X6_measure_146 : Dc cX6_measure 146 (.iload 4) 2 148 := ⟨by decide +kernel, rfl⟩
theorem e_X6_measure_148 : Dc cX6_measure 148 (.iadd) 1 149 := ⟨by decide +kernel, rfl⟩
theorem e_X6_measure_149 : Dc cX6_measure 149 (.iaload) 1 150 := ⟨by decide +kernel, rfl⟩
theorem e_X6_measure_150 : Dc cX6_measure 150 (.iadd) 1 151 := ⟨by decide +kernel, rfl⟩
theorem e_X6_measure_151 : Dc cX6_measure 151 (.invokevirtual 46) 3 154 := ⟨by decide +kernel, rfl⟩
theorem e_X6_measure_154 : Dc cX6_measure 154 (.iinc 4 1) 3 157 := ⟨by decide +kernel, rfl⟩
theorem e_X6_measure_157 : Dc cX6_measure 157 (.goto (-41)) 3 160 := ⟨by decide +kernel, rfl⟩
theorem e_X6_measure_160 : Dc cX6_measure 160 (.iinc 3 1) 3 163 := ⟨by decide +kernel, rfl⟩
theorem e_X6_measure_163 : Dc cX6_measure 163 (.goto (-56)) 3 166 := ⟨by decide +kernel, rfl⟩
theorem e_X6_measure_166 : Dc cX6_measure 166 (.iinc 2 1) 3 169 := ⟨by decide +kernel, rfl⟩
theorem e_X6_measure_169 : Dc cX6_measure 169 (.goto (-70)) 3 172 := ⟨by decide +kernel, rfl⟩
theorem e_X6_measure_172 : Dc cX6_measure 172 (.return_) 1 173 := ⟨by decide +kernel, rfl⟩
set_option maxHeartbeats 4000000 in
set_option maxRecDepth 20000 in
theorem R_X6_measure (hD : DD E) (o1 : Nat) (ho1 : iRo o1) (s : Sg) : ∀ τ, (f_X6_measure o1 s) = some τ → RV l E 2 M_X6_measure [.ref (ead E 66), .ref (ead E o1)] s τ := by
  refine ofU hD (by decide +kernel) (Nat.le_of_ble_eq_true rfl) (fun X C => ?_)
  show MF l E X (fun q : Sg => QV E X q) (f_X6_measure o1 s) s 0 [(0, .ref (ead E 66)), (1, .ref (ead E o1))] []
  unfold f_X6_measure
  refine MF.iconst (v := (nI 0)) C e_X6_measure_0 rfl ?_
  refine MF.istore_n (lv' := [(0, .ref (ead E 66)), (1, .ref (ead E o1)), (2, .int (nI 0))]) C e_X6_measure_1 (by decide) rfl ?_
  refine MF.join (fun j : Sg → Option Sg => ∀ (s1 : Sg), MF l E X (fun q : Sg => QV E X q) (j s1) s1 40 [(0, .ref (ead E 66)), (1, .ref (ead E o1))] []) ?_ (fun j2 hj2 => ?_)
  · intro s1
    refine MF.iconst (v := (nI 0)) C e_X6_measure_40 rfl ?_
    refine MF.istore_n (lv' := [(0, .ref (ead E 66)), (1, .ref (ead E o1)), (2, .int (nI 0))]) C e_X6_measure_41 (by decide) rfl ?_
    refine MF.join (fun j : Sg → Option Sg => ∀ (s3 : Sg), MF l E X (fun q : Sg => QV E X q) (j s3) s3 97 [(0, .ref (ead E 66))] []) ?_ (fun j4 hj4 => ?_)
    · intro s3
      refine MF.iconst (v := (nI 0)) C e_X6_measure_97 rfl ?_
      refine MF.istore_n (lv' := [(0, .ref (ead E 66)), (2, .int (nI 0))]) C e_X6_measure_98 (by decide) rfl ?_
      refine MF.loop2 (fun i5 s6 => s6) (fun i5 s6 => [(0, .ref (ead E 66)), (2, .int i5)]) (fun self7 hself7 i5 s6 => ?_) fu (nI 0) s3
      unfold b_X6_measure_99
      refine MF.iload_n C e_X6_measure_99 1 rfl rfl ?_
      refine MF.bipush (v := (nI 8)) C e_X6_measure_100 (by decide) ?_
      refine MF.icmp_ge (tgt := 172) C e_X6_measure_102 (by decide) (fun _ => ?_) (fun _ => ?_)
      · exact MF.vret C e_X6_measure_172
      · refine MF.iconst (v := (nI 0)) C e_X6_measure_105 rfl ?_
        refine MF.istore_n (lv' := [(0, .ref (ead E 66)), (2, .int i5), (3, .int (nI 0))]) C e_X6_measure_106 (by decide) rfl ?_
        refine MF.join (fun j : Sg → Option Sg => ∀ (s8 : Sg), MF l E X (fun q : Sg => QV E X q) (j s8) s8 166 [(0, .ref (ead E 66)), (2, .int i5)] []) ?_ (fun j9 hj9 => ?_)
        · intro s8
          refine MF.iinc (v := (nI 1)) (lv' := [(0, .ref (ead E 66)), (2, .int (i5 + (nI 1)))]) C e_X6_measure_166 1 rfl rfl (by decide) rfl ?_
          refine MF.goto (tgt := 99) C e_X6_measure_169 (by decide) ?_
          exact hself7 (i5 + (nI 1)) s8
        refine MF.loop2 (fun i10 s11 => s11) (fun i10 s11 => [(0, .ref (ead E 66)), (2, .int i5), (3, .int i10)]) (fun self12 hself12 i10 s11 => ?_) fu (nI 0) s6
        unfold b_X6_measure_107
        refine MF.iload_n C e_X6_measure_107 2 rfl rfl ?_
        refine MF.bipush (v := (nI 8)) C e_X6_measure_108 (by decide) ?_
        refine MF.icmp_ge (tgt := 166) C e_X6_measure_110 (by decide) (fun _ => ?_) (fun _ => ?_)
        · refine MF.sub [0, 1] rfl ?_
          exact hj9 s11
        · refine MF.iconst (v := (nI 0)) C e_X6_measure_113 rfl ?_
          refine MF.istore (lv' := [(0, .ref (ead E 66)), (2, .int i5), (3, .int i10), (4, .int (nI 0))]) C e_X6_measure_114 (by decide) rfl ?_
          refine MF.join (fun j : Sg → Option Sg => ∀ (s13 : Sg), MF l E X (fun q : Sg => QV E X q) (j s13) s13 160 [(0, .ref (ead E 66)), (2, .int i5), (3, .int i10)] []) ?_ (fun j14 hj14 => ?_)
          · intro s13
            refine MF.iinc (v := (nI 1)) (lv' := [(0, .ref (ead E 66)), (2, .int i5), (3, .int (i10 + (nI 1)))]) C e_X6_measure_160 2 rfl rfl (by decide) rfl ?_
            refine MF.goto (tgt := 107) C e_X6_measure_163 (by decide) ?_
            exact hself12 (i10 + (nI 1)) s13
          refine MF.loop2 (fun i15 s16 => s16) (fun i15 s16 => [(0, .ref (ead E 66)), (2, .int i5), (3, .int i10), (4, .int i15)]) (fun self17 hself17 i15 s16 => ?_) fu (nI 0) s11
          unfold b_X6_measure_116
          refine MF.iload C e_X6_measure_116 3 rfl ?_
          refine MF.bipush (v := (nI 8)) C e_X6_measure_118 (by decide) ?_
          refine MF.icmp_ge (tgt := 160) C e_X6_measure_120 (by decide) (fun _ => ?_) (fun _ => ?_)
          · refine MF.sub [0, 1, 2] rfl ?_
            exact hj14 s16
          · refine MF.aload_n C e_X6_measure_123 0 rfl rfl ?_
            refine MF.iload_n C e_X6_measure_124 2 rfl rfl ?_
            refine MF.iload C e_X6_measure_125 3 rfl ?_
            refine MF.aload_n C e_X6_measure_127 0 rfl rfl ?_
            refine MF.getR (j := 67) C cf_X6 l_X6_9 e_X6_measure_128 kF_66_0 ?_
            refine MF.iload_n C e_X6_measure_131 2 rfl rfl ?_
            refine MF.bipush (v := (nI 8)) C e_X6_measure_132 (by decide) ?_
            refine MF.imul C e_X6_measure_134 ?_
            refine MF.iload_n C e_X6_measure_135 1 rfl rfl ?_
            refine MF.iadd C e_X6_measure_136 ?_
            refine MF.iald C e_X6_measure_137 kA_67 (fun v18 => ?_)
            refine MF.aload_n C e_X6_measure_138 0 rfl rfl ?_
            refine MF.getR (j := 67) C cf_X6 l_X6_9 e_X6_measure_139 kF_66_0 ?_
            refine MF.iload_n C e_X6_measure_142 1 rfl rfl ?_
            refine MF.bipush (v := (nI 8)) C e_X6_measure_143 (by decide) ?_
            refine MF.imul C e_X6_measure_145 ?_
            refine MF.iload C e_X6_measure_146 3 rfl ?_
            refine MF.iadd C e_X6_measure_148 ?_
            refine MF.iald C e_X6_measure_149 kA_67 (fun v19 => ?_)
            refine MF.iadd C e_X6_measure_150 ?_
            refine MF.callVU (As := [.int i10, .int i15, .int (v18 + v19)]) C (R_X6_shorten hD i10 i15 (v18 + v19) s16) m_X6_shorten k_X6_46 kO_66 rfl (by decide) e_X6_measure_151 rfl rfl (Nat.le_of_ble_eq_true rfl) (fun s20 => ?_)
            refine MF.iinc (v := (nI 1)) (lv' := [(0, .ref (ead E 66)), (2, .int i5), (3, .int i10), (4, .int (i15 + (nI 1)))]) C e_X6_measure_154 3 rfl rfl (by decide) rfl ?_
            refine MF.goto (tgt := 116) C e_X6_measure_157 (by decide) ?_
            exact hself17 (i15 + (nI 1)) s20
    refine MF.loop2 (fun i21 s22 => s22) (fun i21 s22 => [(0, .ref (ead E 66)), (1, .ref (ead E o1)), (2, .int i21)]) (fun self23 hself23 i21 s22 => ?_) fu (nI 0) s1
    unfold b_X6_measure_42
    refine MF.iload_n C e_X6_measure_42 2 rfl rfl ?_
    refine MF.aload_n C e_X6_measure_43 1 rfl rfl ?_
    refine MF.callVP (As := []) C (R_X2_size hD o1 ho1 s22) m_X2_size k_X6_37 (iRo.o ho1) rfl (by decide) e_X6_measure_44 rfl rfl (Nat.le_of_ble_eq_true rfl) (fun v24 => ?_)
    refine MF.icmp_ge (tgt := 97) C e_X6_measure_47 (by decide) (fun _ => ?_) (fun _ => ?_)
    · refine MF.sub [0] rfl ?_
      exact hj4 s22
    · refine MF.aload_n C e_X6_measure_50 1 rfl rfl ?_
      refine MF.iload_n C e_X6_measure_51 2 rfl rfl ?_
      refine MF.iconst (v := (nI 0)) C e_X6_measure_52 rfl ?_
      refine MF.callVP (As := [.int i21, .int (nI 0)]) C (R_X2_cell hD o1 i21 (nI 0) ho1 s22) m_X2_cell k_X6_43 (iRo.o ho1) rfl (by decide) e_X6_measure_53 rfl rfl (Nat.le_of_ble_eq_true rfl) (fun v25 => ?_)
      refine MF.istore_n (lv' := [(0, .ref (ead E 66)), (1, .ref (ead E o1)), (2, .int i21), (3, .int v25)]) C e_X6_measure_56 (by decide) rfl ?_
      refine MF.aload_n C e_X6_measure_57 1 rfl rfl ?_
      refine MF.iload_n C e_X6_measure_58 2 rfl rfl ?_
      refine MF.iconst (v := (nI 1)) C e_X6_measure_59 rfl ?_
      refine MF.callVP (As := [.int i21, .int (nI 1)]) C (R_X2_cell hD o1 i21 (nI 1) ho1 s22) m_X2_cell k_X6_43 (iRo.o ho1) rfl (by decide) e_X6_measure_60 rfl rfl (Nat.le_of_ble_eq_true rfl) (fun v26 => ?_)
      refine MF.istore (lv' := [(0, .ref (ead E 66)), (1, .ref (ead E o1)), (2, .int i21), (3, .int v25), (4, .int v26)]) C e_X6_measure_63 (by decide) rfl ?_
      refine MF.aload_n C e_X6_measure_65 0 rfl rfl ?_
      refine MF.iload_n C e_X6_measure_66 3 rfl rfl ?_
      refine MF.iload C e_X6_measure_67 4 rfl ?_
      refine MF.aload_n C e_X6_measure_69 1 rfl rfl ?_
      refine MF.iload_n C e_X6_measure_70 2 rfl rfl ?_
      refine MF.iconst (v := (nI 2)) C e_X6_measure_71 rfl ?_
      refine MF.callVP (As := [.int i21, .int (nI 2)]) C (R_X2_cell hD o1 i21 (nI 2) ho1 s22) m_X2_cell k_X6_43 (iRo.o ho1) rfl (by decide) e_X6_measure_72 rfl rfl (Nat.le_of_ble_eq_true rfl) (fun v27 => ?_)
      refine MF.callVU (As := [.int v25, .int v26, .int v27]) C (R_X6_shorten hD v25 v26 v27 s22) m_X6_shorten k_X6_46 kO_66 rfl (by decide) e_X6_measure_75 rfl rfl (Nat.le_of_ble_eq_true rfl) (fun s28 => ?_)
      refine MF.aload_n C e_X6_measure_78 0 rfl rfl ?_
      refine MF.iload C e_X6_measure_79 4 rfl ?_
      refine MF.iload_n C e_X6_measure_81 3 rfl rfl ?_
      refine MF.aload_n C e_X6_measure_82 1 rfl rfl ?_
      refine MF.iload_n C e_X6_measure_83 2 rfl rfl ?_
      refine MF.iconst (v := (nI 2)) C e_X6_measure_84 rfl ?_
      refine MF.callVP (As := [.int i21, .int (nI 2)]) C (R_X2_cell hD o1 i21 (nI 2) ho1 s28) m_X2_cell k_X6_43 (iRo.o ho1) rfl (by decide) e_X6_measure_85 rfl rfl (Nat.le_of_ble_eq_true rfl) (fun v29 => ?_)
      refine MF.callVU (As := [.int v26, .int v25, .int v29]) C (R_X6_shorten hD v26 v25 v29 s28) m_X6_shorten k_X6_46 kO_66 rfl (by decide) e_X6_measure_88 rfl rfl (Nat.le_of_ble_eq_true rfl) (fun s30 => ?_)
      refine MF.iinc (v := (nI 1)) (lv' := [(0, .ref (ead E 66)), (1, .ref (ead E o1)), (2, .int (i21 + (nI 1))), (3, .int v25), (4, .int v26)]) C e_X6_measure_91 2 rfl rfl (by decide) rfl ?_
      refine MF.goto (tgt := 42) C e_X6_measure_94 (by decide) ?_
      refine MF.sub [0, 1, 2] rfl ?_
      exact hself23 (i21 + (nI 1)) s30
  refine MF.loop2 (fun i31 s32 => s32) (fun i31 s32 => [(0, .ref (ead E 66)), (1, .ref (ead E o1)), (2, .int i31)]) (fun self33 hself33 i31 s32 => ?_) fu (nI 0) s
  unfold b_X6_measure_2
  refine MF.iload_n C e_X6_measure_2 2 rfl rfl ?_
  refine MF.aload_n C e_X6_measure_3 0 rfl rfl ?_
  refine MF.getR (j := 67) C cf_X6 l_X6_9 e_X6_measure_4 kF_66_0 ?_
  refine MF.alenI C e_X6_measure_7 kA_67 ?_
  refine MF.icmp_ge (tgt := 40) C e_X6_measure_8 (by decide) (fun _ => ?_) (fun _ => ?_)
  · refine MF.sub [0, 1] rfl ?_
    exact hj2 s32
  · refine MF.aload_n C e_X6_measure_11 0 rfl rfl ?_
    refine MF.getR (j := 67) C cf_X6 l_X6_9 e_X6_measure_12 kF_66_0 ?_
    refine MF.iload_n C e_X6_measure_15 2 rfl rfl ?_
    refine MF.iload_n C e_X6_measure_16 2 rfl rfl ?_
    refine MF.bipush (v := (nI 8)) C e_X6_measure_17 (by decide) ?_
    refine MF.idiv C e_X6_measure_19 (by decide) ?_
    refine MF.iload_n C e_X6_measure_20 2 rfl rfl ?_
    refine MF.bipush (v := (nI 8)) C e_X6_measure_21 (by decide) ?_
    refine MF.irem C e_X6_measure_23 (by decide) ?_
    refine MF.join (fun j : Int32 → Option Sg => ∀ (a34 : Int32), MF l E X (fun q : Sg => QV E X q) (j a34) s32 33 [(0, .ref (ead E 66)), (1, .ref (ead E o1)), (2, .int i31)] [.int a34, .int i31, .ref (ead E 67)]) ?_ (fun j35 hj35 => ?_)
    · intro a34
      refine MF.iast C e_X6_measure_33 kA_67 (fun s36 => ?_)
      refine MF.iinc (v := (nI 1)) (lv' := [(0, .ref (ead E 66)), (1, .ref (ead E o1)), (2, .int (i31 + (nI 1)))]) C e_X6_measure_34 2 rfl rfl (by decide) rfl ?_
      refine MF.goto (tgt := 2) C e_X6_measure_37 (by decide) ?_
      exact hself33 (i31 + (nI 1)) s36
    refine MF.icmp_ne (tgt := 31) C e_X6_measure_24 (by decide) (fun _ => ?_) (fun _ => ?_)
    · refine MF.ldc C e_X6_measure_31 t_X6_26 ?_
      exact hj35 (nI 1000000)
    · refine MF.iconst (v := (nI 0)) C e_X6_measure_27 rfl ?_
      refine MF.goto (tgt := 33) C e_X6_measure_28 (by decide) ?_
      exact hj35 (nI 0)
theorem e_X6_soonest_0 : Dc cX6_soonest 0 (.ldc 26) 2 2 := ⟨by decide +kernel, rfl⟩
theorem e_X6_soonest_2 : Dc cX6_soonest 2 (.istore_n 3) 1 3 := ⟨by decide +kernel, rfl⟩
theorem e_X6_soonest_3 : Dc cX6_soonest 3 (.iload_n 2) 1 4 := ⟨by decide +kernel, rfl⟩
theorem e_X6_soonest_4 : Dc cX6_soonest 4 (.bipush 8) 2 6 := ⟨by decide +kernel, rfl⟩
theorem e_X6_soonest_6 : Dc cX6_soonest 6 (.invokestatic 18) 3 9 := ⟨by decide +kernel, rfl⟩
theorem e_X6_soonest_9 : Dc cX6_soonest 9 (.ifCond .ne 5) 3 12 := ⟨by decide +kernel, rfl⟩
theorem e_X6_soonest_12 : Dc cX6_soonest 12 (.iload_n 3) 1 13 := ⟨by decide +kernel, rfl⟩
theorem e_X6_soonest_13 : Dc cX6_soonest 13 (.ireturn) 1 14 := ⟨by decide +kernel, rfl⟩
theorem e_X6_soonest_14 : Dc cX6_soonest 14 (.iconst 0) 1 15 := ⟨by decide +kernel, rfl⟩
theorem e_X6_soonest_15 : Dc cX6_soonest 15 (.istore 4) 2 17 := ⟨by decide +kernel, rfl⟩
theorem e_X6_soonest_17 : Dc cX6_soonest 17 (.iload 4) 2 19 := ⟨by decide +kernel, rfl⟩
theorem e_X6_soonest_19 : Dc cX6_soonest 19 (.bipush 8) 2 21 := ⟨by decide +kernel, rfl⟩
theorem e_X6_soonest_21 : Dc cX6_soonest 21 (.if_icmp .ge 39) 3 24 := ⟨by decide +kernel, rfl⟩
theorem e_X6_soonest_24 : Dc cX6_soonest 24 (.iload_n 3) 1 25 := ⟨by decide +kernel, rfl⟩
theorem e_X6_soonest_25 : Dc cX6_soonest 25 (.aload_n 0) 1 26 := ⟨by decide +kernel, rfl⟩
theorem e_X6_soonest_26 : Dc cX6_soonest 26 (.getfield 15) 3 29 := ⟨by decide +kernel, rfl⟩
theorem e_X6_soonest_29 : Dc cX6_soonest 29 (.iload_n 1) 1 30 := ⟨by decide +kernel, rfl⟩
theorem e_X6_soonest_30 : Dc cX6_soonest 30 (.bipush 8) 2 32 := ⟨by decide +kernel, rfl⟩
theorem e_X6_soonest_32 : Dc cX6_soonest 32 (.imul) 1 33 := ⟨by decide +kernel, rfl⟩
theorem e_X6_soonest_33 : Dc cX6_soonest 33 (.iload 4) 2 35 := ⟨by decide +kernel, rfl⟩
theorem e_X6_soonest_35 : Dc cX6_soonest 35 (.iadd) 1 36 := ⟨by decide +kernel, rfl⟩
theorem e_X6_soonest_36 : Dc cX6_soonest 36 (.iaload) 1 37 := ⟨by decide +kernel, rfl⟩
theorem e_X6_soonest_37 : Dc cX6_soonest 37 (.aload_n 0) 1 38 := ⟨by decide +kernel, rfl⟩
theorem e_X6_soonest_38 : Dc cX6_soonest 38 (.getfield 9) 3 41 := ⟨by decide +kernel, rfl⟩
theorem e_X6_soonest_41 : Dc cX6_soonest 41 (.iload 4) 2 43 := ⟨by decide +kernel, rfl⟩
theorem e_X6_soonest_43 : Dc cX6_soonest 43 (.bipush 8) 2 45 := ⟨by decide +kernel, rfl⟩
theorem e_X6_soonest_45 : Dc cX6_soonest 45 (.imul) 1 46 := ⟨by decide +kernel, rfl⟩
theorem e_X6_soonest_46 : Dc cX6_soonest 46 (.iload_n 2) 1 47 := ⟨by decide +kernel, rfl⟩
theorem e_X6_soonest_47 : Dc cX6_soonest 47 (.iadd) 1 48 := ⟨by decide +kernel, rfl⟩
theorem e_X6_soonest_48 : Dc cX6_soonest 48 (.iaload) 1 49 := ⟨by decide +kernel, rfl⟩
theorem e_X6_soonest_49 : Dc cX6_soonest 49 (.iadd) 1 50 := ⟨by decide +kernel, rfl⟩
theorem e_X6_soonest_50 : Dc cX6_soonest 50 (.invokestatic 31) 3 53 := ⟨by decide +kernel, rfl⟩
theorem e_X6_soonest_53 : Dc cX6_soonest 53 (.istore_n 3) 1 54 := ⟨by decide +kernel, rfl⟩
theorem e_X6_soonest_54 : Dc cX6_soonest 54 (.iinc 4 1) 3 57 := ⟨by decide +kernel, rfl⟩
theorem e_X6_soonest_57 : Dc cX6_soonest 57 (.goto (-40)) 3 60 := ⟨by decide +kernel, rfl⟩
theorem e_X6_soonest_60 : Dc cX6_soonest 60 (.iload_n 3) 1 61 := ⟨by decide +kernel, rfl⟩
theorem e_X6_soonest_61 : Dc cX6_soonest 61 (.ireturn) 1 62 := ⟨by decide +kernel, rfl⟩
set_option maxHeartbeats 4000000 in
set_option maxRecDepth 20000 in
theorem R_X6_soonest (hD : DD E) (x1 : Int32) (x2 : Int32) (s : Sg) : ∀ v, (f_X6_soonest x1 x2 s) = some v → RI l E 1 M_X6_soonest [.ref (ead E 66), .int x1, .int x2] s v s := by
  refine ofP hD (by decide +kernel) (Nat.le_of_ble_eq_true rfl) (fun X C => ?_)
  show MF l E X (fun q : Int32 => QI E X q s) (f_X6_soonest x1 x2 s) s 0 [(0, .ref (ead E 66)), (1, .int x1), (2, .int x2)] []
  unfold f_X6_soonest
  refine MF.ldc C e_X6_soonest_0 t_X6_26 ?_
  refine MF.istore_n (lv' := [(0, .ref (ead E 66)), (1, .int x1), (2, .int x2), (3, .int (nI 1000000))]) C e_X6_soonest_2 (by decide) rfl ?_
  refine MF.iload_n C e_X6_soonest_3 2 rfl rfl ?_
  refine MF.bipush (v := (nI 8)) C e_X6_soonest_4 (by decide) ?_
  refine MF.callSNP (As := [.int x2, .int (nI 8)]) C (R_X7_isBelow hD x2 (nI 8) s) m_X7_isBelow k_X6_18 (by decide) e_X6_soonest_6 rfl rfl (Nat.le_of_ble_eq_true rfl) (fun v1 => ?_)
  refine MF.if_ne (tgt := 14) C e_X6_soonest_9 (by decide) (fun _ => ?_) (fun _ => ?_)
  · refine MF.iconst (v := (nI 0)) C e_X6_soonest_14 rfl ?_
    refine MF.istore (lv' := [(0, .ref (ead E 66)), (1, .int x1), (2, .int x2), (3, .int (nI 1000000)), (4, .int (nI 0))]) C e_X6_soonest_15 (by decide) rfl ?_
    refine MF.loop2 (fun i2 i3 => s) (fun i2 i3 => [(0, .ref (ead E 66)), (1, .int x1), (2, .int x2), (3, .int i2), (4, .int i3)]) (fun self4 hself4 i2 i3 => ?_) fu (nI 1000000) (nI 0)
    unfold b_X6_soonest_17
    refine MF.iload C e_X6_soonest_17 4 rfl ?_
    refine MF.bipush (v := (nI 8)) C e_X6_soonest_19 (by decide) ?_
    refine MF.icmp_ge (tgt := 60) C e_X6_soonest_21 (by decide) (fun _ => ?_) (fun _ => ?_)
    · refine MF.iload_n C e_X6_soonest_60 3 rfl rfl ?_
      exact MF.iretp C e_X6_soonest_61
    · refine MF.iload_n C e_X6_soonest_24 3 rfl rfl ?_
      refine MF.aload_n C e_X6_soonest_25 0 rfl rfl ?_
      refine MF.getR (j := 68) C cf_X6 l_X6_15 e_X6_soonest_26 kF_66_1 ?_
      refine MF.iload_n C e_X6_soonest_29 1 rfl rfl ?_
      refine MF.bipush (v := (nI 8)) C e_X6_soonest_30 (by decide) ?_
      refine MF.imul C e_X6_soonest_32 ?_
      refine MF.iload C e_X6_soonest_33 4 rfl ?_
      refine MF.iadd C e_X6_soonest_35 ?_
      refine MF.iald C e_X6_soonest_36 kA_68 (fun v5 => ?_)
      refine MF.aload_n C e_X6_soonest_37 0 rfl rfl ?_
      refine MF.getR (j := 67) C cf_X6 l_X6_9 e_X6_soonest_38 kF_66_0 ?_
      refine MF.iload C e_X6_soonest_41 4 rfl ?_
      refine MF.bipush (v := (nI 8)) C e_X6_soonest_43 (by decide) ?_
      refine MF.imul C e_X6_soonest_45 ?_
      refine MF.iload_n C e_X6_soonest_46 2 rfl rfl ?_
      refine MF.iadd C e_X6_soonest_47 ?_
      refine MF.iald C e_X6_soonest_48 kA_67 (fun v6 => ?_)
      refine MF.iadd C e_X6_soonest_49 ?_
      refine MF.min C k_X6_31 e_X6_soonest_50 (by decide) (Nat.le_of_ble_eq_true rfl) ?_
      refine MF.nmI (fun v7 => ?_)
      refine MF.istore_n (lv' := [(0, .ref (ead E 66)), (1, .int x1), (2, .int x2), (3, .int v7), (4, .int i3)]) C e_X6_soonest_53 (by decide) rfl ?_
      refine MF.iinc (v := (nI 1)) (lv' := [(0, .ref (ead E 66)), (1, .int x1), (2, .int x2), (3, .int v7), (4, .int (i3 + (nI 1)))]) C e_X6_soonest_54 4 rfl rfl (by decide) rfl ?_
      refine MF.goto (tgt := 17) C e_X6_soonest_57 (by decide) ?_
      exact hself4 v7 (i3 + (nI 1))
  · refine MF.iload_n C e_X6_soonest_12 3 rfl rfl ?_
    exact MF.iretp C e_X6_soonest_13
theorem e_X6_reach_0 : Dc cX6_reach 0 (.iload_n 2) 1 1 := ⟨by decide +kernel, rfl⟩
theorem e_X6_reach_1 : Dc cX6_reach 1 (.bipush 8) 2 3 := ⟨by decide +kernel, rfl⟩
theorem e_X6_reach_3 : Dc cX6_reach 3 (.invokestatic 18) 3 6 := ⟨by decide +kernel, rfl⟩
theorem e_X6_reach_6 : Dc cX6_reach 6 (.ifCond .eq 29) 3 9 := ⟨by decide +kernel, rfl⟩
theorem e_X6_reach_9 : Dc cX6_reach 9 (.iload_n 1) 1 10 := ⟨by decide +kernel, rfl⟩
theorem e_X6_reach_10 : Dc cX6_reach 10 (.bipush 8) 2 12 := ⟨by decide +kernel, rfl⟩
theorem e_X6_reach_12 : Dc cX6_reach 12 (.imul) 1 13 := ⟨by decide +kernel, rfl⟩
theorem e_X6_reach_13 : Dc cX6_reach 13 (.iload_n 2) 1 14 := ⟨by decide +kernel, rfl⟩
theorem e_X6_reach_14 : Dc cX6_reach 14 (.iadd) 1 15 := ⟨by decide +kernel, rfl⟩
theorem e_X6_reach_15 : Dc cX6_reach 15 (.istore 4) 2 17 := ⟨by decide +kernel, rfl⟩
theorem e_X6_reach_17 : Dc cX6_reach 17 (.aload_n 0) 1 18 := ⟨by decide +kernel, rfl⟩
theorem e_X6_reach_18 : Dc cX6_reach 18 (.getfield 15) 3 21 := ⟨by decide +kernel, rfl⟩
theorem e_X6_reach_21 : Dc cX6_reach 21 (.iload 4) 2 23 := ⟨by decide +kernel, rfl⟩
theorem e_X6_reach_23 : Dc cX6_reach 23 (.aload_n 0) 1 24 := ⟨by decide +kernel, rfl⟩
theorem e_X6_reach_24 : Dc cX6_reach 24 (.getfield 15) 3 27 := ⟨by decide +kernel, rfl⟩
theorem e_X6_reach_27 : Dc cX6_reach 27 (.iload 4) 2 29 := ⟨by decide +kernel, rfl⟩
theorem e_X6_reach_29 : Dc cX6_reach 29 (.iaload) 1 30 := ⟨by decide +kernel, rfl⟩
theorem e_X6_reach_30 : Dc cX6_reach 30 (.iload_n 3) 1 31 := ⟨by decide +kernel, rfl⟩
theorem e_X6_reach_31 : Dc cX6_reach 31 (.invokestatic 31) 3 34 := ⟨by decide +kernel, rfl⟩
theorem e_X6_reach_34 : Dc cX6_reach 34 (.iastore) 1 35 := ⟨by decide +kernel, rfl⟩
theorem e_X6_reach_35 : Dc cX6_reach 35 (.return_) 1 36 := ⟨by decide +kernel, rfl⟩
set_option maxHeartbeats 4000000 in
set_option maxRecDepth 20000 in
theorem R_X6_reach (hD : DD E) (x1 : Int32) (x2 : Int32) (x3 : Int32) (s : Sg) : ∀ τ, (f_X6_reach x1 x2 x3 s) = some τ → RV l E 1 M_X6_reach [.ref (ead E 66), .int x1, .int x2, .int x3] s τ := by
  refine ofU hD (by decide +kernel) (Nat.le_of_ble_eq_true rfl) (fun X C => ?_)
  show MF l E X (fun q : Sg => QV E X q) (f_X6_reach x1 x2 x3 s) s 0 [(0, .ref (ead E 66)), (1, .int x1), (2, .int x2), (3, .int x3)] []
  unfold f_X6_reach
  refine MF.iload_n C e_X6_reach_0 2 rfl rfl ?_
  refine MF.bipush (v := (nI 8)) C e_X6_reach_1 (by decide) ?_
  refine MF.callSNP (As := [.int x2, .int (nI 8)]) C (R_X7_isBelow hD x2 (nI 8) s) m_X7_isBelow k_X6_18 (by decide) e_X6_reach_3 rfl rfl (Nat.le_of_ble_eq_true rfl) (fun v1 => ?_)
  refine MF.if_eq (tgt := 35) C e_X6_reach_6 (by decide) (fun _ => ?_) (fun _ => ?_)
  · exact MF.vret C e_X6_reach_35
  · refine MF.iload_n C e_X6_reach_9 1 rfl rfl ?_
    refine MF.bipush (v := (nI 8)) C e_X6_reach_10 (by decide) ?_
    refine MF.imul C e_X6_reach_12 ?_
    refine MF.iload_n C e_X6_reach_13 2 rfl rfl ?_
    refine MF.iadd C e_X6_reach_14 ?_
    refine MF.nmI (fun v2 => ?_)
    refine MF.istore (lv' := [(0, .ref (ead E 66)), (1, .int x1), (2, .int x2), (3, .int x3), (4, .int v2)]) C e_X6_reach_15 (by decide) rfl ?_
    refine MF.aload_n C e_X6_reach_17 0 rfl rfl ?_
    refine MF.getR (j := 68) C cf_X6 l_X6_15 e_X6_reach_18 kF_66_1 ?_
    refine MF.iload C e_X6_reach_21 4 rfl ?_
    refine MF.aload_n C e_X6_reach_23 0 rfl rfl ?_
    refine MF.getR (j := 68) C cf_X6 l_X6_15 e_X6_reach_24 kF_66_1 ?_
    refine MF.iload C e_X6_reach_27 4 rfl ?_
    refine MF.iald C e_X6_reach_29 kA_68 (fun v3 => ?_)
    refine MF.iload_n C e_X6_reach_30 3 rfl rfl ?_
    refine MF.min C k_X6_31 e_X6_reach_31 (by decide) (Nat.le_of_ble_eq_true rfl) ?_
    refine MF.nmI (fun v4 => ?_)
    refine MF.iast C e_X6_reach_34 kA_68 (fun s5 => ?_)
    exact MF.vret C e_X6_reach_35
theorem e_X6_goOn_0 : Dc cX6_goOn 0 (.iconst 0) 1 1 := ⟨by decide +kernel, rfl⟩
theorem e_X6_goOn_1 : Dc cX6_goOn 1 (.istore 4) 2 3 := ⟨by decide +kernel, rfl⟩
theorem e_X6_goOn_3 : Dc cX6_goOn 3 (.iload 4) 2 5 := ⟨by decide +kernel, rfl⟩
theorem e_X6_goOn_5 : Dc cX6_goOn 5 (.aload_n 1) 1 6 := ⟨by decide +kernel, rfl⟩
theorem e_X6_goOn_6 : Dc cX6_goOn 6 (.invokevirtual 37) 3 9 := ⟨by decide +kernel, rfl⟩
theorem e_X6_goOn_9 : Dc cX6_goOn 9 (.if_icmp .ge 93) 3 12 := ⟨by decide +kernel, rfl⟩
theorem e_X6_goOn_12 : Dc cX6_goOn 12 (.iload_n 3) 1 13 := ⟨by decide +kernel, rfl⟩
theorem e_X6_goOn_13 : Dc cX6_goOn 13 (.iload_n 2) 1 14 := ⟨by decide +kernel, rfl⟩
theorem e_X6_goOn_14 : Dc cX6_goOn 14 (.iconst (-1)) 1 15 := ⟨by decide +kernel, rfl⟩
theorem e_X6_goOn_15 : Dc cX6_goOn 15 (.ixor) 1 16 := ⟨by decide +kernel, rfl⟩
theorem e_X6_goOn_16 : Dc cX6_goOn 16 (.iand) 1 17 := ⟨by decide +kernel, rfl⟩
theorem e_X6_goOn_17 : Dc cX6_goOn 17 (.iload 4) 2 19 := ⟨by decide +kernel, rfl⟩
theorem e_X6_goOn_19 : Dc cX6_goOn 19 (.invokestatic 50) 3 22 := ⟨by decide +kernel, rfl⟩
theorem e_X6_goOn_22 : Dc cX6_goOn 22 (.ifCond .eq 74) 3 25 := ⟨by decide +kernel, rfl⟩
theorem e_X6_goOn_25 : Dc cX6_goOn 25 (.aload_n 1) 1 26 := ⟨by decide +kernel, rfl⟩
theorem e_X6_goOn_26 : Dc cX6_goOn 26 (.iload 4) 2 28 := ⟨by decide +kernel, rfl⟩
theorem e_X6_goOn_28 : Dc cX6_goOn 28 (.iconst 0) 1 29 := ⟨by decide +kernel, rfl⟩
theorem e_X6_goOn_29 : Dc cX6_goOn 29 (.invokevirtual 43) 3 32 := ⟨by decide +kernel, rfl⟩
theorem e_X6_goOn_32 : Dc cX6_goOn 32 (.istore 5) 2 34 := ⟨by decide +kernel, rfl⟩
theorem e_X6_goOn_34 : Dc cX6_goOn 34 (.aload_n 1) 1 35 := ⟨by decide +kernel, rfl⟩
theorem e_X6_goOn_35 : Dc cX6_goOn 35 (.iload 4) 2 37 := ⟨by decide +kernel, rfl⟩
theorem e_X6_goOn_37 : Dc cX6_goOn 37 (.iconst 1) 1 38 := ⟨by decide +kernel, rfl⟩
theorem e_X6_goOn_38 : Dc cX6_goOn 38 (.invokevirtual 43) 3 41 := ⟨by decide +kernel, rfl⟩
theorem e_X6_goOn_41 : Dc cX6_goOn 41 (.istore 6) 2 43 := ⟨by decide +kernel, rfl⟩
theorem e_X6_goOn_43 : Dc cX6_goOn 43 (.iload_n 2) 1 44 := ⟨by decide +kernel, rfl⟩
theorem e_X6_goOn_44 : Dc cX6_goOn 44 (.iconst 1) 1 45 := ⟨by decide +kernel, rfl⟩
theorem e_X6_goOn_45 : Dc cX6_goOn 45 (.iload 4) 2 47 := ⟨by decide +kernel, rfl⟩
theorem e_X6_goOn_47 : Dc cX6_goOn 47 (.ishl) 1 48 := ⟨by decide +kernel, rfl⟩
theorem e_X6_goOn_48 : Dc cX6_goOn 48 (.ior) 1 49 := ⟨by decide +kernel, rfl⟩
theorem e_X6_goOn_49 : Dc cX6_goOn 49 (.istore 7) 2 51 := ⟨by decide +kernel, rfl⟩
theorem e_X6_goOn_51 : Dc cX6_goOn 51 (.aload_n 1) 1 52 := ⟨by decide +kernel, rfl⟩
theorem e_X6_goOn_52 : Dc cX6_goOn 52 (.iload 4) 2 54 := ⟨by decide +kernel, rfl⟩
theorem e_X6_goOn_54 : Dc cX6_goOn 54 (.iconst 2) 1 55 := ⟨by decide +kernel, rfl⟩
theorem e_X6_goOn_55 : Dc cX6_goOn 55 (.invokevirtual 43) 3 58 := ⟨by decide +kernel, rfl⟩
theorem e_X6_goOn_58 : Dc cX6_goOn 58 (.istore 8) 2 60 := ⟨by decide +kernel, rfl⟩
theorem e_X6_goOn_60 : Dc cX6_goOn 60 (.aload_n 0) 1 61 := ⟨by decide +kernel, rfl⟩
theorem e_X6_goOn_61 : Dc cX6_goOn 61 (.iload 7) 2 63 := ⟨by decide +kernel, rfl⟩
theorem e_X6_goOn_63 : Dc cX6_goOn 63 (.iload 6) 2 65 := ⟨by decide +kernel, rfl⟩
theorem e_X6_goOn_65 : Dc cX6_goOn 65 (.aload_n 0) 1 66 := ⟨by decide +kernel, rfl⟩
theorem e_X6_goOn_66 : Dc cX6_goOn 66 (.iload_n 2) 1 67 := ⟨by decide +kernel, rfl⟩
theorem e_X6_goOn_67 : Dc cX6_goOn 67 (.iload 5) 2 69 := ⟨by decide +kernel, rfl⟩
theorem e_X6_goOn_69 : Dc cX6_goOn 69 (.invokevirtual 53) 3 72 := ⟨by decide +kernel, rfl⟩
theorem e_X6_goOn_72 : Dc cX6_goOn 72 (.iload 8) 2 74 := ⟨by decide +kernel, rfl⟩
theorem e_X6_goOn_74 : Dc cX6_goOn 74 (.iadd) 1 75 := ⟨by decide +kernel, rfl⟩
theorem e_X6_goOn_75 : Dc cX6_goOn 75 (.invokevirtual 56) 3 78 := ⟨by decide +kernel, rfl⟩
theorem e_X6_goOn_78 : Dc cX6_goOn 78 (.aload_n 0) 1 79 := ⟨by decide +kernel, rfl⟩
theorem e_X6_goOn_79 : Dc cX6_goOn 79 (.iload 7) 2 81 := ⟨by decide +kernel, rfl⟩
theorem e_X6_goOn_81 : Dc cX6_goOn 81 (.iload 5) 2 83 := ⟨by decide +kernel, rfl⟩
theorem e_X6_goOn_83 : Dc cX6_goOn 83 (.aload_n 0) 1 84 := ⟨by decide +kernel, rfl⟩
theorem e_X6_goOn_84 : Dc cX6_goOn 84 (.iload_n 2) 1 85 := ⟨by decide +kernel, rfl⟩
theorem e_X6_goOn_85 : Dc cX6_goOn 85 (.iload 6) 2 87 := ⟨by decide +kernel, rfl⟩
theorem e_X6_goOn_87 : Dc cX6_goOn 87 (.invokevirtual 53) 3 90 := ⟨by decide +kernel, rfl⟩
theorem e_X6_goOn_90 : Dc cX6_goOn 90 (.iload 8) 2 92 := ⟨by decide +kernel, rfl⟩
theorem e_X6_goOn_92 : Dc cX6_goOn 92 (.iadd) 1 93 := ⟨by decide +kernel, rfl⟩
theorem e_X6_goOn_93 : Dc cX6_goOn 93 (.invokevirtual 56) 3 96 := ⟨by decide +kernel, rfl⟩
theorem e_X6_goOn_96 : Dc cX6_goOn 96 (.iinc 4 1) 3 99 := ⟨by decide +kernel, rfl⟩
theorem e_X6_goOn_99 : Dc cX6_goOn 99 (.goto (-96)) 3 102 := ⟨by decide +kernel, rfl⟩
theorem e_X6_goOn_102 : Dc cX6_goOn 102 (.return_) 1 103 := ⟨by decide +kernel, rfl⟩
set_option maxHeartbeats 4000000 in
set_option maxRecDepth 20000 in
theorem R_X6_goOn (hD : DD E) (o1 : Nat) (x2 : Int32) (x3 : Int32) (ho1 : iRo o1) (s : Sg) : ∀ τ, (f_X6_goOn o1 x2 x3 s) = some τ → RV l E 2 M_X6_goOn [.ref (ead E 66), .ref (ead E o1), .int x2, .int x3] s τ := by
  refine ofU hD (by decide +kernel) (Nat.le_of_ble_eq_true rfl) (fun X C => ?_)
  show MF l E X (fun q : Sg => QV E X q) (f_X6_goOn o1 x2 x3 s) s 0 [(0, .ref (ead E 66)), (1, .ref (ead E o1)), (2, .int x2), (3, .int x3)] []
  unfold f_X6_goOn
  refine MF.iconst (v := (nI 0)) C e_X6_goOn_0 rfl ?_
  refine MF.istore (lv' := [(0, .ref (ead E 66)), (1, .ref (ead E o1)), (2, .int x2), (3, .int x3), (4, .int (nI 0))]) C e_X6_goOn_1 (by decide) rfl ?_
  refine MF.loop2 (fun i1 s2 => s2) (fun i1 s2 => [(0, .ref (ead E 66)), (1, .ref (ead E o1)), (2, .int x2), (3, .int x3), (4, .int i1)]) (fun self3 hself3 i1 s2 => ?_) fu (nI 0) s
  unfold b_X6_goOn_3
  refine MF.iload C e_X6_goOn_3 4 rfl ?_
  refine MF.aload_n C e_X6_goOn_5 1 rfl rfl ?_
  refine MF.callVP (As := []) C (R_X2_size hD o1 ho1 s2) m_X2_size k_X6_37 (iRo.o ho1) rfl (by decide) e_X6_goOn_6 rfl rfl (Nat.le_of_ble_eq_true rfl) (fun v4 => ?_)
  refine MF.icmp_ge (tgt := 102) C e_X6_goOn_9 (by decide) (fun _ => ?_) (fun _ => ?_)
  · exact MF.vret C e_X6_goOn_102
  · refine MF.iload_n C e_X6_goOn_12 3 rfl rfl ?_
    refine MF.iload_n C e_X6_goOn_13 2 rfl rfl ?_
    refine MF.iconst (v := (-1 : Int32)) C e_X6_goOn_14 rfl ?_
    refine MF.ixor C e_X6_goOn_15 ?_
    refine MF.iand C e_X6_goOn_16 ?_
    refine MF.iload C e_X6_goOn_17 4 rfl ?_
    refine MF.callSNP (As := [.int (x3 &&& (x2 ^^^ (-1 : Int32))), .int i1]) C (R_X7_holds hD (x3 &&& (x2 ^^^ (-1 : Int32))) i1 s2) m_X7_holds k_X6_50 (by decide) e_X6_goOn_19 rfl rfl (Nat.le_of_ble_eq_true rfl) (fun v5 => ?_)
    refine MF.join (fun j : Sg → Option Sg => ∀ (s6 : Sg), MF l E X (fun q : Sg => QV E X q) (j s6) s6 96 [(0, .ref (ead E 66)), (1, .ref (ead E o1)), (2, .int x2), (3, .int x3), (4, .int i1)] []) ?_ (fun j7 hj7 => ?_)
    · intro s6
      refine MF.iinc (v := (nI 1)) (lv' := [(0, .ref (ead E 66)), (1, .ref (ead E o1)), (2, .int x2), (3, .int x3), (4, .int (i1 + (nI 1)))]) C e_X6_goOn_96 4 rfl rfl (by decide) rfl ?_
      refine MF.goto (tgt := 3) C e_X6_goOn_99 (by decide) ?_
      exact hself3 (i1 + (nI 1)) s6
    refine MF.if_eq (tgt := 96) C e_X6_goOn_22 (by decide) (fun _ => ?_) (fun _ => ?_)
    · exact hj7 s2
    · refine MF.aload_n C e_X6_goOn_25 1 rfl rfl ?_
      refine MF.iload C e_X6_goOn_26 4 rfl ?_
      refine MF.iconst (v := (nI 0)) C e_X6_goOn_28 rfl ?_
      refine MF.callVP (As := [.int i1, .int (nI 0)]) C (R_X2_cell hD o1 i1 (nI 0) ho1 s2) m_X2_cell k_X6_43 (iRo.o ho1) rfl (by decide) e_X6_goOn_29 rfl rfl (Nat.le_of_ble_eq_true rfl) (fun v8 => ?_)
      refine MF.istore (lv' := [(0, .ref (ead E 66)), (1, .ref (ead E o1)), (2, .int x2), (3, .int x3), (4, .int i1), (5, .int v8)]) C e_X6_goOn_32 (by decide) rfl ?_
      refine MF.aload_n C e_X6_goOn_34 1 rfl rfl ?_
      refine MF.iload C e_X6_goOn_35 4 rfl ?_
      refine MF.iconst (v := (nI 1)) C e_X6_goOn_37 rfl ?_
      refine MF.callVP (As := [.int i1, .int (nI 1)]) C (R_X2_cell hD o1 i1 (nI 1) ho1 s2) m_X2_cell k_X6_43 (iRo.o ho1) rfl (by decide) e_X6_goOn_38 rfl rfl (Nat.le_of_ble_eq_true rfl) (fun v9 => ?_)
      refine MF.istore (lv' := [(0, .ref (ead E 66)), (1, .ref (ead E o1)), (2, .int x2), (3, .int x3), (4, .int i1), (5, .int v8), (6, .int v9)]) C e_X6_goOn_41 (by decide) rfl ?_
      refine MF.iload_n C e_X6_goOn_43 2 rfl rfl ?_
      refine MF.iconst (v := (nI 1)) C e_X6_goOn_44 rfl ?_
      refine MF.iload C e_X6_goOn_45 4 rfl ?_
      refine MF.ishl C e_X6_goOn_47 ?_
      refine MF.ior C e_X6_goOn_48 ?_
      refine MF.nmI (fun v10 => ?_)
      refine MF.istore (lv' := [(0, .ref (ead E 66)), (1, .ref (ead E o1)), (2, .int x2), (3, .int x3), (4, .int i1), (5, .int v8), (6, .int v9), (7, .int v10)]) C e_X6_goOn_49 (by decide) rfl ?_
      refine MF.aload_n C e_X6_goOn_51 1 rfl rfl ?_
      refine MF.iload C e_X6_goOn_52 4 rfl ?_
      refine MF.iconst (v := (nI 2)) C e_X6_goOn_54 rfl ?_
      refine MF.callVP (As := [.int i1, .int (nI 2)]) C (R_X2_cell hD o1 i1 (nI 2) ho1 s2) m_X2_cell k_X6_43 (iRo.o ho1) rfl (by decide) e_X6_goOn_55 rfl rfl (Nat.le_of_ble_eq_true rfl) (fun v11 => ?_)
      refine MF.istore (lv' := [(0, .ref (ead E 66)), (1, .ref (ead E o1)), (2, .int x2), (3, .int x3), (4, .int i1), (5, .int v8), (6, .int v9), (7, .int v10), (8, .int v11)]) C e_X6_goOn_58 (by decide) rfl ?_
      refine MF.aload_n C e_X6_goOn_60 0 rfl rfl ?_
      refine MF.iload C e_X6_goOn_61 7 rfl ?_
      refine MF.iload C e_X6_goOn_63 6 rfl ?_
      refine MF.aload_n C e_X6_goOn_65 0 rfl rfl ?_
      refine MF.iload_n C e_X6_goOn_66 2 rfl rfl ?_
      refine MF.iload C e_X6_goOn_67 5 rfl ?_
      refine MF.callVP (As := [.int x2, .int v8]) C (R_X6_soonest hD x2 v8 s2) m_X6_soonest k_X6_53 kO_66 rfl (by decide) e_X6_goOn_69 rfl rfl (Nat.le_of_ble_eq_true rfl) (fun v12 => ?_)
      refine MF.iload C e_X6_goOn_72 8 rfl ?_
      refine MF.iadd C e_X6_goOn_74 ?_
      refine MF.callVU (As := [.int v10, .int v9, .int (v12 + v11)]) C (R_X6_reach hD v10 v9 (v12 + v11) s2) m_X6_reach k_X6_56 kO_66 rfl (by decide) e_X6_goOn_75 rfl rfl (Nat.le_of_ble_eq_true rfl) (fun s13 => ?_)
      refine MF.aload_n C e_X6_goOn_78 0 rfl rfl ?_
      refine MF.iload C e_X6_goOn_79 7 rfl ?_
      refine MF.iload C e_X6_goOn_81 5 rfl ?_
      refine MF.aload_n C e_X6_goOn_83 0 rfl rfl ?_
      refine MF.iload_n C e_X6_goOn_84 2 rfl rfl ?_
      refine MF.iload C e_X6_goOn_85 6 rfl ?_
      refine MF.callVP (As := [.int x2, .int v9]) C (R_X6_soonest hD x2 v9 s13) m_X6_soonest k_X6_53 kO_66 rfl (by decide) e_X6_goOn_87 rfl rfl (Nat.le_of_ble_eq_true rfl) (fun v14 => ?_)
      refine MF.iload C e_X6_goOn_90 8 rfl ?_
      refine MF.iadd C e_X6_goOn_92 ?_
      refine MF.callVU (As := [.int v10, .int v8, .int (v14 + v11)]) C (R_X6_reach hD v10 v8 (v14 + v11) s13) m_X6_reach k_X6_56 kO_66 rfl (by decide) e_X6_goOn_93 rfl rfl (Nat.le_of_ble_eq_true rfl) (fun s15 => ?_)
      refine MF.sub [0, 1, 2, 3, 4] rfl ?_
      exact hj7 s15
theorem e_X6_shortest_0 : Dc cX6_shortest 0 (.iload_n 2) 1 1 := ⟨by decide +kernel, rfl⟩
theorem e_X6_shortest_1 : Dc cX6_shortest 1 (.bipush 8) 2 3 := ⟨by decide +kernel, rfl⟩
theorem e_X6_shortest_3 : Dc cX6_shortest 3 (.invokestatic 18) 3 6 := ⟨by decide +kernel, rfl⟩
theorem e_X6_shortest_6 : Dc cX6_shortest 6 (.ifCond .eq 13) 3 9 := ⟨by decide +kernel, rfl⟩
theorem e_X6_shortest_9 : Dc cX6_shortest 9 (.iload_n 3) 1 10 := ⟨by decide +kernel, rfl⟩
theorem e_X6_shortest_10 : Dc cX6_shortest 10 (.sipush 128) 3 13 := ⟨by decide +kernel, rfl⟩
theorem e_X6_shortest_13 : Dc cX6_shortest 13 (.invokestatic 18) 3 16 := ⟨by decide +kernel, rfl⟩
theorem e_X6_shortest_16 : Dc cX6_shortest 16 (.ifCond .ne 5) 3 19 := ⟨by decide +kernel, rfl⟩
theorem e_X6_shortest_19 : Dc cX6_shortest 19 (.iconst (-1)) 1 20 := ⟨by decide +kernel, rfl⟩
theorem e_X6_shortest_20 : Dc cX6_shortest 20 (.ireturn) 1 21 := ⟨by decide +kernel, rfl⟩
theorem e_X6_shortest_21 : Dc cX6_shortest 21 (.aload_n 0) 1 22 := ⟨by decide +kernel, rfl⟩
theorem e_X6_shortest_22 : Dc cX6_shortest 22 (.aload_n 1) 1 23 := ⟨by decide +kernel, rfl⟩
theorem e_X6_shortest_23 : Dc cX6_shortest 23 (.invokevirtual 22) 3 26 := ⟨by decide +kernel, rfl⟩
theorem e_X6_shortest_26 : Dc cX6_shortest 26 (.iconst 0) 1 27 := ⟨by decide +kernel, rfl⟩
theorem e_X6_shortest_27 : Dc cX6_shortest 27 (.istore 4) 2 29 := ⟨by decide +kernel, rfl⟩
theorem e_X6_shortest_29 : Dc cX6_shortest 29 (.iload 4) 2 31 := ⟨by decide +kernel, rfl⟩
theorem e_X6_shortest_31 : Dc cX6_shortest 31 (.aload_n 0) 1 32 := ⟨by decide +kernel, rfl⟩
theorem e_X6_shortest_32 : Dc cX6_shortest 32 (.getfield 15) 3 35 := ⟨by decide +kernel, rfl⟩
theorem e_X6_shortest_35 : Dc cX6_shortest 35 (.arraylength) 1 36 := ⟨by decide +kernel, rfl⟩
theorem e_X6_shortest_36 : Dc cX6_shortest 36 (.if_icmp .ge 18) 3 39 := ⟨by decide +kernel, rfl⟩
theorem e_X6_shortest_39 : Dc cX6_shortest 39 (.aload_n 0) 1 40 := ⟨by decide +kernel, rfl⟩
theorem e_X6_shortest_40 : Dc cX6_shortest 40 (.getfield 15) 3 43 := ⟨by decide +kernel, rfl⟩
theorem e_X6_shortest_43 : Dc cX6_shortest 43 (.iload 4) 2 45 := ⟨by decide +kernel, rfl⟩
theorem e_X6_shortest_45 : Dc cX6_shortest 45 (.ldc 26) 2 47 := ⟨by decide +kernel, rfl⟩
theorem e_X6_shortest_47 : Dc cX6_shortest 47 (.iastore) 1 48 := ⟨by decide +kernel, rfl⟩
theorem e_X6_shortest_48 : Dc cX6_shortest 48 (.iinc 4 1) 3 51 := ⟨by decide +kernel, rfl⟩
theorem e_X6_shortest_51 : Dc cX6_shortest 51 (.goto (-22)) 3 54 := ⟨by decide +kernel, rfl⟩
theorem e_X6_shortest_54 : Dc cX6_shortest 54 (.aload_n 0) 1 55 := ⟨by decide +kernel, rfl⟩
theorem e_X6_shortest_55 : Dc cX6_shortest 55 (.getfield 15) 3 58 := ⟨by decide +kernel, rfl⟩
theorem e_X6_shortest_58 : Dc cX6_shortest 58 (.iload_n 2) 1 59 := ⟨by decide +kernel, rfl⟩
theorem e_X6_shortest_59 : Dc cX6_shortest 59 (.iconst 0) 1 60 := ⟨by decide +kernel, rfl⟩
theorem e_X6_shortest_60 : Dc cX6_shortest 60 (.iastore) 1 61 := ⟨by decide +kernel, rfl⟩
theorem e_X6_shortest_61 : Dc cX6_shortest 61 (.iconst 0) 1 62 := ⟨by decide +kernel, rfl⟩
theorem e_X6_shortest_62 : Dc cX6_shortest 62 (.istore 4) 2 64 := ⟨by decide +kernel, rfl⟩
theorem e_X6_shortest_64 : Dc cX6_shortest 64 (.iload 4) 2 66 := ⟨by decide +kernel, rfl⟩
theorem e_X6_shortest_66 : Dc cX6_shortest 66 (.iload_n 3) 1 67 := ⟨by decide +kernel, rfl⟩
theorem e_X6_shortest_67 : Dc cX6_shortest 67 (.if_icmp .ge 26) 3 70 := ⟨by decide +kernel, rfl⟩
theorem e_X6_shortest_70 : Dc cX6_shortest 70 (.iload 4) 2 72 := ⟨by decide +kernel, rfl⟩
theorem e_X6_shortest_72 : Dc cX6_shortest 72 (.iload_n 3) 1 73 := ⟨by decide +kernel, rfl⟩
theorem e_X6_shortest_73 : Dc cX6_shortest 73 (.iand) 1 74 := ⟨by decide +kernel, rfl⟩
theorem e_X6_shortest_74 : Dc cX6_shortest 74 (.iload 4) 2 76 := ⟨by decide +kernel, rfl⟩
theorem e_X6_shortest_76 : Dc cX6_shortest 76 (.if_icmp .ne 11) 3 79 := ⟨by decide +kernel, rfl⟩
theorem e_X6_shortest_79 : Dc cX6_shortest 79 (.aload_n 0) 1 80 := ⟨by decide +kernel, rfl⟩
theorem e_X6_shortest_80 : Dc cX6_shortest 80 (.aload_n 1) 1 81 := ⟨by decide +kernel, rfl⟩
theorem e_X6_shortest_81 : Dc cX6_shortest 81 (.iload 4) 2 83 := ⟨by decide +kernel, rfl⟩
theorem e_X6_shortest_83 : Dc cX6_shortest 83 (.iload_n 3) 1 84 := ⟨by decide +kernel, rfl⟩
theorem e_X6_shortest_84 : Dc cX6_shortest 84 (.invokevirtual 27) 3 87 := ⟨by decide +kernel, rfl⟩
theorem e_X6_shortest_87 : Dc cX6_shortest 87 (.iinc 4 1) 3 90 := ⟨by decide +kernel, rfl⟩
theorem e_X6_shortest_90 : Dc cX6_shortest 90 (.goto (-26)) 3 93 := ⟨by decide +kernel, rfl⟩
theorem e_X6_shortest_93 : Dc cX6_shortest 93 (.ldc 26) 2 95 := ⟨by decide +kernel, rfl⟩
theorem e_X6_shortest_95 : Dc cX6_shortest 95 (.istore 4) 2 97 := ⟨by decide +kernel, rfl⟩
theorem e_X6_shortest_97 : Dc cX6_shortest 97 (.iconst 0) 1 98 := ⟨by decide +kernel, rfl⟩
theorem e_X6_shortest_98 : Dc cX6_shortest 98 (.istore 5) 2 100 := ⟨by decide +kernel, rfl⟩
theorem e_X6_shortest_100 : Dc cX6_shortest 100 (.iload 5) 2 102 := ⟨by decide +kernel, rfl⟩
theorem e_X6_shortest_102 : Dc cX6_shortest 102 (.bipush 8) 2 104 := ⟨by decide +kernel, rfl⟩
theorem e_X6_shortest_104 : Dc cX6_shortest 104 (.if_icmp .ge 28) 3 107 := ⟨by decide +kernel, rfl⟩
theorem e_X6_shortest_107 : Dc cX6_shortest 107 (.iload 4) 2 109 := ⟨by decide +kernel, rfl⟩
theorem e_X6_shortest_109 : Dc cX6_shortest 109 (.aload_n 0) 1 110 := ⟨by decide +kernel, rfl⟩
theorem e_X6_shortest_110 : Dc cX6_shortest 110 (.getfield 15) 3 113 := ⟨by decide +kernel, rfl⟩
theorem e_X6_shortest_113 : Dc cX6_shortest 113 (.iload_n 3) 1 114 := ⟨by decide +kernel, rfl⟩
theorem e_X6_shortest_114 : Dc cX6_shortest 114 (.bipush 8) 2 116 := ⟨by decide +kernel, rfl⟩
theorem e_X6_shortest_116 : Dc cX6_shortest 116 (.imul) 1 117 := ⟨by decide +kernel, rfl⟩
theorem e_X6_shortest_117 : Dc cX6_shortest 117 (.iload 5) 2 119 := ⟨by decide +kernel, rfl⟩
theorem e_X6_shortest_119 : Dc cX6_shortest 119 (.iadd) 1 120 := ⟨by decide +kernel, rfl⟩
theorem e_X6_shortest_120 : Dc cX6_shortest 120 (.iaload) 1 121 := ⟨by decide +kernel, rfl⟩
theorem e_X6_shortest_121 : Dc cX6_shortest 121 (.invokestatic 31) 3 124 := ⟨by decide +kernel, rfl⟩
theorem e_X6_shortest_124 : Dc cX6_shortest 124 (.istore 4) 2 126 := ⟨by decide +kernel, rfl⟩
theorem e_X6_shortest_126 : Dc cX6_shortest 126 (.iinc 5 1) 3 129 := ⟨by decide +kernel, rfl⟩
theorem e_X6_shortest_129 : Dc cX6_shortest 129 (.goto (-29)) 3 132 := ⟨by decide +kernel, rfl⟩
theorem e_X6_shortest_132 : Dc cX6_shortest 132 (.iload 4) 2 134 := ⟨by decide +kernel, rfl⟩
theorem e_X6_shortest_134 : Dc cX6_shortest 134 (.ldc 26) 2 136 := ⟨by decide +kernel, rfl⟩
theorem e_X6_shortest_136 : Dc cX6_shortest 136 (.if_icmp .ge 8) 3 139 := ⟨by decide +kernel, rfl⟩
theorem e_X6_shortest_139 : Dc cX6_shortest 139 (.iload 4) 2 141 := ⟨by decide +kernel, rfl⟩
theorem e_X6_shortest_141 : Dc cX6_shortest 141 (.goto 4) 3 144 := ⟨by decide +kernel, rfl⟩
theorem e_X6_shortest_144 : Dc cX6_shortest 144 (.iconst (-1)) 1 145 := ⟨by decide +kernel, rfl⟩
theorem e_X6_shortest_145 : Dc cX6_shortest 145 (.ireturn) 1 146 := ⟨by decide +kernel, rfl⟩
set_option maxHeartbeats 4000000 in
set_option maxRecDepth 20000 in
theorem R_X6_shortest (hD : DD E) (o1 : Nat) (x2 : Int32) (x3 : Int32) (ho1 : iRo o1) (s : Sg) : ∀ v τ, (f_X6_shortest o1 x2 x3 s) = some (v, τ) → RI l E 3 M_X6_shortest [.ref (ead E 66), .ref (ead E o1), .int x2, .int x3] s v τ := by
  refine ofI hD (by decide +kernel) (Nat.le_of_ble_eq_true rfl) (fun X C => ?_)
  show MF l E X (fun q : Int32 × Sg => QI E X q.1 q.2) (f_X6_shortest o1 x2 x3 s) s 0 [(0, .ref (ead E 66)), (1, .ref (ead E o1)), (2, .int x2), (3, .int x3)] []
  unfold f_X6_shortest
  refine MF.iload_n C e_X6_shortest_0 2 rfl rfl ?_
  refine MF.bipush (v := (nI 8)) C e_X6_shortest_1 (by decide) ?_
  refine MF.callSNP (As := [.int x2, .int (nI 8)]) C (R_X7_isBelow hD x2 (nI 8) s) m_X7_isBelow k_X6_18 (by decide) e_X6_shortest_3 rfl rfl (Nat.le_of_ble_eq_true rfl) (fun v1 => ?_)
  refine MF.if_eq (tgt := 19) C e_X6_shortest_6 (by decide) (fun _ => ?_) (fun _ => ?_)
  · refine MF.iconst (v := (-1 : Int32)) C e_X6_shortest_19 rfl ?_
    exact MF.iret C e_X6_shortest_20
  · refine MF.iload_n C e_X6_shortest_9 3 rfl rfl ?_
    refine MF.sipush (v := (nI 128)) C e_X6_shortest_10 (by decide) ?_
    refine MF.callSNP (As := [.int x3, .int (nI 128)]) C (R_X7_isBelow hD x3 (nI 128) s) m_X7_isBelow k_X6_18 (by decide) e_X6_shortest_13 rfl rfl (Nat.le_of_ble_eq_true rfl) (fun v2 => ?_)
    refine MF.if_ne (tgt := 21) C e_X6_shortest_16 (by decide) (fun _ => ?_) (fun _ => ?_)
    · refine MF.aload_n C e_X6_shortest_21 0 rfl rfl ?_
      refine MF.aload_n C e_X6_shortest_22 1 rfl rfl ?_
      refine MF.callVU (As := [.ref (ead E o1)]) C (R_X6_measure hD o1 ho1 s) m_X6_measure k_X6_22 kO_66 rfl (by decide) e_X6_shortest_23 rfl rfl (Nat.le_of_ble_eq_true rfl) (fun s3 => ?_)
      refine MF.iconst (v := (nI 0)) C e_X6_shortest_26 rfl ?_
      refine MF.istore (lv' := [(0, .ref (ead E 66)), (1, .ref (ead E o1)), (2, .int x2), (3, .int x3), (4, .int (nI 0))]) C e_X6_shortest_27 (by decide) rfl ?_
      refine MF.join (fun j : Sg → Option (Int32 × Sg) => ∀ (s4 : Sg), MF l E X (fun q : Int32 × Sg => QI E X q.1 q.2) (j s4) s4 54 [(0, .ref (ead E 66)), (1, .ref (ead E o1)), (2, .int x2), (3, .int x3)] []) ?_ (fun j5 hj5 => ?_)
      · intro s4
        refine MF.aload_n C e_X6_shortest_54 0 rfl rfl ?_
        refine MF.getR (j := 68) C cf_X6 l_X6_15 e_X6_shortest_55 kF_66_1 ?_
        refine MF.iload_n C e_X6_shortest_58 2 rfl rfl ?_
        refine MF.iconst (v := (nI 0)) C e_X6_shortest_59 rfl ?_
        refine MF.iast C e_X6_shortest_60 kA_68 (fun s6 => ?_)
        refine MF.iconst (v := (nI 0)) C e_X6_shortest_61 rfl ?_
        refine MF.istore (lv' := [(0, .ref (ead E 66)), (1, .ref (ead E o1)), (2, .int x2), (3, .int x3), (4, .int (nI 0))]) C e_X6_shortest_62 (by decide) rfl ?_
        refine MF.sub [0, 1, 3, 4] rfl ?_
        refine MF.join (fun j : Sg → Option (Int32 × Sg) => ∀ (s7 : Sg), MF l E X (fun q : Int32 × Sg => QI E X q.1 q.2) (j s7) s7 93 [(0, .ref (ead E 66)), (3, .int x3)] []) ?_ (fun j8 hj8 => ?_)
        · intro s7
          refine MF.ldc C e_X6_shortest_93 t_X6_26 ?_
          refine MF.istore (lv' := [(0, .ref (ead E 66)), (3, .int x3), (4, .int (nI 1000000))]) C e_X6_shortest_95 (by decide) rfl ?_
          refine MF.iconst (v := (nI 0)) C e_X6_shortest_97 rfl ?_
          refine MF.istore (lv' := [(0, .ref (ead E 66)), (3, .int x3), (4, .int (nI 1000000)), (5, .int (nI 0))]) C e_X6_shortest_98 (by decide) rfl ?_
          refine MF.join (fun j : Int32 → Option (Int32 × Sg) => ∀ (a9 : Int32), MF l E X (fun q : Int32 × Sg => QI E X q.1 q.2) (j a9) s7 132 [(4, .int a9)] []) ?_ (fun j10 hj10 => ?_)
          · intro a9
            refine MF.iload C e_X6_shortest_132 0 rfl ?_
            refine MF.ldc C e_X6_shortest_134 t_X6_26 ?_
            refine MF.icmp_ge (tgt := 144) C e_X6_shortest_136 (by decide) (fun _ => ?_) (fun _ => ?_)
            · refine MF.iconst (v := (-1 : Int32)) C e_X6_shortest_144 rfl ?_
              exact MF.iret C e_X6_shortest_145
            · refine MF.iload C e_X6_shortest_139 0 rfl ?_
              refine MF.goto (tgt := 145) C e_X6_shortest_141 (by decide) ?_
              exact MF.iret C e_X6_shortest_145
          refine MF.loop2 (fun i11 i12 => s7) (fun i11 i12 => [(0, .ref (ead E 66)), (3, .int x3), (4, .int i11), (5, .int i12)]) (fun self13 hself13 i11 i12 => ?_) fu (nI 1000000) (nI 0)
          unfold b_X6_shortest_100
          refine MF.iload C e_X6_shortest_100 3 rfl ?_
          refine MF.bipush (v := (nI 8)) C e_X6_shortest_102 (by decide) ?_
          refine MF.icmp_ge (tgt := 132) C e_X6_shortest_104 (by decide) (fun _ => ?_) (fun _ => ?_)
          · refine MF.sub [2] rfl ?_
            exact hj10 i11
          · refine MF.iload C e_X6_shortest_107 2 rfl ?_
            refine MF.aload_n C e_X6_shortest_109 0 rfl rfl ?_
            refine MF.getR (j := 68) C cf_X6 l_X6_15 e_X6_shortest_110 kF_66_1 ?_
            refine MF.iload_n C e_X6_shortest_113 1 rfl rfl ?_
            refine MF.bipush (v := (nI 8)) C e_X6_shortest_114 (by decide) ?_
            refine MF.imul C e_X6_shortest_116 ?_
            refine MF.iload C e_X6_shortest_117 3 rfl ?_
            refine MF.iadd C e_X6_shortest_119 ?_
            refine MF.iald C e_X6_shortest_120 kA_68 (fun v14 => ?_)
            refine MF.min C k_X6_31 e_X6_shortest_121 (by decide) (Nat.le_of_ble_eq_true rfl) ?_
            refine MF.nmI (fun v15 => ?_)
            refine MF.istore (lv' := [(0, .ref (ead E 66)), (3, .int x3), (4, .int v15), (5, .int i12)]) C e_X6_shortest_124 (by decide) rfl ?_
            refine MF.iinc (v := (nI 1)) (lv' := [(0, .ref (ead E 66)), (3, .int x3), (4, .int v15), (5, .int (i12 + (nI 1)))]) C e_X6_shortest_126 3 rfl rfl (by decide) rfl ?_
            refine MF.goto (tgt := 100) C e_X6_shortest_129 (by decide) ?_
            exact hself13 v15 (i12 + (nI 1))
        refine MF.loop2 (fun i16 s17 => s17) (fun i16 s17 => [(0, .ref (ead E 66)), (1, .ref (ead E o1)), (3, .int x3), (4, .int i16)]) (fun self18 hself18 i16 s17 => ?_) fu (nI 0) s6
        unfold b_X6_shortest_64
        refine MF.iload C e_X6_shortest_64 3 rfl ?_
        refine MF.iload_n C e_X6_shortest_66 2 rfl rfl ?_
        refine MF.icmp_ge (tgt := 93) C e_X6_shortest_67 (by decide) (fun _ => ?_) (fun _ => ?_)
        · refine MF.sub [0, 2] rfl ?_
          exact hj8 s17
        · refine MF.iload C e_X6_shortest_70 3 rfl ?_
          refine MF.iload_n C e_X6_shortest_72 2 rfl rfl ?_
          refine MF.iand C e_X6_shortest_73 ?_
          refine MF.iload C e_X6_shortest_74 3 rfl ?_
          refine MF.join (fun j : Sg → Option (Int32 × Sg) => ∀ (s19 : Sg), MF l E X (fun q : Int32 × Sg => QI E X q.1 q.2) (j s19) s19 87 [(0, .ref (ead E 66)), (1, .ref (ead E o1)), (3, .int x3), (4, .int i16)] []) ?_ (fun j20 hj20 => ?_)
          · intro s19
            refine MF.iinc (v := (nI 1)) (lv' := [(0, .ref (ead E 66)), (1, .ref (ead E o1)), (3, .int x3), (4, .int (i16 + (nI 1)))]) C e_X6_shortest_87 3 rfl rfl (by decide) rfl ?_
            refine MF.goto (tgt := 64) C e_X6_shortest_90 (by decide) ?_
            exact hself18 (i16 + (nI 1)) s19
          refine MF.icmp_ne (tgt := 87) C e_X6_shortest_76 (by decide) (fun _ => ?_) (fun _ => ?_)
          · exact hj20 s17
          · refine MF.aload_n C e_X6_shortest_79 0 rfl rfl ?_
            refine MF.aload_n C e_X6_shortest_80 1 rfl rfl ?_
            refine MF.iload C e_X6_shortest_81 3 rfl ?_
            refine MF.iload_n C e_X6_shortest_83 2 rfl rfl ?_
            refine MF.callVU (As := [.ref (ead E o1), .int i16, .int x3]) C (R_X6_goOn hD o1 i16 x3 ho1 s17) m_X6_goOn k_X6_27 kO_66 rfl (by decide) e_X6_shortest_84 rfl rfl (Nat.le_of_ble_eq_true rfl) (fun s21 => ?_)
            exact hj20 s21
      refine MF.loop2 (fun i22 s23 => s23) (fun i22 s23 => [(0, .ref (ead E 66)), (1, .ref (ead E o1)), (2, .int x2), (3, .int x3), (4, .int i22)]) (fun self24 hself24 i22 s23 => ?_) fu (nI 0) s3
      unfold b_X6_shortest_29
      refine MF.iload C e_X6_shortest_29 4 rfl ?_
      refine MF.aload_n C e_X6_shortest_31 0 rfl rfl ?_
      refine MF.getR (j := 68) C cf_X6 l_X6_15 e_X6_shortest_32 kF_66_1 ?_
      refine MF.alenI C e_X6_shortest_35 kA_68 ?_
      refine MF.icmp_ge (tgt := 54) C e_X6_shortest_36 (by decide) (fun _ => ?_) (fun _ => ?_)
      · refine MF.sub [0, 1, 2, 3] rfl ?_
        exact hj5 s23
      · refine MF.aload_n C e_X6_shortest_39 0 rfl rfl ?_
        refine MF.getR (j := 68) C cf_X6 l_X6_15 e_X6_shortest_40 kF_66_1 ?_
        refine MF.iload C e_X6_shortest_43 4 rfl ?_
        refine MF.ldc C e_X6_shortest_45 t_X6_26 ?_
        refine MF.iast C e_X6_shortest_47 kA_68 (fun s25 => ?_)
        refine MF.iinc (v := (nI 1)) (lv' := [(0, .ref (ead E 66)), (1, .ref (ead E o1)), (2, .int x2), (3, .int x3), (4, .int (i22 + (nI 1)))]) C e_X6_shortest_48 4 rfl rfl (by decide) rfl ?_
        refine MF.goto (tgt := 29) C e_X6_shortest_51 (by decide) ?_
        exact hself24 (i22 + (nI 1)) s25
    · refine MF.iconst (v := (-1 : Int32)) C e_X6_shortest_19 rfl ?_
      exact MF.iret C e_X6_shortest_20
theorem e_X7_refuseBad_0 : Dc cX7_refuseBad 0 (.aload_n 0) 1 1 := ⟨by decide +kernel, rfl⟩
theorem e_X7_refuseBad_1 : Dc cX7_refuseBad 1 (.dup) 1 2 := ⟨by decide +kernel, rfl⟩
theorem e_X7_refuseBad_2 : Dc cX7_refuseBad 2 (.getfield 70) 3 5 := ⟨by decide +kernel, rfl⟩
theorem e_X7_refuseBad_5 : Dc cX7_refuseBad 5 (.iconst 1) 1 6 := ⟨by decide +kernel, rfl⟩
theorem e_X7_refuseBad_6 : Dc cX7_refuseBad 6 (.iadd) 1 7 := ⟨by decide +kernel, rfl⟩
theorem e_X7_refuseBad_7 : Dc cX7_refuseBad 7 (.putfield 70) 3 10 := ⟨by decide +kernel, rfl⟩
theorem e_X7_refuseBad_10 : Dc cX7_refuseBad 10 (.bipush (-2)) 2 12 := ⟨by decide +kernel, rfl⟩
theorem e_X7_refuseBad_12 : Dc cX7_refuseBad 12 (.ireturn) 1 13 := ⟨by decide +kernel, rfl⟩
set_option maxHeartbeats 4000000 in
set_option maxRecDepth 20000 in
theorem R_X7_refuseBad (hD : DD E) (s : Sg) : ∀ v τ, (f_X7_refuseBad s) = some (v, τ) → RI l E 0 M_X7_refuseBad [.ref (ead E 0)] s v τ := by
  refine ofI hD (by decide +kernel) (Nat.le_of_ble_eq_true rfl) (fun X C => ?_)
  show MF l E X (fun q : Int32 × Sg => QI E X q.1 q.2) (f_X7_refuseBad s) s 0 [(0, .ref (ead E 0))] []
  unfold f_X7_refuseBad
  refine MF.aload_n C e_X7_refuseBad_0 0 rfl rfl ?_
  refine MF.dup C e_X7_refuseBad_1 rfl ?_
  refine MF.get C cf_X7 l_X7_70 e_X7_refuseBad_2 kF_0_11 ?_
  refine MF.iconst (v := (nI 1)) C e_X7_refuseBad_5 rfl ?_
  refine MF.iadd C e_X7_refuseBad_6 ?_
  refine MF.put C cf_X7 l_X7_70 p_X7_11 e_X7_refuseBad_7 kF_0_11 rfl ?_
  refine MF.nmS (fun s1 => ?_)
  refine MF.bipush (v := (-2 : Int32)) C e_X7_refuseBad_10 (by decide) ?_
  exact MF.iret C e_X7_refuseBad_12
theorem e_X7_refuseFull_0 : Dc cX7_refuseFull 0 (.aload_n 0) 1 1 := ⟨by decide +kernel, rfl⟩
theorem e_X7_refuseFull_1 : Dc cX7_refuseFull 1 (.dup) 1 2 := ⟨by decide +kernel, rfl⟩
theorem e_X7_refuseFull_2 : Dc cX7_refuseFull 2 (.getfield 76) 3 5 := ⟨by decide +kernel, rfl⟩
theorem e_X7_refuseFull_5 : Dc cX7_refuseFull 5 (.iconst 1) 1 6 := ⟨by decide +kernel, rfl⟩
theorem e_X7_refuseFull_6 : Dc cX7_refuseFull 6 (.iadd) 1 7 := ⟨by decide +kernel, rfl⟩
theorem e_X7_refuseFull_7 : Dc cX7_refuseFull 7 (.putfield 76) 3 10 := ⟨by decide +kernel, rfl⟩
theorem e_X7_refuseFull_10 : Dc cX7_refuseFull 10 (.bipush (-4)) 2 12 := ⟨by decide +kernel, rfl⟩
theorem e_X7_refuseFull_12 : Dc cX7_refuseFull 12 (.ireturn) 1 13 := ⟨by decide +kernel, rfl⟩
set_option maxHeartbeats 4000000 in
set_option maxRecDepth 20000 in
theorem R_X7_refuseFull (hD : DD E) (s : Sg) : ∀ v τ, (f_X7_refuseFull s) = some (v, τ) → RI l E 0 M_X7_refuseFull [.ref (ead E 0)] s v τ := by
  refine ofI hD (by decide +kernel) (Nat.le_of_ble_eq_true rfl) (fun X C => ?_)
  show MF l E X (fun q : Int32 × Sg => QI E X q.1 q.2) (f_X7_refuseFull s) s 0 [(0, .ref (ead E 0))] []
  unfold f_X7_refuseFull
  refine MF.aload_n C e_X7_refuseFull_0 0 rfl rfl ?_
  refine MF.dup C e_X7_refuseFull_1 rfl ?_
  refine MF.get C cf_X7 l_X7_76 e_X7_refuseFull_2 kF_0_13 ?_
  refine MF.iconst (v := (nI 1)) C e_X7_refuseFull_5 rfl ?_
  refine MF.iadd C e_X7_refuseFull_6 ?_
  refine MF.put C cf_X7 l_X7_76 p_X7_13 e_X7_refuseFull_7 kF_0_13 rfl ?_
  refine MF.nmS (fun s1 => ?_)
  refine MF.bipush (v := (-4 : Int32)) C e_X7_refuseFull_10 (by decide) ?_
  exact MF.iret C e_X7_refuseFull_12
theorem e_X7_tell_0 : Dc cX7_tell 0 (.iconst 0) 1 1 := ⟨by decide +kernel, rfl⟩
theorem e_X7_tell_1 : Dc cX7_tell 1 (.istore_n 2) 1 2 := ⟨by decide +kernel, rfl⟩
theorem e_X7_tell_2 : Dc cX7_tell 2 (.iload_n 2) 1 3 := ⟨by decide +kernel, rfl⟩
theorem e_X7_tell_3 : Dc cX7_tell 3 (.getstatic 258) 3 6 := ⟨by decide +kernel, rfl⟩
theorem e_X7_tell_6 : Dc cX7_tell 6 (.iload_n 1) 1 7 := ⟨by decide +kernel, rfl⟩
theorem e_X7_tell_7 : Dc cX7_tell 7 (.iaload) 1 8 := ⟨by decide +kernel, rfl⟩
theorem e_X7_tell_8 : Dc cX7_tell 8 (.if_icmp .ge 30) 3 11 := ⟨by decide +kernel, rfl⟩
theorem e_X7_tell_11 : Dc cX7_tell 11 (.aload_n 0) 1 12 := ⟨by decide +kernel, rfl⟩
theorem e_X7_tell_12 : Dc cX7_tell 12 (.getfield 10) 3 15 := ⟨by decide +kernel, rfl⟩
theorem e_X7_tell_15 : Dc cX7_tell 15 (.iload_n 1) 1 16 := ⟨by decide +kernel, rfl⟩
theorem e_X7_tell_16 : Dc cX7_tell 16 (.iload_n 2) 1 17 := ⟨by decide +kernel, rfl⟩
theorem e_X7_tell_17 : Dc cX7_tell 17 (.aload_n 0) 1 18 := ⟨by decide +kernel, rfl⟩
theorem e_X7_tell_18 : Dc cX7_tell 18 (.getfield 62) 3 21 := ⟨by decide +kernel, rfl⟩
theorem e_X7_tell_21 : Dc cX7_tell 21 (.invokevirtual 261) 3 24 := ⟨by decide +kernel, rfl⟩
theorem e_X7_tell_24 : Dc cX7_tell 24 (.ifCond .ne 8) 3 27 := ⟨by decide +kernel, rfl⟩
theorem e_X7_tell_27 : Dc cX7_tell 27 (.aload_n 0) 1 28 := ⟨by decide +kernel, rfl⟩
theorem e_X7_tell_28 : Dc cX7_tell 28 (.invokevirtual 97) 3 31 := ⟨by decide +kernel, rfl⟩
theorem e_X7_tell_31 : Dc cX7_tell 31 (.ireturn) 1 32 := ⟨by decide +kernel, rfl⟩
theorem e_X7_tell_32 : Dc cX7_tell 32 (.iinc 2 1) 3 35 := ⟨by decide +kernel, rfl⟩
theorem e_X7_tell_35 : Dc cX7_tell 35 (.goto (-33)) 3 38 := ⟨by decide +kernel, rfl⟩
theorem e_X7_tell_38 : Dc cX7_tell 38 (.aload_n 0) 1 39 := ⟨by decide +kernel, rfl⟩
theorem e_X7_tell_39 : Dc cX7_tell 39 (.getfield 10) 3 42 := ⟨by decide +kernel, rfl⟩
theorem e_X7_tell_42 : Dc cX7_tell 42 (.iload_n 1) 1 43 := ⟨by decide +kernel, rfl⟩
theorem e_X7_tell_43 : Dc cX7_tell 43 (.invokevirtual 265) 3 46 := ⟨by decide +kernel, rfl⟩
theorem e_X7_tell_46 : Dc cX7_tell 46 (.ifCond .eq 8) 3 49 := ⟨by decide +kernel, rfl⟩
theorem e_X7_tell_49 : Dc cX7_tell 49 (.aload_n 0) 1 50 := ⟨by decide +kernel, rfl⟩
theorem e_X7_tell_50 : Dc cX7_tell 50 (.invokevirtual 123) 3 53 := ⟨by decide +kernel, rfl⟩
theorem e_X7_tell_53 : Dc cX7_tell 53 (.ireturn) 1 54 := ⟨by decide +kernel, rfl⟩
theorem e_X7_tell_54 : Dc cX7_tell 54 (.aload_n 0) 1 55 := ⟨by decide +kernel, rfl⟩
theorem e_X7_tell_55 : Dc cX7_tell 55 (.getfield 10) 3 58 := ⟨by decide +kernel, rfl⟩
theorem e_X7_tell_58 : Dc cX7_tell 58 (.iload_n 1) 1 59 := ⟨by decide +kernel, rfl⟩
theorem e_X7_tell_59 : Dc cX7_tell 59 (.aload_n 0) 1 60 := ⟨by decide +kernel, rfl⟩
theorem e_X7_tell_60 : Dc cX7_tell 60 (.getfield 62) 3 63 := ⟨by decide +kernel, rfl⟩
theorem e_X7_tell_63 : Dc cX7_tell 63 (.invokevirtual 268) 3 66 := ⟨by decide +kernel, rfl⟩
theorem e_X7_tell_66 : Dc cX7_tell 66 (.ireturn) 1 67 := ⟨by decide +kernel, rfl⟩
set_option maxHeartbeats 4000000 in
set_option maxRecDepth 20000 in
theorem R_X7_tell (hD : DD E) (x1 : Int32) (s : Sg) : ∀ v τ, (f_X7_tell x1 s) = some (v, τ) → RI l E 5 M_X7_tell [.ref (ead E 0), .int x1] s v τ := by
  refine ofI hD (by decide +kernel) (Nat.le_of_ble_eq_true rfl) (fun X C => ?_)
  show MF l E X (fun q : Int32 × Sg => QI E X q.1 q.2) (f_X7_tell x1 s) s 0 [(0, .ref (ead E 0)), (1, .int x1)] []
  unfold f_X7_tell
  refine MF.iconst (v := (nI 0)) C e_X7_tell_0 rfl ?_
  refine MF.istore_n (lv' := [(0, .ref (ead E 0)), (1, .int x1), (2, .int (nI 0))]) C e_X7_tell_1 (by decide) rfl ?_
  refine MF.join (fun j : Unit → Option (Int32 × Sg) => ∀ (_u : Unit), MF l E X (fun q : Int32 × Sg => QI E X q.1 q.2) (j _u) s 38 [(0, .ref (ead E 0)), (1, .int x1)] []) ?_ (fun j1 hj1 => ?_)
  · intro _
    refine MF.aload_n C e_X7_tell_38 0 rfl rfl ?_
    refine MF.getR (j := 1) C cf_X7 l_X7_10 e_X7_tell_39 kF_0_0 ?_
    refine MF.iload_n C e_X7_tell_42 1 rfl rfl ?_
    refine MF.callVP (As := [.int x1]) C (R_X5_hasNoRoomFor hD 1 x1 kT_1 s) m_X5_hasNoRoomFor k_X7_265 (iTo.o kT_1) rfl (by decide) e_X7_tell_43 rfl rfl (Nat.le_of_ble_eq_true rfl) (fun v2 => ?_)
    refine MF.if_eq (tgt := 54) C e_X7_tell_46 (by decide) (fun _ => ?_) (fun _ => ?_)
    · refine MF.aload_n C e_X7_tell_54 0 rfl rfl ?_
      refine MF.getR (j := 1) C cf_X7 l_X7_10 e_X7_tell_55 kF_0_0 ?_
      refine MF.iload_n C e_X7_tell_58 1 rfl rfl ?_
      refine MF.aload_n C e_X7_tell_59 0 rfl rfl ?_
      refine MF.getR (j := 69) C cf_X7 l_X7_62 e_X7_tell_60 kF_0_9 ?_
      refine MF.callVI (As := [.int x1, .ref (ead E 69)]) C (R_X5_take hD 1 x1 69 kT_1 kA_69 s) m_X5_take k_X7_268 (iTo.o kT_1) rfl (by decide) e_X7_tell_63 rfl rfl (Nat.le_of_ble_eq_true rfl) (fun v3 s4 => ?_)
      exact MF.iret C e_X7_tell_66
    · refine MF.aload_n C e_X7_tell_49 0 rfl rfl ?_
      refine MF.callVI (As := []) C (R_X7_refuseFull hD s) m_X7_refuseFull k_X7_123 kO_0 rfl (by decide) e_X7_tell_50 rfl rfl (Nat.le_of_ble_eq_true rfl) (fun v5 s6 => ?_)
      exact MF.iret C e_X7_tell_53
  refine MF.loop1 (fun i7 => s) (fun i7 => [(0, .ref (ead E 0)), (1, .int x1), (2, .int i7)]) (fun self8 hself8 i7 => ?_) fu (nI 0)
  unfold b_X7_tell_2
  refine MF.iload_n C e_X7_tell_2 2 rfl rfl ?_
  refine MF.getT (t := 0) C (by decide) l_X7_258 e_X7_tell_3 ?_
  refine MF.iload_n C e_X7_tell_6 1 rfl rfl ?_
  refine MF.tald C (by decide) e_X7_tell_7 (fun v9 => ?_)
  refine MF.icmp_ge (tgt := 38) C e_X7_tell_8 (by decide) (fun _ => ?_) (fun _ => ?_)
  · refine MF.sub [0, 1] rfl ?_
    exact hj1 ()
  · refine MF.aload_n C e_X7_tell_11 0 rfl rfl ?_
    refine MF.getR (j := 1) C cf_X7 l_X7_10 e_X7_tell_12 kF_0_0 ?_
    refine MF.iload_n C e_X7_tell_15 1 rfl rfl ?_
    refine MF.iload_n C e_X7_tell_16 2 rfl rfl ?_
    refine MF.aload_n C e_X7_tell_17 0 rfl rfl ?_
    refine MF.getR (j := 69) C cf_X7 l_X7_62 e_X7_tell_18 kF_0_9 ?_
    refine MF.callVP (As := [.int x1, .int i7, .ref (ead E 69)]) C (R_X5_fits hD 1 x1 i7 69 kT_1 kA_69 s) m_X5_fits k_X7_261 (iTo.o kT_1) rfl (by decide) e_X7_tell_21 rfl rfl (Nat.le_of_ble_eq_true rfl) (fun v10 => ?_)
    refine MF.if_ne (tgt := 32) C e_X7_tell_24 (by decide) (fun _ => ?_) (fun _ => ?_)
    · refine MF.iinc (v := (nI 1)) (lv' := [(0, .ref (ead E 0)), (1, .int x1), (2, .int (i7 + (nI 1)))]) C e_X7_tell_32 2 rfl rfl (by decide) rfl ?_
      refine MF.goto (tgt := 2) C e_X7_tell_35 (by decide) ?_
      exact hself8 (i7 + (nI 1))
    · refine MF.aload_n C e_X7_tell_27 0 rfl rfl ?_
      refine MF.callVI (As := []) C (R_X7_refuseBad hD s) m_X7_refuseBad k_X7_97 kO_0 rfl (by decide) e_X7_tell_28 rfl rfl (Nat.le_of_ble_eq_true rfl) (fun v11 s12 => ?_)
      exact MF.iret C e_X7_tell_31
end WK
