section WK
variable {l : Launch} {E : EX}
theorem e_X8_law_0 : Dc cX8_law 0 (.iload_n 1) 1 1 := ⟨by decide +kernel, rfl⟩
theorem e_X8_law_1 : Dc cX8_law 1 (.i2l) 1 2 := ⟨by decide +kernel, rfl⟩
theorem e_X8_law_2 : Dc cX8_law 2 (.lconst 0) 1 3 := ⟨by decide +kernel, rfl⟩
theorem e_X8_law_3 : Dc cX8_law 3 (.ldc2_w 86) 3 6 := ⟨by decide +kernel, rfl⟩
theorem e_X8_law_6 : Dc cX8_law 6 (.invokestatic 75) 3 9 := ⟨by decide +kernel, rfl⟩
theorem e_X8_law_9 : Dc cX8_law 9 (.ifCond .ne 10) 3 12 := ⟨by decide +kernel, rfl⟩
theorem e_X8_law_12 : Dc cX8_law 12 (.aload_n 0) 1 13 := ⟨by decide +kernel, rfl⟩
theorem e_X8_law_13 : Dc cX8_law 13 (.bipush (-2)) 2 15 := ⟨by decide +kernel, rfl⟩
theorem e_X8_law_15 : Dc cX8_law 15 (.invokevirtual 88) 3 18 := ⟨by decide +kernel, rfl⟩
theorem e_X8_law_18 : Dc cX8_law 18 (.ireturn) 1 19 := ⟨by decide +kernel, rfl⟩
theorem e_X8_law_19 : Dc cX8_law 19 (.aload_n 0) 1 20 := ⟨by decide +kernel, rfl⟩
theorem e_X8_law_20 : Dc cX8_law 20 (.invokevirtual 119) 3 23 := ⟨by decide +kernel, rfl⟩
theorem e_X8_law_23 : Dc cX8_law 23 (.aload_n 0) 1 24 := ⟨by decide +kernel, rfl⟩
theorem e_X8_law_24 : Dc cX8_law 24 (.getfield 7) 3 27 := ⟨by decide +kernel, rfl⟩
theorem e_X8_law_27 : Dc cX8_law 27 (.iconst 2) 1 28 := ⟨by decide +kernel, rfl⟩
theorem e_X8_law_28 : Dc cX8_law 28 (.iaload) 1 29 := ⟨by decide +kernel, rfl⟩
theorem e_X8_law_29 : Dc cX8_law 29 (.istore_n 2) 1 30 := ⟨by decide +kernel, rfl⟩
theorem e_X8_law_30 : Dc cX8_law 30 (.aload_n 0) 1 31 := ⟨by decide +kernel, rfl⟩
theorem e_X8_law_31 : Dc cX8_law 31 (.getfield 7) 3 34 := ⟨by decide +kernel, rfl⟩
theorem e_X8_law_34 : Dc cX8_law 34 (.iconst 2) 1 35 := ⟨by decide +kernel, rfl⟩
theorem e_X8_law_35 : Dc cX8_law 35 (.iload_n 1) 1 36 := ⟨by decide +kernel, rfl⟩
theorem e_X8_law_36 : Dc cX8_law 36 (.iastore) 1 37 := ⟨by decide +kernel, rfl⟩
theorem e_X8_law_37 : Dc cX8_law 37 (.iload_n 2) 1 38 := ⟨by decide +kernel, rfl⟩
theorem e_X8_law_38 : Dc cX8_law 38 (.ireturn) 1 39 := ⟨by decide +kernel, rfl⟩
set_option maxHeartbeats 4000000 in
set_option maxRecDepth 20000 in
theorem R_X8_law (hD : DD E) (x1 : Int32) (s : Sg) : ∀ v τ, (f_X8_law x1 s) = some (v, τ) → RI l E 2 M_X8_law [.ref (ead E 70), .int x1] s v τ := by
  refine ofI hD (by decide +kernel) (Nat.le_of_ble_eq_true rfl) (fun X C => ?_)
  show MF l E X (fun q : Int32 × Sg => QI E X q.1 q.2) (f_X8_law x1 s) s 0 [(0, .ref (ead E 70)), (1, .int x1)] []
  unfold f_X8_law
  refine MF.iload_n C e_X8_law_0 1 rfl rfl ?_
  refine MF.i2l C e_X8_law_1 ?_
  refine MF.lconst (v := (0 : Int64)) C e_X8_law_2 (by decide) ?_
  refine MF.ldc2 C e_X8_law_3 t_X8_86 ?_
  refine MF.callSP (As := [.long (Int32.toInt64 x1), .long (0 : Int64), .long (2 : Int64)]) C (R_X8_in hD (Int32.toInt64 x1) (0 : Int64) (2 : Int64) s) m_X8_in k_X8_75 (by decide) e_X8_law_6 rfl rfl (Nat.le_of_ble_eq_true rfl) (fun v1 => ?_)
  refine MF.if_ne (tgt := 19) C e_X8_law_9 (by decide) (fun _ => ?_) (fun _ => ?_)
  · refine MF.aload_n C e_X8_law_19 0 rfl rfl ?_
    refine MF.callVU (As := []) C (R_X8_keep hD s) m_X8_keep k_X8_119 kO_70 rfl (by decide) e_X8_law_20 rfl rfl (Nat.le_of_ble_eq_true rfl) (fun s2 => ?_)
    refine MF.aload_n C e_X8_law_23 0 rfl rfl ?_
    refine MF.getR (j := 71) C cf_X8 l_X8_7 e_X8_law_24 kF_70_0 ?_
    refine MF.iconst (v := (nI 2)) C e_X8_law_27 rfl ?_
    refine MF.iald C e_X8_law_28 kA_71 (fun v3 => ?_)
    refine MF.istore_n (lv' := [(0, .ref (ead E 70)), (1, .int x1), (2, .int v3)]) C e_X8_law_29 (by decide) rfl ?_
    refine MF.aload_n C e_X8_law_30 0 rfl rfl ?_
    refine MF.getR (j := 71) C cf_X8 l_X8_7 e_X8_law_31 kF_70_0 ?_
    refine MF.iconst (v := (nI 2)) C e_X8_law_34 rfl ?_
    refine MF.iload_n C e_X8_law_35 1 rfl rfl ?_
    refine MF.iast C e_X8_law_36 kA_71 (fun s4 => ?_)
    refine MF.iload_n C e_X8_law_37 2 rfl rfl ?_
    exact MF.iret C e_X8_law_38
  · refine MF.aload_n C e_X8_law_12 0 rfl rfl ?_
    refine MF.bipush (v := (-2 : Int32)) C e_X8_law_13 (by decide) ?_
    refine MF.callVI (As := [.int (-2 : Int32)]) C (R_X8_bad hD (-2 : Int32) s) m_X8_bad k_X8_88 kO_70 rfl (by decide) e_X8_law_15 rfl rfl (Nat.le_of_ble_eq_true rfl) (fun v5 s6 => ?_)
    exact MF.iret C e_X8_law_18
theorem e_X8_undo_0 : Dc cX8_undo 0 (.aload_n 0) 1 1 := ⟨by decide +kernel, rfl⟩
theorem e_X8_undo_1 : Dc cX8_undo 1 (.getfield 7) 3 4 := ⟨by decide +kernel, rfl⟩
theorem e_X8_undo_4 : Dc cX8_undo 4 (.iconst 4) 1 5 := ⟨by decide +kernel, rfl⟩
theorem e_X8_undo_5 : Dc cX8_undo 5 (.iaload) 1 6 := ⟨by decide +kernel, rfl⟩
theorem e_X8_undo_6 : Dc cX8_undo 6 (.ifCond .ne 8) 3 9 := ⟨by decide +kernel, rfl⟩
theorem e_X8_undo_9 : Dc cX8_undo 9 (.aload_n 0) 1 10 := ⟨by decide +kernel, rfl⟩
theorem e_X8_undo_10 : Dc cX8_undo 10 (.invokevirtual 129) 3 13 := ⟨by decide +kernel, rfl⟩
theorem e_X8_undo_13 : Dc cX8_undo 13 (.ireturn) 1 14 := ⟨by decide +kernel, rfl⟩
theorem e_X8_undo_14 : Dc cX8_undo 14 (.aload_n 0) 1 15 := ⟨by decide +kernel, rfl⟩
theorem e_X8_undo_15 : Dc cX8_undo 15 (.getfield 7) 3 18 := ⟨by decide +kernel, rfl⟩
theorem e_X8_undo_18 : Dc cX8_undo 18 (.iconst 4) 1 19 := ⟨by decide +kernel, rfl⟩
theorem e_X8_undo_19 : Dc cX8_undo 19 (.dup2) 1 20 := ⟨by decide +kernel, rfl⟩
theorem e_X8_undo_20 : Dc cX8_undo 20 (.iaload) 1 21 := ⟨by decide +kernel, rfl⟩
theorem e_X8_undo_21 : Dc cX8_undo 21 (.iconst 1) 1 22 := ⟨by decide +kernel, rfl⟩
theorem e_X8_undo_22 : Dc cX8_undo 22 (.isub) 1 23 := ⟨by decide +kernel, rfl⟩
theorem e_X8_undo_23 : Dc cX8_undo 23 (.iastore) 1 24 := ⟨by decide +kernel, rfl⟩
theorem e_X8_undo_24 : Dc cX8_undo 24 (.bipush 115) 2 26 := ⟨by decide +kernel, rfl⟩
theorem e_X8_undo_26 : Dc cX8_undo 26 (.bipush 50) 2 28 := ⟨by decide +kernel, rfl⟩
theorem e_X8_undo_28 : Dc cX8_undo 28 (.aload_n 0) 1 29 := ⟨by decide +kernel, rfl⟩
theorem e_X8_undo_29 : Dc cX8_undo 29 (.getfield 7) 3 32 := ⟨by decide +kernel, rfl⟩
theorem e_X8_undo_32 : Dc cX8_undo 32 (.iconst 4) 1 33 := ⟨by decide +kernel, rfl⟩
theorem e_X8_undo_33 : Dc cX8_undo 33 (.iaload) 1 34 := ⟨by decide +kernel, rfl⟩
theorem e_X8_undo_34 : Dc cX8_undo 34 (.imul) 1 35 := ⟨by decide +kernel, rfl⟩
theorem e_X8_undo_35 : Dc cX8_undo 35 (.iadd) 1 36 := ⟨by decide +kernel, rfl⟩
theorem e_X8_undo_36 : Dc cX8_undo 36 (.istore_n 1) 1 37 := ⟨by decide +kernel, rfl⟩
theorem e_X8_undo_37 : Dc cX8_undo 37 (.iconst 0) 1 38 := ⟨by decide +kernel, rfl⟩
theorem e_X8_undo_38 : Dc cX8_undo 38 (.istore_n 2) 1 39 := ⟨by decide +kernel, rfl⟩
theorem e_X8_undo_39 : Dc cX8_undo 39 (.iload_n 2) 1 40 := ⟨by decide +kernel, rfl⟩
theorem e_X8_undo_40 : Dc cX8_undo 40 (.bipush 48) 2 42 := ⟨by decide +kernel, rfl⟩
theorem e_X8_undo_42 : Dc cX8_undo 42 (.if_icmp .ge 26) 3 45 := ⟨by decide +kernel, rfl⟩
theorem e_X8_undo_45 : Dc cX8_undo 45 (.aload_n 0) 1 46 := ⟨by decide +kernel, rfl⟩
theorem e_X8_undo_46 : Dc cX8_undo 46 (.getfield 7) 3 49 := ⟨by decide +kernel, rfl⟩
theorem e_X8_undo_49 : Dc cX8_undo 49 (.bipush 33) 2 51 := ⟨by decide +kernel, rfl⟩
theorem e_X8_undo_51 : Dc cX8_undo 51 (.iload_n 2) 1 52 := ⟨by decide +kernel, rfl⟩
theorem e_X8_undo_52 : Dc cX8_undo 52 (.iadd) 1 53 := ⟨by decide +kernel, rfl⟩
theorem e_X8_undo_53 : Dc cX8_undo 53 (.aload_n 0) 1 54 := ⟨by decide +kernel, rfl⟩
theorem e_X8_undo_54 : Dc cX8_undo 54 (.getfield 7) 3 57 := ⟨by decide +kernel, rfl⟩
theorem e_X8_undo_57 : Dc cX8_undo 57 (.iload_n 1) 1 58 := ⟨by decide +kernel, rfl⟩
theorem e_X8_undo_58 : Dc cX8_undo 58 (.iload_n 2) 1 59 := ⟨by decide +kernel, rfl⟩
theorem e_X8_undo_59 : Dc cX8_undo 59 (.iadd) 1 60 := ⟨by decide +kernel, rfl⟩
theorem e_X8_undo_60 : Dc cX8_undo 60 (.iaload) 1 61 := ⟨by decide +kernel, rfl⟩
theorem e_X8_undo_61 : Dc cX8_undo 61 (.iastore) 1 62 := ⟨by decide +kernel, rfl⟩
theorem e_X8_undo_62 : Dc cX8_undo 62 (.iinc 2 1) 3 65 := ⟨by decide +kernel, rfl⟩
theorem e_X8_undo_65 : Dc cX8_undo 65 (.goto (-26)) 3 68 := ⟨by decide +kernel, rfl⟩
theorem e_X8_undo_68 : Dc cX8_undo 68 (.aload_n 0) 1 69 := ⟨by decide +kernel, rfl⟩
theorem e_X8_undo_69 : Dc cX8_undo 69 (.getfield 7) 3 72 := ⟨by decide +kernel, rfl⟩
theorem e_X8_undo_72 : Dc cX8_undo 72 (.iconst 1) 1 73 := ⟨by decide +kernel, rfl⟩
theorem e_X8_undo_73 : Dc cX8_undo 73 (.aload_n 0) 1 74 := ⟨by decide +kernel, rfl⟩
theorem e_X8_undo_74 : Dc cX8_undo 74 (.getfield 7) 3 77 := ⟨by decide +kernel, rfl⟩
theorem e_X8_undo_77 : Dc cX8_undo 77 (.iload_n 1) 1 78 := ⟨by decide +kernel, rfl⟩
theorem e_X8_undo_78 : Dc cX8_undo 78 (.bipush 48) 2 80 := ⟨by decide +kernel, rfl⟩
theorem e_X8_undo_80 : Dc cX8_undo 80 (.iadd) 1 81 := ⟨by decide +kernel, rfl⟩
theorem e_X8_undo_81 : Dc cX8_undo 81 (.iaload) 1 82 := ⟨by decide +kernel, rfl⟩
theorem e_X8_undo_82 : Dc cX8_undo 82 (.iastore) 1 83 := ⟨by decide +kernel, rfl⟩
theorem e_X8_undo_83 : Dc cX8_undo 83 (.aload_n 0) 1 84 := ⟨by decide +kernel, rfl⟩
theorem e_X8_undo_84 : Dc cX8_undo 84 (.getfield 7) 3 87 := ⟨by decide +kernel, rfl⟩
theorem e_X8_undo_87 : Dc cX8_undo 87 (.iconst 2) 1 88 := ⟨by decide +kernel, rfl⟩
theorem e_X8_undo_88 : Dc cX8_undo 88 (.aload_n 0) 1 89 := ⟨by decide +kernel, rfl⟩
theorem e_X8_undo_89 : Dc cX8_undo 89 (.getfield 7) 3 92 := ⟨by decide +kernel, rfl⟩
theorem e_X8_undo_92 : Dc cX8_undo 92 (.iload_n 1) 1 93 := ⟨by decide +kernel, rfl⟩
theorem e_X8_undo_93 : Dc cX8_undo 93 (.bipush 49) 2 95 := ⟨by decide +kernel, rfl⟩
theorem e_X8_undo_95 : Dc cX8_undo 95 (.iadd) 1 96 := ⟨by decide +kernel, rfl⟩
theorem e_X8_undo_96 : Dc cX8_undo 96 (.iaload) 1 97 := ⟨by decide +kernel, rfl⟩
theorem e_X8_undo_97 : Dc cX8_undo 97 (.iastore) 1 98 := ⟨by decide +kernel, rfl⟩
theorem e_X8_undo_98 : Dc cX8_undo 98 (.aload_n 0) 1 99 := ⟨by decide +kernel, rfl⟩
theorem e_X8_undo_99 : Dc cX8_undo 99 (.invokevirtual 79) 3 102 := ⟨by decide +kernel, rfl⟩
theorem e_X8_undo_102 : Dc cX8_undo 102 (.ireturn) 1 103 := ⟨by decide +kernel, rfl⟩
set_option maxHeartbeats 4000000 in
set_option maxRecDepth 20000 in
theorem R_X8_undo (hD : DD E) (s : Sg) : ∀ v τ, (f_X8_undo s) = some (v, τ) → RI l E 1 M_X8_undo [.ref (ead E 70)] s v τ := by
  refine ofI hD (by decide +kernel) (Nat.le_of_ble_eq_true rfl) (fun X C => ?_)
  show MF l E X (fun q : Int32 × Sg => QI E X q.1 q.2) (f_X8_undo s) s 0 [(0, .ref (ead E 70))] []
  unfold f_X8_undo
  refine MF.aload_n C e_X8_undo_0 0 rfl rfl ?_
  refine MF.getR (j := 71) C cf_X8 l_X8_7 e_X8_undo_1 kF_70_0 ?_
  refine MF.iconst (v := (nI 4)) C e_X8_undo_4 rfl ?_
  refine MF.iald C e_X8_undo_5 kA_71 (fun v1 => ?_)
  refine MF.if_ne (tgt := 14) C e_X8_undo_6 (by decide) (fun _ => ?_) (fun _ => ?_)
  · refine MF.aload_n C e_X8_undo_14 0 rfl rfl ?_
    refine MF.getR (j := 71) C cf_X8 l_X8_7 e_X8_undo_15 kF_70_0 ?_
    refine MF.iconst (v := (nI 4)) C e_X8_undo_18 rfl ?_
    refine MF.dup2 C e_X8_undo_19 rfl rfl ?_
    refine MF.iald C e_X8_undo_20 kA_71 (fun v2 => ?_)
    refine MF.iconst (v := (nI 1)) C e_X8_undo_21 rfl ?_
    refine MF.isub C e_X8_undo_22 ?_
    refine MF.iast C e_X8_undo_23 kA_71 (fun s3 => ?_)
    refine MF.bipush (v := (nI 115)) C e_X8_undo_24 (by decide) ?_
    refine MF.bipush (v := (nI 50)) C e_X8_undo_26 (by decide) ?_
    refine MF.aload_n C e_X8_undo_28 0 rfl rfl ?_
    refine MF.getR (j := 71) C cf_X8 l_X8_7 e_X8_undo_29 kF_70_0 ?_
    refine MF.iconst (v := (nI 4)) C e_X8_undo_32 rfl ?_
    refine MF.iald C e_X8_undo_33 kA_71 (fun v4 => ?_)
    refine MF.imul C e_X8_undo_34 ?_
    refine MF.iadd C e_X8_undo_35 ?_
    refine MF.nmI (fun v5 => ?_)
    refine MF.istore_n (lv' := [(0, .ref (ead E 70)), (1, .int v5)]) C e_X8_undo_36 (by decide) rfl ?_
    refine MF.iconst (v := (nI 0)) C e_X8_undo_37 rfl ?_
    refine MF.istore_n (lv' := [(0, .ref (ead E 70)), (1, .int v5), (2, .int (nI 0))]) C e_X8_undo_38 (by decide) rfl ?_
    refine MF.join (fun j : Sg → Option (Int32 × Sg) => ∀ (s6 : Sg), MF l E X (fun q : Int32 × Sg => QI E X q.1 q.2) (j s6) s6 68 [(0, .ref (ead E 70)), (1, .int v5)] []) ?_ (fun j7 hj7 => ?_)
    · intro s6
      refine MF.aload_n C e_X8_undo_68 0 rfl rfl ?_
      refine MF.getR (j := 71) C cf_X8 l_X8_7 e_X8_undo_69 kF_70_0 ?_
      refine MF.iconst (v := (nI 1)) C e_X8_undo_72 rfl ?_
      refine MF.aload_n C e_X8_undo_73 0 rfl rfl ?_
      refine MF.getR (j := 71) C cf_X8 l_X8_7 e_X8_undo_74 kF_70_0 ?_
      refine MF.iload_n C e_X8_undo_77 1 rfl rfl ?_
      refine MF.bipush (v := (nI 48)) C e_X8_undo_78 (by decide) ?_
      refine MF.iadd C e_X8_undo_80 ?_
      refine MF.iald C e_X8_undo_81 kA_71 (fun v8 => ?_)
      refine MF.iast C e_X8_undo_82 kA_71 (fun s9 => ?_)
      refine MF.aload_n C e_X8_undo_83 0 rfl rfl ?_
      refine MF.getR (j := 71) C cf_X8 l_X8_7 e_X8_undo_84 kF_70_0 ?_
      refine MF.iconst (v := (nI 2)) C e_X8_undo_87 rfl ?_
      refine MF.aload_n C e_X8_undo_88 0 rfl rfl ?_
      refine MF.getR (j := 71) C cf_X8 l_X8_7 e_X8_undo_89 kF_70_0 ?_
      refine MF.iload_n C e_X8_undo_92 1 rfl rfl ?_
      refine MF.bipush (v := (nI 49)) C e_X8_undo_93 (by decide) ?_
      refine MF.iadd C e_X8_undo_95 ?_
      refine MF.iald C e_X8_undo_96 kA_71 (fun v10 => ?_)
      refine MF.iast C e_X8_undo_97 kA_71 (fun s11 => ?_)
      refine MF.aload_n C e_X8_undo_98 0 rfl rfl ?_
      refine MF.callVP (As := []) C (R_X8_events hD s11) m_X8_events k_X8_79 kO_70 rfl (by decide) e_X8_undo_99 rfl rfl (Nat.le_of_ble_eq_true rfl) (fun v12 => ?_)
      exact MF.iret C e_X8_undo_102
    refine MF.loop2 (fun i13 s14 => s14) (fun i13 s14 => [(0, .ref (ead E 70)), (1, .int v5), (2, .int i13)]) (fun self15 hself15 i13 s14 => ?_) fu (nI 0) s3
    unfold b_X8_undo_39
    refine MF.iload_n C e_X8_undo_39 2 rfl rfl ?_
    refine MF.bipush (v := (nI 48)) C e_X8_undo_40 (by decide) ?_
    refine MF.icmp_ge (tgt := 68) C e_X8_undo_42 (by decide) (fun _ => ?_) (fun _ => ?_)
    · refine MF.sub [0, 1] rfl ?_
      exact hj7 s14
    · refine MF.aload_n C e_X8_undo_45 0 rfl rfl ?_
      refine MF.getR (j := 71) C cf_X8 l_X8_7 e_X8_undo_46 kF_70_0 ?_
      refine MF.bipush (v := (nI 33)) C e_X8_undo_49 (by decide) ?_
      refine MF.iload_n C e_X8_undo_51 2 rfl rfl ?_
      refine MF.iadd C e_X8_undo_52 ?_
      refine MF.aload_n C e_X8_undo_53 0 rfl rfl ?_
      refine MF.getR (j := 71) C cf_X8 l_X8_7 e_X8_undo_54 kF_70_0 ?_
      refine MF.iload_n C e_X8_undo_57 1 rfl rfl ?_
      refine MF.iload_n C e_X8_undo_58 2 rfl rfl ?_
      refine MF.iadd C e_X8_undo_59 ?_
      refine MF.iald C e_X8_undo_60 kA_71 (fun v16 => ?_)
      refine MF.iast C e_X8_undo_61 kA_71 (fun s17 => ?_)
      refine MF.iinc (v := (nI 1)) (lv' := [(0, .ref (ead E 70)), (1, .int v5), (2, .int (i13 + (nI 1)))]) C e_X8_undo_62 2 rfl rfl (by decide) rfl ?_
      refine MF.goto (tgt := 39) C e_X8_undo_65 (by decide) ?_
      exact hself15 (i13 + (nI 1)) s17
  · refine MF.aload_n C e_X8_undo_9 0 rfl rfl ?_
    refine MF.callVI (As := []) C (R_X8_no hD s) m_X8_no k_X8_129 kO_70 rfl (by decide) e_X8_undo_10 rfl rfl (Nat.le_of_ble_eq_true rfl) (fun v18 s19 => ?_)
    exact MF.iret C e_X8_undo_13
theorem e_X8_rent_0 : Dc cX8_rent 0 (.iload_n 1) 1 1 := ⟨by decide +kernel, rfl⟩
theorem e_X8_rent_1 : Dc cX8_rent 1 (.invokestatic 100) 3 4 := ⟨by decide +kernel, rfl⟩
theorem e_X8_rent_4 : Dc cX8_rent 4 (.ifCond .eq 15) 3 7 := ⟨by decide +kernel, rfl⟩
theorem e_X8_rent_7 : Dc cX8_rent 7 (.iload_n 2) 1 8 := ⟨by decide +kernel, rfl⟩
theorem e_X8_rent_8 : Dc cX8_rent 8 (.i2l) 1 9 := ⟨by decide +kernel, rfl⟩
theorem e_X8_rent_9 : Dc cX8_rent 9 (.lconst 0) 1 10 := ⟨by decide +kernel, rfl⟩
theorem e_X8_rent_10 : Dc cX8_rent 10 (.ldc2_w 132) 3 13 := ⟨by decide +kernel, rfl⟩
theorem e_X8_rent_13 : Dc cX8_rent 13 (.invokestatic 75) 3 16 := ⟨by decide +kernel, rfl⟩
theorem e_X8_rent_16 : Dc cX8_rent 16 (.ifCond .ne 10) 3 19 := ⟨by decide +kernel, rfl⟩
theorem e_X8_rent_19 : Dc cX8_rent 19 (.aload_n 0) 1 20 := ⟨by decide +kernel, rfl⟩
theorem e_X8_rent_20 : Dc cX8_rent 20 (.bipush (-2)) 2 22 := ⟨by decide +kernel, rfl⟩
theorem e_X8_rent_22 : Dc cX8_rent 22 (.invokevirtual 88) 3 25 := ⟨by decide +kernel, rfl⟩
theorem e_X8_rent_25 : Dc cX8_rent 25 (.ireturn) 1 26 := ⟨by decide +kernel, rfl⟩
theorem e_X8_rent_26 : Dc cX8_rent 26 (.aload_n 0) 1 27 := ⟨by decide +kernel, rfl⟩
theorem e_X8_rent_27 : Dc cX8_rent 27 (.getfield 7) 3 30 := ⟨by decide +kernel, rfl⟩
theorem e_X8_rent_30 : Dc cX8_rent 30 (.bipush 81) 2 32 := ⟨by decide +kernel, rfl⟩
theorem e_X8_rent_32 : Dc cX8_rent 32 (.iload_n 1) 1 33 := ⟨by decide +kernel, rfl⟩
theorem e_X8_rent_33 : Dc cX8_rent 33 (.iadd) 1 34 := ⟨by decide +kernel, rfl⟩
theorem e_X8_rent_34 : Dc cX8_rent 34 (.iaload) 1 35 := ⟨by decide +kernel, rfl⟩
theorem e_X8_rent_35 : Dc cX8_rent 35 (.istore_n 3) 1 36 := ⟨by decide +kernel, rfl⟩
theorem e_X8_rent_36 : Dc cX8_rent 36 (.aload_n 0) 1 37 := ⟨by decide +kernel, rfl⟩
theorem e_X8_rent_37 : Dc cX8_rent 37 (.getfield 7) 3 40 := ⟨by decide +kernel, rfl⟩
theorem e_X8_rent_40 : Dc cX8_rent 40 (.bipush 81) 2 42 := ⟨by decide +kernel, rfl⟩
theorem e_X8_rent_42 : Dc cX8_rent 42 (.iload_n 1) 1 43 := ⟨by decide +kernel, rfl⟩
theorem e_X8_rent_43 : Dc cX8_rent 43 (.iadd) 1 44 := ⟨by decide +kernel, rfl⟩
theorem e_X8_rent_44 : Dc cX8_rent 44 (.iload_n 2) 1 45 := ⟨by decide +kernel, rfl⟩
theorem e_X8_rent_45 : Dc cX8_rent 45 (.iastore) 1 46 := ⟨by decide +kernel, rfl⟩
theorem e_X8_rent_46 : Dc cX8_rent 46 (.iload_n 3) 1 47 := ⟨by decide +kernel, rfl⟩
theorem e_X8_rent_47 : Dc cX8_rent 47 (.ireturn) 1 48 := ⟨by decide +kernel, rfl⟩
set_option maxHeartbeats 4000000 in
set_option maxRecDepth 20000 in
theorem R_X8_rent (hD : DD E) (x1 : Int32) (x2 : Int32) (s : Sg) : ∀ v τ, (f_X8_rent x1 x2 s) = some (v, τ) → RI l E 2 M_X8_rent [.ref (ead E 70), .int x1, .int x2] s v τ := by
  refine ofI hD (by decide +kernel) (Nat.le_of_ble_eq_true rfl) (fun X C => ?_)
  show MF l E X (fun q : Int32 × Sg => QI E X q.1 q.2) (f_X8_rent x1 x2 s) s 0 [(0, .ref (ead E 70)), (1, .int x1), (2, .int x2)] []
  unfold f_X8_rent
  refine MF.iload_n C e_X8_rent_0 1 rfl rfl ?_
  refine MF.callSP (As := [.int x1]) C (R_X8_isWord hD x1 s) m_X8_isWord k_X8_100 (by decide) e_X8_rent_1 rfl rfl (Nat.le_of_ble_eq_true rfl) (fun v1 => ?_)
  refine MF.if_eq (tgt := 19) C e_X8_rent_4 (by decide) (fun _ => ?_) (fun _ => ?_)
  · refine MF.aload_n C e_X8_rent_19 0 rfl rfl ?_
    refine MF.bipush (v := (-2 : Int32)) C e_X8_rent_20 (by decide) ?_
    refine MF.callVI (As := [.int (-2 : Int32)]) C (R_X8_bad hD (-2 : Int32) s) m_X8_bad k_X8_88 kO_70 rfl (by decide) e_X8_rent_22 rfl rfl (Nat.le_of_ble_eq_true rfl) (fun v2 s3 => ?_)
    exact MF.iret C e_X8_rent_25
  · refine MF.iload_n C e_X8_rent_7 2 rfl rfl ?_
    refine MF.i2l C e_X8_rent_8 ?_
    refine MF.lconst (v := (0 : Int64)) C e_X8_rent_9 (by decide) ?_
    refine MF.ldc2 C e_X8_rent_10 t_X8_132 ?_
    refine MF.callSP (As := [.long (Int32.toInt64 x2), .long (0 : Int64), .long (99 : Int64)]) C (R_X8_in hD (Int32.toInt64 x2) (0 : Int64) (99 : Int64) s) m_X8_in k_X8_75 (by decide) e_X8_rent_13 rfl rfl (Nat.le_of_ble_eq_true rfl) (fun v4 => ?_)
    refine MF.if_ne (tgt := 26) C e_X8_rent_16 (by decide) (fun _ => ?_) (fun _ => ?_)
    · refine MF.aload_n C e_X8_rent_26 0 rfl rfl ?_
      refine MF.getR (j := 71) C cf_X8 l_X8_7 e_X8_rent_27 kF_70_0 ?_
      refine MF.bipush (v := (nI 81)) C e_X8_rent_30 (by decide) ?_
      refine MF.iload_n C e_X8_rent_32 1 rfl rfl ?_
      refine MF.iadd C e_X8_rent_33 ?_
      refine MF.iald C e_X8_rent_34 kA_71 (fun v5 => ?_)
      refine MF.istore_n (lv' := [(0, .ref (ead E 70)), (1, .int x1), (2, .int x2), (3, .int v5)]) C e_X8_rent_35 (by decide) rfl ?_
      refine MF.aload_n C e_X8_rent_36 0 rfl rfl ?_
      refine MF.getR (j := 71) C cf_X8 l_X8_7 e_X8_rent_37 kF_70_0 ?_
      refine MF.bipush (v := (nI 81)) C e_X8_rent_40 (by decide) ?_
      refine MF.iload_n C e_X8_rent_42 1 rfl rfl ?_
      refine MF.iadd C e_X8_rent_43 ?_
      refine MF.iload_n C e_X8_rent_44 2 rfl rfl ?_
      refine MF.iast C e_X8_rent_45 kA_71 (fun s6 => ?_)
      refine MF.iload_n C e_X8_rent_46 3 rfl rfl ?_
      exact MF.iret C e_X8_rent_47
    · refine MF.aload_n C e_X8_rent_19 0 rfl rfl ?_
      refine MF.bipush (v := (-2 : Int32)) C e_X8_rent_20 (by decide) ?_
      refine MF.callVI (As := [.int (-2 : Int32)]) C (R_X8_bad hD (-2 : Int32) s) m_X8_bad k_X8_88 kO_70 rfl (by decide) e_X8_rent_22 rfl rfl (Nat.le_of_ble_eq_true rfl) (fun v7 s8 => ?_)
      exact MF.iret C e_X8_rent_25
theorem e_X8_mustSee_0 : Dc cX8_mustSee 0 (.iload_n 0) 1 1 := ⟨by decide +kernel, rfl⟩
theorem e_X8_mustSee_1 : Dc cX8_mustSee 1 (.iconst 1) 1 2 := ⟨by decide +kernel, rfl⟩
theorem e_X8_mustSee_2 : Dc cX8_mustSee 2 (.if_icmp .ne 7) 3 5 := ⟨by decide +kernel, rfl⟩
theorem e_X8_mustSee_5 : Dc cX8_mustSee 5 (.iconst 3) 1 6 := ⟨by decide +kernel, rfl⟩
theorem e_X8_mustSee_6 : Dc cX8_mustSee 6 (.goto 13) 3 9 := ⟨by decide +kernel, rfl⟩
theorem e_X8_mustSee_9 : Dc cX8_mustSee 9 (.iload_n 0) 1 10 := ⟨by decide +kernel, rfl⟩
theorem e_X8_mustSee_10 : Dc cX8_mustSee 10 (.iconst 3) 1 11 := ⟨by decide +kernel, rfl⟩
theorem e_X8_mustSee_11 : Dc cX8_mustSee 11 (.if_icmp .ne 7) 3 14 := ⟨by decide +kernel, rfl⟩
theorem e_X8_mustSee_14 : Dc cX8_mustSee 14 (.iconst 4) 1 15 := ⟨by decide +kernel, rfl⟩
theorem e_X8_mustSee_15 : Dc cX8_mustSee 15 (.goto 4) 3 18 := ⟨by decide +kernel, rfl⟩
theorem e_X8_mustSee_18 : Dc cX8_mustSee 18 (.iconst 2) 1 19 := ⟨by decide +kernel, rfl⟩
theorem e_X8_mustSee_19 : Dc cX8_mustSee 19 (.ireturn) 1 20 := ⟨by decide +kernel, rfl⟩
set_option maxHeartbeats 4000000 in
set_option maxRecDepth 20000 in
theorem R_X8_mustSee (hD : DD E) (x0 : Int32) (s : Sg) : ∀ v, (f_X8_mustSee x0 s) = some v → RI l E 0 M_X8_mustSee [.int x0] s v s := by
  refine ofP hD (by decide +kernel) (Nat.le_of_ble_eq_true rfl) (fun X C => ?_)
  show MF l E X (fun q : Int32 => QI E X q s) (f_X8_mustSee x0 s) s 0 [(0, .int x0)] []
  unfold f_X8_mustSee
  refine MF.iload_n C e_X8_mustSee_0 0 rfl rfl ?_
  refine MF.iconst (v := (nI 1)) C e_X8_mustSee_1 rfl ?_
  refine MF.icmp_ne (tgt := 9) C e_X8_mustSee_2 (by decide) (fun _ => ?_) (fun _ => ?_)
  · refine MF.iload_n C e_X8_mustSee_9 0 rfl rfl ?_
    refine MF.iconst (v := (nI 3)) C e_X8_mustSee_10 rfl ?_
    refine MF.icmp_ne (tgt := 18) C e_X8_mustSee_11 (by decide) (fun _ => ?_) (fun _ => ?_)
    · refine MF.iconst (v := (nI 2)) C e_X8_mustSee_18 rfl ?_
      exact MF.iretp C e_X8_mustSee_19
    · refine MF.iconst (v := (nI 4)) C e_X8_mustSee_14 rfl ?_
      refine MF.goto (tgt := 19) C e_X8_mustSee_15 (by decide) ?_
      exact MF.iretp C e_X8_mustSee_19
  · refine MF.iconst (v := (nI 3)) C e_X8_mustSee_5 rfl ?_
    refine MF.goto (tgt := 19) C e_X8_mustSee_6 (by decide) ?_
    exact MF.iretp C e_X8_mustSee_19
theorem e_X8_rankOf_0 : Dc cX8_rankOf 0 (.iload_n 0) 1 1 := ⟨by decide +kernel, rfl⟩
theorem e_X8_rankOf_1 : Dc cX8_rankOf 1 (.iconst 3) 1 2 := ⟨by decide +kernel, rfl⟩
theorem e_X8_rankOf_2 : Dc cX8_rankOf 2 (.if_icmp .ne 9) 3 5 := ⟨by decide +kernel, rfl⟩
theorem e_X8_rankOf_5 : Dc cX8_rankOf 5 (.iload_n 1) 1 6 := ⟨by decide +kernel, rfl⟩
theorem e_X8_rankOf_6 : Dc cX8_rankOf 6 (.iconst 2) 1 7 := ⟨by decide +kernel, rfl⟩
theorem e_X8_rankOf_7 : Dc cX8_rankOf 7 (.idiv) 1 8 := ⟨by decide +kernel, rfl⟩
theorem e_X8_rankOf_8 : Dc cX8_rankOf 8 (.goto 26) 3 11 := ⟨by decide +kernel, rfl⟩
theorem e_X8_rankOf_11 : Dc cX8_rankOf 11 (.iload_n 0) 1 12 := ⟨by decide +kernel, rfl⟩
theorem e_X8_rankOf_12 : Dc cX8_rankOf 12 (.iconst 4) 1 13 := ⟨by decide +kernel, rfl⟩
theorem e_X8_rankOf_13 : Dc cX8_rankOf 13 (.if_icmp .ne 9) 3 16 := ⟨by decide +kernel, rfl⟩
theorem e_X8_rankOf_16 : Dc cX8_rankOf 16 (.iload_n 1) 1 17 := ⟨by decide +kernel, rfl⟩
theorem e_X8_rankOf_17 : Dc cX8_rankOf 17 (.iconst 1) 1 18 := ⟨by decide +kernel, rfl⟩
theorem e_X8_rankOf_18 : Dc cX8_rankOf 18 (.iadd) 1 19 := ⟨by decide +kernel, rfl⟩
theorem e_X8_rankOf_19 : Dc cX8_rankOf 19 (.goto 15) 3 22 := ⟨by decide +kernel, rfl⟩
theorem e_X8_rankOf_22 : Dc cX8_rankOf 22 (.iload_n 0) 1 23 := ⟨by decide +kernel, rfl⟩
theorem e_X8_rankOf_23 : Dc cX8_rankOf 23 (.iconst 5) 1 24 := ⟨by decide +kernel, rfl⟩
theorem e_X8_rankOf_24 : Dc cX8_rankOf 24 (.if_icmp .ne 9) 3 27 := ⟨by decide +kernel, rfl⟩
theorem e_X8_rankOf_27 : Dc cX8_rankOf 27 (.iload_n 1) 1 28 := ⟨by decide +kernel, rfl⟩
theorem e_X8_rankOf_28 : Dc cX8_rankOf 28 (.iconst 2) 1 29 := ⟨by decide +kernel, rfl⟩
theorem e_X8_rankOf_29 : Dc cX8_rankOf 29 (.iadd) 1 30 := ⟨by decide +kernel, rfl⟩
theorem e_X8_rankOf_30 : Dc cX8_rankOf 30 (.goto 4) 3 33 := ⟨by decide +kernel, rfl⟩
theorem e_X8_rankOf_33 : Dc cX8_rankOf 33 (.iload_n 1) 1 34 := ⟨by decide +kernel, rfl⟩
theorem e_X8_rankOf_34 : Dc cX8_rankOf 34 (.ireturn) 1 35 := ⟨by decide +kernel, rfl⟩
set_option maxHeartbeats 4000000 in
set_option maxRecDepth 20000 in
theorem R_X8_rankOf (hD : DD E) (x0 : Int32) (x1 : Int32) (s : Sg) : ∀ v, (f_X8_rankOf x0 x1 s) = some v → RI l E 0 M_X8_rankOf [.int x0, .int x1] s v s := by
  refine ofP hD (by decide +kernel) (Nat.le_of_ble_eq_true rfl) (fun X C => ?_)
  show MF l E X (fun q : Int32 => QI E X q s) (f_X8_rankOf x0 x1 s) s 0 [(0, .int x0), (1, .int x1)] []
  unfold f_X8_rankOf
  refine MF.iload_n C e_X8_rankOf_0 0 rfl rfl ?_
  refine MF.iconst (v := (nI 3)) C e_X8_rankOf_1 rfl ?_
  refine MF.icmp_ne (tgt := 11) C e_X8_rankOf_2 (by decide) (fun _ => ?_) (fun _ => ?_)
  · refine MF.iload_n C e_X8_rankOf_11 0 rfl rfl ?_
    refine MF.iconst (v := (nI 4)) C e_X8_rankOf_12 rfl ?_
    refine MF.icmp_ne (tgt := 22) C e_X8_rankOf_13 (by decide) (fun _ => ?_) (fun _ => ?_)
    · refine MF.iload_n C e_X8_rankOf_22 0 rfl rfl ?_
      refine MF.iconst (v := (nI 5)) C e_X8_rankOf_23 rfl ?_
      refine MF.icmp_ne (tgt := 33) C e_X8_rankOf_24 (by decide) (fun _ => ?_) (fun _ => ?_)
      · refine MF.iload_n C e_X8_rankOf_33 1 rfl rfl ?_
        exact MF.iretp C e_X8_rankOf_34
      · refine MF.iload_n C e_X8_rankOf_27 1 rfl rfl ?_
        refine MF.iconst (v := (nI 2)) C e_X8_rankOf_28 rfl ?_
        refine MF.iadd C e_X8_rankOf_29 ?_
        refine MF.goto (tgt := 34) C e_X8_rankOf_30 (by decide) ?_
        exact MF.iretp C e_X8_rankOf_34
    · refine MF.iload_n C e_X8_rankOf_16 1 rfl rfl ?_
      refine MF.iconst (v := (nI 1)) C e_X8_rankOf_17 rfl ?_
      refine MF.iadd C e_X8_rankOf_18 ?_
      refine MF.goto (tgt := 34) C e_X8_rankOf_19 (by decide) ?_
      exact MF.iretp C e_X8_rankOf_34
  · refine MF.iload_n C e_X8_rankOf_5 1 rfl rfl ?_
    refine MF.iconst (v := (nI 2)) C e_X8_rankOf_6 rfl ?_
    refine MF.idiv C e_X8_rankOf_7 (by decide) ?_
    refine MF.goto (tgt := 34) C e_X8_rankOf_8 (by decide) ?_
    exact MF.iretp C e_X8_rankOf_34
theorem e_X8_standsFor_0 : Dc cX8_standsFor 0 (.iload_n 0) 1 1 := ⟨by decide +kernel, rfl⟩
theorem e_X8_standsFor_1 : Dc cX8_standsFor 1 (.iconst 2) 1 2 := ⟨by decide +kernel, rfl⟩
theorem e_X8_standsFor_2 : Dc cX8_standsFor 2 (.if_icmp .ne 8) 3 5 := ⟨by decide +kernel, rfl⟩
theorem e_X8_standsFor_5 : Dc cX8_standsFor 5 (.bipush 9) 2 7 := ⟨by decide +kernel, rfl⟩
theorem e_X8_standsFor_7 : Dc cX8_standsFor 7 (.goto 14) 3 10 := ⟨by decide +kernel, rfl⟩
theorem e_X8_standsFor_10 : Dc cX8_standsFor 10 (.iload_n 0) 1 11 := ⟨by decide +kernel, rfl⟩
theorem e_X8_standsFor_11 : Dc cX8_standsFor 11 (.iconst 5) 1 12 := ⟨by decide +kernel, rfl⟩
theorem e_X8_standsFor_12 : Dc cX8_standsFor 12 (.if_icmp .ne 8) 3 15 := ⟨by decide +kernel, rfl⟩
theorem e_X8_standsFor_15 : Dc cX8_standsFor 15 (.bipush 18) 2 17 := ⟨by decide +kernel, rfl⟩
theorem e_X8_standsFor_17 : Dc cX8_standsFor 17 (.goto 4) 3 20 := ⟨by decide +kernel, rfl⟩
theorem e_X8_standsFor_20 : Dc cX8_standsFor 20 (.iconst 3) 1 21 := ⟨by decide +kernel, rfl⟩
theorem e_X8_standsFor_21 : Dc cX8_standsFor 21 (.ireturn) 1 22 := ⟨by decide +kernel, rfl⟩
set_option maxHeartbeats 4000000 in
set_option maxRecDepth 20000 in
theorem R_X8_standsFor (hD : DD E) (x0 : Int32) (s : Sg) : ∀ v, (f_X8_standsFor x0 s) = some v → RI l E 0 M_X8_standsFor [.int x0] s v s := by
  refine ofP hD (by decide +kernel) (Nat.le_of_ble_eq_true rfl) (fun X C => ?_)
  show MF l E X (fun q : Int32 => QI E X q s) (f_X8_standsFor x0 s) s 0 [(0, .int x0)] []
  unfold f_X8_standsFor
  refine MF.iload_n C e_X8_standsFor_0 0 rfl rfl ?_
  refine MF.iconst (v := (nI 2)) C e_X8_standsFor_1 rfl ?_
  refine MF.icmp_ne (tgt := 10) C e_X8_standsFor_2 (by decide) (fun _ => ?_) (fun _ => ?_)
  · refine MF.iload_n C e_X8_standsFor_10 0 rfl rfl ?_
    refine MF.iconst (v := (nI 5)) C e_X8_standsFor_11 rfl ?_
    refine MF.icmp_ne (tgt := 20) C e_X8_standsFor_12 (by decide) (fun _ => ?_) (fun _ => ?_)
    · refine MF.iconst (v := (nI 3)) C e_X8_standsFor_20 rfl ?_
      exact MF.iretp C e_X8_standsFor_21
    · refine MF.bipush (v := (nI 18)) C e_X8_standsFor_15 (by decide) ?_
      refine MF.goto (tgt := 21) C e_X8_standsFor_17 (by decide) ?_
      exact MF.iretp C e_X8_standsFor_21
  · refine MF.bipush (v := (nI 9)) C e_X8_standsFor_5 (by decide) ?_
    refine MF.goto (tgt := 21) C e_X8_standsFor_7 (by decide) ?_
    exact MF.iretp C e_X8_standsFor_21
theorem e_X8_meet_0 : Dc cX8_meet 0 (.aload_n 0) 1 1 := ⟨by decide +kernel, rfl⟩
theorem e_X8_meet_1 : Dc cX8_meet 1 (.iload_n 1) 1 2 := ⟨by decide +kernel, rfl⟩
theorem e_X8_meet_2 : Dc cX8_meet 2 (.iconst 0) 1 3 := ⟨by decide +kernel, rfl⟩
theorem e_X8_meet_3 : Dc cX8_meet 3 (.invokevirtual 134) 3 6 := ⟨by decide +kernel, rfl⟩
theorem e_X8_meet_6 : Dc cX8_meet 6 (.aload_n 0) 1 7 := ⟨by decide +kernel, rfl⟩
theorem e_X8_meet_7 : Dc cX8_meet 7 (.iload_n 2) 1 8 := ⟨by decide +kernel, rfl⟩
theorem e_X8_meet_8 : Dc cX8_meet 8 (.iconst 0) 1 9 := ⟨by decide +kernel, rfl⟩
theorem e_X8_meet_9 : Dc cX8_meet 9 (.invokevirtual 134) 3 12 := ⟨by decide +kernel, rfl⟩
theorem e_X8_meet_12 : Dc cX8_meet 12 (.if_icmp .eq 48) 3 15 := ⟨by decide +kernel, rfl⟩
theorem e_X8_meet_15 : Dc cX8_meet 15 (.aload_n 0) 1 16 := ⟨by decide +kernel, rfl⟩
theorem e_X8_meet_16 : Dc cX8_meet 16 (.iload_n 1) 1 17 := ⟨by decide +kernel, rfl⟩
theorem e_X8_meet_17 : Dc cX8_meet 17 (.iconst 0) 1 18 := ⟨by decide +kernel, rfl⟩
theorem e_X8_meet_18 : Dc cX8_meet 18 (.invokevirtual 134) 3 21 := ⟨by decide +kernel, rfl⟩
theorem e_X8_meet_21 : Dc cX8_meet 21 (.aload_n 0) 1 22 := ⟨by decide +kernel, rfl⟩
theorem e_X8_meet_22 : Dc cX8_meet 22 (.iload_n 2) 1 23 := ⟨by decide +kernel, rfl⟩
theorem e_X8_meet_23 : Dc cX8_meet 23 (.iconst 1) 1 24 := ⟨by decide +kernel, rfl⟩
theorem e_X8_meet_24 : Dc cX8_meet 24 (.invokevirtual 134) 3 27 := ⟨by decide +kernel, rfl⟩
theorem e_X8_meet_27 : Dc cX8_meet 27 (.if_icmp .eq 33) 3 30 := ⟨by decide +kernel, rfl⟩
theorem e_X8_meet_30 : Dc cX8_meet 30 (.aload_n 0) 1 31 := ⟨by decide +kernel, rfl⟩
theorem e_X8_meet_31 : Dc cX8_meet 31 (.iload_n 1) 1 32 := ⟨by decide +kernel, rfl⟩
theorem e_X8_meet_32 : Dc cX8_meet 32 (.iconst 1) 1 33 := ⟨by decide +kernel, rfl⟩
theorem e_X8_meet_33 : Dc cX8_meet 33 (.invokevirtual 134) 3 36 := ⟨by decide +kernel, rfl⟩
theorem e_X8_meet_36 : Dc cX8_meet 36 (.aload_n 0) 1 37 := ⟨by decide +kernel, rfl⟩
theorem e_X8_meet_37 : Dc cX8_meet 37 (.iload_n 2) 1 38 := ⟨by decide +kernel, rfl⟩
theorem e_X8_meet_38 : Dc cX8_meet 38 (.iconst 0) 1 39 := ⟨by decide +kernel, rfl⟩
theorem e_X8_meet_39 : Dc cX8_meet 39 (.invokevirtual 134) 3 42 := ⟨by decide +kernel, rfl⟩
theorem e_X8_meet_42 : Dc cX8_meet 42 (.if_icmp .eq 18) 3 45 := ⟨by decide +kernel, rfl⟩
theorem e_X8_meet_45 : Dc cX8_meet 45 (.aload_n 0) 1 46 := ⟨by decide +kernel, rfl⟩
theorem e_X8_meet_46 : Dc cX8_meet 46 (.iload_n 1) 1 47 := ⟨by decide +kernel, rfl⟩
theorem e_X8_meet_47 : Dc cX8_meet 47 (.iconst 1) 1 48 := ⟨by decide +kernel, rfl⟩
theorem e_X8_meet_48 : Dc cX8_meet 48 (.invokevirtual 134) 3 51 := ⟨by decide +kernel, rfl⟩
theorem e_X8_meet_51 : Dc cX8_meet 51 (.aload_n 0) 1 52 := ⟨by decide +kernel, rfl⟩
theorem e_X8_meet_52 : Dc cX8_meet 52 (.iload_n 2) 1 53 := ⟨by decide +kernel, rfl⟩
theorem e_X8_meet_53 : Dc cX8_meet 53 (.iconst 1) 1 54 := ⟨by decide +kernel, rfl⟩
theorem e_X8_meet_54 : Dc cX8_meet 54 (.invokevirtual 134) 3 57 := ⟨by decide +kernel, rfl⟩
theorem e_X8_meet_57 : Dc cX8_meet 57 (.if_icmp .ne 7) 3 60 := ⟨by decide +kernel, rfl⟩
theorem e_X8_meet_60 : Dc cX8_meet 60 (.iconst 1) 1 61 := ⟨by decide +kernel, rfl⟩
theorem e_X8_meet_61 : Dc cX8_meet 61 (.goto 4) 3 64 := ⟨by decide +kernel, rfl⟩
theorem e_X8_meet_64 : Dc cX8_meet 64 (.iconst 0) 1 65 := ⟨by decide +kernel, rfl⟩
theorem e_X8_meet_65 : Dc cX8_meet 65 (.ireturn) 1 66 := ⟨by decide +kernel, rfl⟩
set_option maxHeartbeats 4000000 in
set_option maxRecDepth 20000 in
theorem R_X8_meet (hD : DD E) (x1 : Int32) (x2 : Int32) (s : Sg) : ∀ v, (f_X8_meet x1 x2 s) = some v → RI l E 1 M_X8_meet [.ref (ead E 70), .int x1, .int x2] s v s := by
  refine ofP hD (by decide +kernel) (Nat.le_of_ble_eq_true rfl) (fun X C => ?_)
  show MF l E X (fun q : Int32 => QI E X q s) (f_X8_meet x1 x2 s) s 0 [(0, .ref (ead E 70)), (1, .int x1), (2, .int x2)] []
  unfold f_X8_meet
  refine MF.aload_n C e_X8_meet_0 0 rfl rfl ?_
  refine MF.iload_n C e_X8_meet_1 1 rfl rfl ?_
  refine MF.iconst (v := (nI 0)) C e_X8_meet_2 rfl ?_
  refine MF.callVP (As := [.int x1, .int (nI 0)]) C (R_X8_has hD x1 (nI 0) s) m_X8_has k_X8_134 kO_70 rfl (by decide) e_X8_meet_3 rfl rfl (Nat.le_of_ble_eq_true rfl) (fun v1 => ?_)
  refine MF.aload_n C e_X8_meet_6 0 rfl rfl ?_
  refine MF.iload_n C e_X8_meet_7 2 rfl rfl ?_
  refine MF.iconst (v := (nI 0)) C e_X8_meet_8 rfl ?_
  refine MF.callVP (As := [.int x2, .int (nI 0)]) C (R_X8_has hD x2 (nI 0) s) m_X8_has k_X8_134 kO_70 rfl (by decide) e_X8_meet_9 rfl rfl (Nat.le_of_ble_eq_true rfl) (fun v2 => ?_)
  refine MF.icmp_eq (tgt := 60) C e_X8_meet_12 (by decide) (fun _ => ?_) (fun _ => ?_)
  · refine MF.iconst (v := (nI 1)) C e_X8_meet_60 rfl ?_
    refine MF.goto (tgt := 65) C e_X8_meet_61 (by decide) ?_
    exact MF.nretp C e_X8_meet_65 rfl
  · refine MF.aload_n C e_X8_meet_15 0 rfl rfl ?_
    refine MF.iload_n C e_X8_meet_16 1 rfl rfl ?_
    refine MF.iconst (v := (nI 0)) C e_X8_meet_17 rfl ?_
    refine MF.callVP (As := [.int x1, .int (nI 0)]) C (R_X8_has hD x1 (nI 0) s) m_X8_has k_X8_134 kO_70 rfl (by decide) e_X8_meet_18 rfl rfl (Nat.le_of_ble_eq_true rfl) (fun v3 => ?_)
    refine MF.aload_n C e_X8_meet_21 0 rfl rfl ?_
    refine MF.iload_n C e_X8_meet_22 2 rfl rfl ?_
    refine MF.iconst (v := (nI 1)) C e_X8_meet_23 rfl ?_
    refine MF.callVP (As := [.int x2, .int (nI 1)]) C (R_X8_has hD x2 (nI 1) s) m_X8_has k_X8_134 kO_70 rfl (by decide) e_X8_meet_24 rfl rfl (Nat.le_of_ble_eq_true rfl) (fun v4 => ?_)
    refine MF.icmp_eq (tgt := 60) C e_X8_meet_27 (by decide) (fun _ => ?_) (fun _ => ?_)
    · refine MF.iconst (v := (nI 1)) C e_X8_meet_60 rfl ?_
      refine MF.goto (tgt := 65) C e_X8_meet_61 (by decide) ?_
      exact MF.nretp C e_X8_meet_65 rfl
    · refine MF.aload_n C e_X8_meet_30 0 rfl rfl ?_
      refine MF.iload_n C e_X8_meet_31 1 rfl rfl ?_
      refine MF.iconst (v := (nI 1)) C e_X8_meet_32 rfl ?_
      refine MF.callVP (As := [.int x1, .int (nI 1)]) C (R_X8_has hD x1 (nI 1) s) m_X8_has k_X8_134 kO_70 rfl (by decide) e_X8_meet_33 rfl rfl (Nat.le_of_ble_eq_true rfl) (fun v5 => ?_)
      refine MF.aload_n C e_X8_meet_36 0 rfl rfl ?_
      refine MF.iload_n C e_X8_meet_37 2 rfl rfl ?_
      refine MF.iconst (v := (nI 0)) C e_X8_meet_38 rfl ?_
      refine MF.callVP (As := [.int x2, .int (nI 0)]) C (R_X8_has hD x2 (nI 0) s) m_X8_has k_X8_134 kO_70 rfl (by decide) e_X8_meet_39 rfl rfl (Nat.le_of_ble_eq_true rfl) (fun v6 => ?_)
      refine MF.icmp_eq (tgt := 60) C e_X8_meet_42 (by decide) (fun _ => ?_) (fun _ => ?_)
      · refine MF.iconst (v := (nI 1)) C e_X8_meet_60 rfl ?_
        refine MF.goto (tgt := 65) C e_X8_meet_61 (by decide) ?_
        exact MF.nretp C e_X8_meet_65 rfl
      · refine MF.aload_n C e_X8_meet_45 0 rfl rfl ?_
        refine MF.iload_n C e_X8_meet_46 1 rfl rfl ?_
        refine MF.iconst (v := (nI 1)) C e_X8_meet_47 rfl ?_
        refine MF.callVP (As := [.int x1, .int (nI 1)]) C (R_X8_has hD x1 (nI 1) s) m_X8_has k_X8_134 kO_70 rfl (by decide) e_X8_meet_48 rfl rfl (Nat.le_of_ble_eq_true rfl) (fun v7 => ?_)
        refine MF.aload_n C e_X8_meet_51 0 rfl rfl ?_
        refine MF.iload_n C e_X8_meet_52 2 rfl rfl ?_
        refine MF.iconst (v := (nI 1)) C e_X8_meet_53 rfl ?_
        refine MF.callVP (As := [.int x2, .int (nI 1)]) C (R_X8_has hD x2 (nI 1) s) m_X8_has k_X8_134 kO_70 rfl (by decide) e_X8_meet_54 rfl rfl (Nat.le_of_ble_eq_true rfl) (fun v8 => ?_)
        refine MF.icmp_ne (tgt := 64) C e_X8_meet_57 (by decide) (fun _ => ?_) (fun _ => ?_)
        · refine MF.iconst (v := (nI 0)) C e_X8_meet_64 rfl ?_
          exact MF.nretp C e_X8_meet_65 rfl
        · refine MF.iconst (v := (nI 1)) C e_X8_meet_60 rfl ?_
          refine MF.goto (tgt := 65) C e_X8_meet_61 (by decide) ?_
          exact MF.nretp C e_X8_meet_65 rfl
theorem e_X8_happensIn_0 : Dc cX8_happensIn 0 (.iconst 1) 1 1 := ⟨by decide +kernel, rfl⟩
theorem e_X8_happensIn_1 : Dc cX8_happensIn 1 (.iload_n 2) 1 2 := ⟨by decide +kernel, rfl⟩
theorem e_X8_happensIn_2 : Dc cX8_happensIn 2 (.ishl) 1 3 := ⟨by decide +kernel, rfl⟩
theorem e_X8_happensIn_3 : Dc cX8_happensIn 3 (.istore_n 3) 1 4 := ⟨by decide +kernel, rfl⟩
theorem e_X8_happensIn_4 : Dc cX8_happensIn 4 (.iconst 0) 1 5 := ⟨by decide +kernel, rfl⟩
theorem e_X8_happensIn_5 : Dc cX8_happensIn 5 (.istore 4) 2 7 := ⟨by decide +kernel, rfl⟩
theorem e_X8_happensIn_7 : Dc cX8_happensIn 7 (.iload 4) 2 9 := ⟨by decide +kernel, rfl⟩
theorem e_X8_happensIn_9 : Dc cX8_happensIn 9 (.aload_n 0) 1 10 := ⟨by decide +kernel, rfl⟩
theorem e_X8_happensIn_10 : Dc cX8_happensIn 10 (.invokevirtual 71) 3 13 := ⟨by decide +kernel, rfl⟩
theorem e_X8_happensIn_13 : Dc cX8_happensIn 13 (.if_icmp .ge 35) 3 16 := ⟨by decide +kernel, rfl⟩
theorem e_X8_happensIn_16 : Dc cX8_happensIn 16 (.iload_n 1) 1 17 := ⟨by decide +kernel, rfl⟩
theorem e_X8_happensIn_17 : Dc cX8_happensIn 17 (.iconst 1) 1 18 := ⟨by decide +kernel, rfl⟩
theorem e_X8_happensIn_18 : Dc cX8_happensIn 18 (.if_icmp .ne 30) 3 21 := ⟨by decide +kernel, rfl⟩
theorem e_X8_happensIn_21 : Dc cX8_happensIn 21 (.iload_n 3) 1 22 := ⟨by decide +kernel, rfl⟩
theorem e_X8_happensIn_22 : Dc cX8_happensIn 22 (.aload_n 0) 1 23 := ⟨by decide +kernel, rfl⟩
theorem e_X8_happensIn_23 : Dc cX8_happensIn 23 (.iload 4) 2 25 := ⟨by decide +kernel, rfl⟩
theorem e_X8_happensIn_25 : Dc cX8_happensIn 25 (.iload_n 2) 1 26 := ⟨by decide +kernel, rfl⟩
theorem e_X8_happensIn_26 : Dc cX8_happensIn 26 (.invokevirtual 138) 3 29 := ⟨by decide +kernel, rfl⟩
theorem e_X8_happensIn_29 : Dc cX8_happensIn 29 (.ifCond .eq 10) 3 32 := ⟨by decide +kernel, rfl⟩
theorem e_X8_happensIn_32 : Dc cX8_happensIn 32 (.iconst 1) 1 33 := ⟨by decide +kernel, rfl⟩
theorem e_X8_happensIn_33 : Dc cX8_happensIn 33 (.iload 4) 2 35 := ⟨by decide +kernel, rfl⟩
theorem e_X8_happensIn_35 : Dc cX8_happensIn 35 (.ishl) 1 36 := ⟨by decide +kernel, rfl⟩
theorem e_X8_happensIn_36 : Dc cX8_happensIn 36 (.goto 4) 3 39 := ⟨by decide +kernel, rfl⟩
theorem e_X8_happensIn_39 : Dc cX8_happensIn 39 (.iconst 0) 1 40 := ⟨by decide +kernel, rfl⟩
theorem e_X8_happensIn_40 : Dc cX8_happensIn 40 (.ior) 1 41 := ⟨by decide +kernel, rfl⟩
theorem e_X8_happensIn_41 : Dc cX8_happensIn 41 (.istore_n 3) 1 42 := ⟨by decide +kernel, rfl⟩
theorem e_X8_happensIn_42 : Dc cX8_happensIn 42 (.iinc 4 1) 3 45 := ⟨by decide +kernel, rfl⟩
theorem e_X8_happensIn_45 : Dc cX8_happensIn 45 (.goto (-38)) 3 48 := ⟨by decide +kernel, rfl⟩
theorem e_X8_happensIn_48 : Dc cX8_happensIn 48 (.iload_n 3) 1 49 := ⟨by decide +kernel, rfl⟩
theorem e_X8_happensIn_49 : Dc cX8_happensIn 49 (.ireturn) 1 50 := ⟨by decide +kernel, rfl⟩
set_option maxHeartbeats 4000000 in
set_option maxRecDepth 20000 in
theorem R_X8_happensIn (hD : DD E) (x1 : Int32) (x2 : Int32) (s : Sg) : ∀ v, (f_X8_happensIn x1 x2 s) = some v → RI l E 2 M_X8_happensIn [.ref (ead E 70), .int x1, .int x2] s v s := by
  refine ofP hD (by decide +kernel) (Nat.le_of_ble_eq_true rfl) (fun X C => ?_)
  show MF l E X (fun q : Int32 => QI E X q s) (f_X8_happensIn x1 x2 s) s 0 [(0, .ref (ead E 70)), (1, .int x1), (2, .int x2)] []
  unfold f_X8_happensIn
  refine MF.iconst (v := (nI 1)) C e_X8_happensIn_0 rfl ?_
  refine MF.iload_n C e_X8_happensIn_1 2 rfl rfl ?_
  refine MF.ishl C e_X8_happensIn_2 ?_
  refine MF.nmI (fun v1 => ?_)
  refine MF.istore_n (lv' := [(0, .ref (ead E 70)), (1, .int x1), (2, .int x2), (3, .int v1)]) C e_X8_happensIn_3 (by decide) rfl ?_
  refine MF.iconst (v := (nI 0)) C e_X8_happensIn_4 rfl ?_
  refine MF.istore (lv' := [(0, .ref (ead E 70)), (1, .int x1), (2, .int x2), (3, .int v1), (4, .int (nI 0))]) C e_X8_happensIn_5 (by decide) rfl ?_
  refine MF.loop2 (fun i2 i3 => s) (fun i2 i3 => [(0, .ref (ead E 70)), (1, .int x1), (2, .int x2), (3, .int i2), (4, .int i3)]) (fun self4 hself4 i2 i3 => ?_) fu v1 (nI 0)
  unfold b_X8_happensIn_7
  refine MF.iload C e_X8_happensIn_7 4 rfl ?_
  refine MF.aload_n C e_X8_happensIn_9 0 rfl rfl ?_
  refine MF.callVP (As := []) C (R_X8_streets hD s) m_X8_streets k_X8_71 kO_70 rfl (by decide) e_X8_happensIn_10 rfl rfl (Nat.le_of_ble_eq_true rfl) (fun v5 => ?_)
  refine MF.icmp_ge (tgt := 48) C e_X8_happensIn_13 (by decide) (fun _ => ?_) (fun _ => ?_)
  · refine MF.iload_n C e_X8_happensIn_48 3 rfl rfl ?_
    exact MF.iretp C e_X8_happensIn_49
  · refine MF.iload_n C e_X8_happensIn_16 1 rfl rfl ?_
    refine MF.iconst (v := (nI 1)) C e_X8_happensIn_17 rfl ?_
    refine MF.icmp_ne (tgt := 48) C e_X8_happensIn_18 (by decide) (fun _ => ?_) (fun _ => ?_)
    · refine MF.iload_n C e_X8_happensIn_48 3 rfl rfl ?_
      exact MF.iretp C e_X8_happensIn_49
    · refine MF.iload_n C e_X8_happensIn_21 3 rfl rfl ?_
      refine MF.aload_n C e_X8_happensIn_22 0 rfl rfl ?_
      refine MF.iload C e_X8_happensIn_23 4 rfl ?_
      refine MF.iload_n C e_X8_happensIn_25 2 rfl rfl ?_
      refine MF.callVP (As := [.int i3, .int x2]) C (R_X8_meet hD i3 x2 s) m_X8_meet k_X8_138 kO_70 rfl (by decide) e_X8_happensIn_26 rfl rfl (Nat.le_of_ble_eq_true rfl) (fun v6 => ?_)
      refine MF.join (fun j : Int32 → Option Int32 => ∀ (a7 : Int32), MF l E X (fun q : Int32 => QI E X q s) (j a7) s 40 [(0, .ref (ead E 70)), (1, .int x1), (2, .int x2), (4, .int i3)] [.int a7, .int i2]) ?_ (fun j8 hj8 => ?_)
      · intro a7
        refine MF.ior C e_X8_happensIn_40 ?_
        refine MF.nmI (fun v9 => ?_)
        refine MF.istore_n (lv' := [(0, .ref (ead E 70)), (1, .int x1), (2, .int x2), (3, .int v9), (4, .int i3)]) C e_X8_happensIn_41 (by decide) rfl ?_
        refine MF.iinc (v := (nI 1)) (lv' := [(0, .ref (ead E 70)), (1, .int x1), (2, .int x2), (3, .int v9), (4, .int (i3 + (nI 1)))]) C e_X8_happensIn_42 4 rfl rfl (by decide) rfl ?_
        refine MF.goto (tgt := 7) C e_X8_happensIn_45 (by decide) ?_
        exact hself4 v9 (i3 + (nI 1))
      refine MF.if_eq (tgt := 39) C e_X8_happensIn_29 (by decide) (fun _ => ?_) (fun _ => ?_)
      · refine MF.iconst (v := (nI 0)) C e_X8_happensIn_39 rfl ?_
        refine MF.sub [0, 1, 2, 4] rfl ?_
        exact hj8 (nI 0)
      · refine MF.iconst (v := (nI 1)) C e_X8_happensIn_32 rfl ?_
        refine MF.iload C e_X8_happensIn_33 4 rfl ?_
        refine MF.ishl C e_X8_happensIn_35 ?_
        refine MF.goto (tgt := 40) C e_X8_happensIn_36 (by decide) ?_
        refine MF.sub [0, 1, 2, 4] rfl ?_
        exact hj8 ((nI 1) <<< (i3 &&& 31))
theorem e_X8_of_0 : Dc cX8_of 0 (.aload_n 0) 1 1 := ⟨by decide +kernel, rfl⟩
theorem e_X8_of_1 : Dc cX8_of 1 (.iload_n 1) 1 2 := ⟨by decide +kernel, rfl⟩
theorem e_X8_of_2 : Dc cX8_of 2 (.invokevirtual 126) 3 5 := ⟨by decide +kernel, rfl⟩
theorem e_X8_of_5 : Dc cX8_of 5 (.ifCond .eq 15) 3 8 := ⟨by decide +kernel, rfl⟩
theorem e_X8_of_8 : Dc cX8_of 8 (.iload_n 2) 1 9 := ⟨by decide +kernel, rfl⟩
theorem e_X8_of_9 : Dc cX8_of 9 (.i2l) 1 10 := ⟨by decide +kernel, rfl⟩
theorem e_X8_of_10 : Dc cX8_of 10 (.lconst 0) 1 11 := ⟨by decide +kernel, rfl⟩
theorem e_X8_of_11 : Dc cX8_of 11 (.ldc2_w 98) 3 14 := ⟨by decide +kernel, rfl⟩
theorem e_X8_of_14 : Dc cX8_of 14 (.invokestatic 75) 3 17 := ⟨by decide +kernel, rfl⟩
theorem e_X8_of_17 : Dc cX8_of 17 (.ifCond .ne 10) 3 20 := ⟨by decide +kernel, rfl⟩
theorem e_X8_of_20 : Dc cX8_of 20 (.aload_n 0) 1 21 := ⟨by decide +kernel, rfl⟩
theorem e_X8_of_21 : Dc cX8_of 21 (.bipush (-2)) 2 23 := ⟨by decide +kernel, rfl⟩
theorem e_X8_of_23 : Dc cX8_of 23 (.invokevirtual 88) 3 26 := ⟨by decide +kernel, rfl⟩
theorem e_X8_of_26 : Dc cX8_of 26 (.ireturn) 1 27 := ⟨by decide +kernel, rfl⟩
theorem e_X8_of_27 : Dc cX8_of 27 (.aload_n 0) 1 28 := ⟨by decide +kernel, rfl⟩
theorem e_X8_of_28 : Dc cX8_of 28 (.iload_n 1) 1 29 := ⟨by decide +kernel, rfl⟩
theorem e_X8_of_29 : Dc cX8_of 29 (.iconst 0) 1 30 := ⟨by decide +kernel, rfl⟩
theorem e_X8_of_30 : Dc cX8_of 30 (.invokevirtual 142) 3 33 := ⟨by decide +kernel, rfl⟩
theorem e_X8_of_33 : Dc cX8_of 33 (.istore_n 3) 1 34 := ⟨by decide +kernel, rfl⟩
theorem e_X8_of_34 : Dc cX8_of 34 (.iload_n 2) 1 35 := ⟨by decide +kernel, rfl⟩
theorem e_X8_of_35 : Dc cX8_of 35 (.tableswitch 62 6 9 #[29, 34, 45, 50]) 29 64 := ⟨by decide +kernel, rfl⟩
theorem e_X8_of_64 : Dc cX8_of 64 (.iload_n 3) 1 65 := ⟨by decide +kernel, rfl⟩
theorem e_X8_of_65 : Dc cX8_of 65 (.invokestatic 145) 3 68 := ⟨by decide +kernel, rfl⟩
theorem e_X8_of_68 : Dc cX8_of 68 (.ireturn) 1 69 := ⟨by decide +kernel, rfl⟩
theorem e_X8_of_69 : Dc cX8_of 69 (.iload_n 3) 1 70 := ⟨by decide +kernel, rfl⟩
theorem e_X8_of_70 : Dc cX8_of 70 (.aload_n 0) 1 71 := ⟨by decide +kernel, rfl⟩
theorem e_X8_of_71 : Dc cX8_of 71 (.iload_n 1) 1 72 := ⟨by decide +kernel, rfl⟩
theorem e_X8_of_72 : Dc cX8_of 72 (.iconst 4) 1 73 := ⟨by decide +kernel, rfl⟩
theorem e_X8_of_73 : Dc cX8_of 73 (.invokevirtual 142) 3 76 := ⟨by decide +kernel, rfl⟩
theorem e_X8_of_76 : Dc cX8_of 76 (.invokestatic 148) 3 79 := ⟨by decide +kernel, rfl⟩
theorem e_X8_of_79 : Dc cX8_of 79 (.ireturn) 1 80 := ⟨by decide +kernel, rfl⟩
theorem e_X8_of_80 : Dc cX8_of 80 (.iload_n 3) 1 81 := ⟨by decide +kernel, rfl⟩
theorem e_X8_of_81 : Dc cX8_of 81 (.invokestatic 151) 3 84 := ⟨by decide +kernel, rfl⟩
theorem e_X8_of_84 : Dc cX8_of 84 (.ireturn) 1 85 := ⟨by decide +kernel, rfl⟩
theorem e_X8_of_85 : Dc cX8_of 85 (.aload_n 0) 1 86 := ⟨by decide +kernel, rfl⟩
theorem e_X8_of_86 : Dc cX8_of 86 (.iload_n 3) 1 87 := ⟨by decide +kernel, rfl⟩
theorem e_X8_of_87 : Dc cX8_of 87 (.aload_n 0) 1 88 := ⟨by decide +kernel, rfl⟩
theorem e_X8_of_88 : Dc cX8_of 88 (.iload_n 1) 1 89 := ⟨by decide +kernel, rfl⟩
theorem e_X8_of_89 : Dc cX8_of 89 (.iconst 1) 1 90 := ⟨by decide +kernel, rfl⟩
theorem e_X8_of_90 : Dc cX8_of 90 (.invokevirtual 142) 3 93 := ⟨by decide +kernel, rfl⟩
theorem e_X8_of_93 : Dc cX8_of 93 (.invokevirtual 154) 3 96 := ⟨by decide +kernel, rfl⟩
theorem e_X8_of_96 : Dc cX8_of 96 (.ireturn) 1 97 := ⟨by decide +kernel, rfl⟩
theorem e_X8_of_97 : Dc cX8_of 97 (.aload_n 0) 1 98 := ⟨by decide +kernel, rfl⟩
theorem e_X8_of_98 : Dc cX8_of 98 (.iload_n 1) 1 99 := ⟨by decide +kernel, rfl⟩
theorem e_X8_of_99 : Dc cX8_of 99 (.iload_n 2) 1 100 := ⟨by decide +kernel, rfl⟩
theorem e_X8_of_100 : Dc cX8_of 100 (.invokevirtual 142) 3 103 := ⟨by decide +kernel, rfl⟩
theorem e_X8_of_103 : Dc cX8_of 103 (.ireturn) 1 104 := ⟨by decide +kernel, rfl⟩
set_option maxHeartbeats 4000000 in
set_option maxRecDepth 20000 in
theorem R_X8_of (hD : DD E) (x1 : Int32) (x2 : Int32) (s : Sg) : ∀ v τ, (f_X8_of x1 x2 s) = some (v, τ) → RI l E 3 M_X8_of [.ref (ead E 70), .int x1, .int x2] s v τ := by
  refine ofI hD (by decide +kernel) (Nat.le_of_ble_eq_true rfl) (fun X C => ?_)
  show MF l E X (fun q : Int32 × Sg => QI E X q.1 q.2) (f_X8_of x1 x2 s) s 0 [(0, .ref (ead E 70)), (1, .int x1), (2, .int x2)] []
  unfold f_X8_of
  refine MF.aload_n C e_X8_of_0 0 rfl rfl ?_
  refine MF.iload_n C e_X8_of_1 1 rfl rfl ?_
  refine MF.callVP (As := [.int x1]) C (R_X8_isEvent hD x1 s) m_X8_isEvent k_X8_126 kO_70 rfl (by decide) e_X8_of_2 rfl rfl (Nat.le_of_ble_eq_true rfl) (fun v1 => ?_)
  refine MF.if_eq (tgt := 20) C e_X8_of_5 (by decide) (fun _ => ?_) (fun _ => ?_)
  · refine MF.aload_n C e_X8_of_20 0 rfl rfl ?_
    refine MF.bipush (v := (-2 : Int32)) C e_X8_of_21 (by decide) ?_
    refine MF.callVI (As := [.int (-2 : Int32)]) C (R_X8_bad hD (-2 : Int32) s) m_X8_bad k_X8_88 kO_70 rfl (by decide) e_X8_of_23 rfl rfl (Nat.le_of_ble_eq_true rfl) (fun v2 s3 => ?_)
    exact MF.iret C e_X8_of_26
  · refine MF.iload_n C e_X8_of_8 2 rfl rfl ?_
    refine MF.i2l C e_X8_of_9 ?_
    refine MF.lconst (v := (0 : Int64)) C e_X8_of_10 (by decide) ?_
    refine MF.ldc2 C e_X8_of_11 t_X8_98 ?_
    refine MF.callSP (As := [.long (Int32.toInt64 x2), .long (0 : Int64), .long (9 : Int64)]) C (R_X8_in hD (Int32.toInt64 x2) (0 : Int64) (9 : Int64) s) m_X8_in k_X8_75 (by decide) e_X8_of_14 rfl rfl (Nat.le_of_ble_eq_true rfl) (fun v4 => ?_)
    refine MF.if_ne (tgt := 27) C e_X8_of_17 (by decide) (fun _ => ?_) (fun _ => ?_)
    · refine MF.aload_n C e_X8_of_27 0 rfl rfl ?_
      refine MF.iload_n C e_X8_of_28 1 rfl rfl ?_
      refine MF.iconst (v := (nI 0)) C e_X8_of_29 rfl ?_
      refine MF.callVP (As := [.int x1, .int (nI 0)]) C (R_X8_told hD x1 (nI 0) s) m_X8_told k_X8_142 kO_70 rfl (by decide) e_X8_of_30 rfl rfl (Nat.le_of_ble_eq_true rfl) (fun v5 => ?_)
      refine MF.istore_n (lv' := [(0, .ref (ead E 70)), (1, .int x1), (2, .int x2), (3, .int v5)]) C e_X8_of_33 (by decide) rfl ?_
      refine MF.iload_n C e_X8_of_34 2 rfl rfl ?_
      refine MF.split (fun h0 => ?_) (fun h0 => ?_)
      · refine MF.tabIn (tgt := 64) C e_X8_of_35 h0 (by decide) (by decide) rfl (by decide) ?_
        refine MF.iload_n C e_X8_of_64 3 rfl rfl ?_
        refine MF.callSP (As := [.int v5]) C (R_X8_mustSee hD v5 s) m_X8_mustSee k_X8_145 (by decide) e_X8_of_65 rfl rfl (Nat.le_of_ble_eq_true rfl) (fun v6 => ?_)
        exact MF.iret C e_X8_of_68
      · refine MF.split (fun h1 => ?_) (fun h1 => ?_)
        · refine MF.tabIn (tgt := 69) C e_X8_of_35 h1 (by decide) (by decide) rfl (by decide) ?_
          refine MF.iload_n C e_X8_of_69 3 rfl rfl ?_
          refine MF.aload_n C e_X8_of_70 0 rfl rfl ?_
          refine MF.iload_n C e_X8_of_71 1 rfl rfl ?_
          refine MF.iconst (v := (nI 4)) C e_X8_of_72 rfl ?_
          refine MF.callVP (As := [.int x1, .int (nI 4)]) C (R_X8_told hD x1 (nI 4) s) m_X8_told k_X8_142 kO_70 rfl (by decide) e_X8_of_73 rfl rfl (Nat.le_of_ble_eq_true rfl) (fun v7 => ?_)
          refine MF.callSP (As := [.int v5, .int v7]) C (R_X8_rankOf hD v5 v7 s) m_X8_rankOf k_X8_148 (by decide) e_X8_of_76 rfl rfl (Nat.le_of_ble_eq_true rfl) (fun v8 => ?_)
          exact MF.iret C e_X8_of_79
        · refine MF.split (fun h2 => ?_) (fun h2 => ?_)
          · refine MF.tabIn (tgt := 80) C e_X8_of_35 h2 (by decide) (by decide) rfl (by decide) ?_
            refine MF.iload_n C e_X8_of_80 3 rfl rfl ?_
            refine MF.callSP (As := [.int v5]) C (R_X8_standsFor hD v5 s) m_X8_standsFor k_X8_151 (by decide) e_X8_of_81 rfl rfl (Nat.le_of_ble_eq_true rfl) (fun v9 => ?_)
            exact MF.iret C e_X8_of_84
          · refine MF.split (fun h3 => ?_) (fun h3 => ?_)
            · refine MF.tabIn (tgt := 85) C e_X8_of_35 h3 (by decide) (by decide) rfl (by decide) ?_
              refine MF.aload_n C e_X8_of_85 0 rfl rfl ?_
              refine MF.iload_n C e_X8_of_86 3 rfl rfl ?_
              refine MF.aload_n C e_X8_of_87 0 rfl rfl ?_
              refine MF.iload_n C e_X8_of_88 1 rfl rfl ?_
              refine MF.iconst (v := (nI 1)) C e_X8_of_89 rfl ?_
              refine MF.callVP (As := [.int x1, .int (nI 1)]) C (R_X8_told hD x1 (nI 1) s) m_X8_told k_X8_142 kO_70 rfl (by decide) e_X8_of_90 rfl rfl (Nat.le_of_ble_eq_true rfl) (fun v10 => ?_)
              refine MF.callVP (As := [.int v5, .int v10]) C (R_X8_happensIn hD v5 v10 s) m_X8_happensIn k_X8_154 kO_70 rfl (by decide) e_X8_of_93 rfl rfl (Nat.le_of_ble_eq_true rfl) (fun v11 => ?_)
              exact MF.iret C e_X8_of_96
            · refine MF.tabOut (tgt := 97) C e_X8_of_35 (by have q0 : _ ≠ (6 : Int) := i32_ne h0; have q1 : _ ≠ (7 : Int) := i32_ne h1; have q2 : _ ≠ (8 : Int) := i32_ne h2; have q3 : _ ≠ (9 : Int) := i32_ne h3; omega) (by decide) ?_
              refine MF.aload_n C e_X8_of_97 0 rfl rfl ?_
              refine MF.iload_n C e_X8_of_98 1 rfl rfl ?_
              refine MF.iload_n C e_X8_of_99 2 rfl rfl ?_
              refine MF.callVP (As := [.int x1, .int x2]) C (R_X8_told hD x1 x2 s) m_X8_told k_X8_142 kO_70 rfl (by decide) e_X8_of_100 rfl rfl (Nat.le_of_ble_eq_true rfl) (fun v12 => ?_)
              exact MF.iret C e_X8_of_103
    · refine MF.aload_n C e_X8_of_20 0 rfl rfl ?_
      refine MF.bipush (v := (-2 : Int32)) C e_X8_of_21 (by decide) ?_
      refine MF.callVI (As := [.int (-2 : Int32)]) C (R_X8_bad hD (-2 : Int32) s) m_X8_bad k_X8_88 kO_70 rfl (by decide) e_X8_of_23 rfl rfl (Nat.le_of_ble_eq_true rfl) (fun v13 s14 => ?_)
      exact MF.iret C e_X8_of_26
theorem e_X8_rename_0 : Dc cX8_rename 0 (.iload_n 3) 1 1 := ⟨by decide +kernel, rfl⟩
theorem e_X8_rename_1 : Dc cX8_rename 1 (.aload_n 0) 1 2 := ⟨by decide +kernel, rfl⟩
theorem e_X8_rename_2 : Dc cX8_rename 2 (.getfield 38) 3 5 := ⟨by decide +kernel, rfl⟩
theorem e_X8_rename_5 : Dc cX8_rename 5 (.iload_n 1) 1 6 := ⟨by decide +kernel, rfl⟩
theorem e_X8_rename_6 : Dc cX8_rename 6 (.iaload) 1 7 := ⟨by decide +kernel, rfl⟩
theorem e_X8_rename_7 : Dc cX8_rename 7 (.if_icmp .ge 7) 3 10 := ⟨by decide +kernel, rfl⟩
theorem e_X8_rename_10 : Dc cX8_rename 10 (.iconst 1) 1 11 := ⟨by decide +kernel, rfl⟩
theorem e_X8_rename_11 : Dc cX8_rename 11 (.goto 4) 3 14 := ⟨by decide +kernel, rfl⟩
theorem e_X8_rename_14 : Dc cX8_rename 14 (.iconst 0) 1 15 := ⟨by decide +kernel, rfl⟩
theorem e_X8_rename_15 : Dc cX8_rename 15 (.istore 6) 2 17 := ⟨by decide +kernel, rfl⟩
theorem e_X8_rename_17 : Dc cX8_rename 17 (.aload_n 0) 1 18 := ⟨by decide +kernel, rfl⟩
theorem e_X8_rename_18 : Dc cX8_rename 18 (.getfield 7) 3 21 := ⟨by decide +kernel, rfl⟩
theorem e_X8_rename_21 : Dc cX8_rename 21 (.iconst 2) 1 22 := ⟨by decide +kernel, rfl⟩
theorem e_X8_rename_22 : Dc cX8_rename 22 (.iaload) 1 23 := ⟨by decide +kernel, rfl⟩
theorem e_X8_rename_23 : Dc cX8_rename 23 (.iconst 2) 1 24 := ⟨by decide +kernel, rfl⟩
theorem e_X8_rename_24 : Dc cX8_rename 24 (.if_icmp .eq 44) 3 27 := ⟨by decide +kernel, rfl⟩
theorem e_X8_rename_27 : Dc cX8_rename 27 (.aload_n 0) 1 28 := ⟨by decide +kernel, rfl⟩
theorem e_X8_rename_28 : Dc cX8_rename 28 (.getfield 7) 3 31 := ⟨by decide +kernel, rfl⟩
theorem e_X8_rename_31 : Dc cX8_rename 31 (.iconst 2) 1 32 := ⟨by decide +kernel, rfl⟩
theorem e_X8_rename_32 : Dc cX8_rename 32 (.iaload) 1 33 := ⟨by decide +kernel, rfl⟩
theorem e_X8_rename_33 : Dc cX8_rename 33 (.ifCond .ne 14) 3 36 := ⟨by decide +kernel, rfl⟩
theorem e_X8_rename_36 : Dc cX8_rename 36 (.iload 4) 2 38 := ⟨by decide +kernel, rfl⟩
theorem e_X8_rename_38 : Dc cX8_rename 38 (.aload_n 0) 1 39 := ⟨by decide +kernel, rfl⟩
theorem e_X8_rename_39 : Dc cX8_rename 39 (.getfield 35) 3 42 := ⟨by decide +kernel, rfl⟩
theorem e_X8_rename_42 : Dc cX8_rename 42 (.iload_n 1) 1 43 := ⟨by decide +kernel, rfl⟩
theorem e_X8_rename_43 : Dc cX8_rename 43 (.iaload) 1 44 := ⟨by decide +kernel, rfl⟩
theorem e_X8_rename_44 : Dc cX8_rename 44 (.if_icmp .ge 24) 3 47 := ⟨by decide +kernel, rfl⟩
theorem e_X8_rename_47 : Dc cX8_rename 47 (.aload_n 0) 1 48 := ⟨by decide +kernel, rfl⟩
theorem e_X8_rename_48 : Dc cX8_rename 48 (.getfield 7) 3 51 := ⟨by decide +kernel, rfl⟩
theorem e_X8_rename_51 : Dc cX8_rename 51 (.iconst 2) 1 52 := ⟨by decide +kernel, rfl⟩
theorem e_X8_rename_52 : Dc cX8_rename 52 (.iaload) 1 53 := ⟨by decide +kernel, rfl⟩
theorem e_X8_rename_53 : Dc cX8_rename 53 (.iconst 1) 1 54 := ⟨by decide +kernel, rfl⟩
theorem e_X8_rename_54 : Dc cX8_rename 54 (.if_icmp .ne 18) 3 57 := ⟨by decide +kernel, rfl⟩
theorem e_X8_rename_57 : Dc cX8_rename 57 (.iload 4) 2 59 := ⟨by decide +kernel, rfl⟩
theorem e_X8_rename_59 : Dc cX8_rename 59 (.aload_n 0) 1 60 := ⟨by decide +kernel, rfl⟩
theorem e_X8_rename_60 : Dc cX8_rename 60 (.getfield 35) 3 63 := ⟨by decide +kernel, rfl⟩
theorem e_X8_rename_63 : Dc cX8_rename 63 (.iload_n 1) 1 64 := ⟨by decide +kernel, rfl⟩
theorem e_X8_rename_64 : Dc cX8_rename 64 (.iaload) 1 65 := ⟨by decide +kernel, rfl⟩
theorem e_X8_rename_65 : Dc cX8_rename 65 (.if_icmp .le 7) 3 68 := ⟨by decide +kernel, rfl⟩
theorem e_X8_rename_68 : Dc cX8_rename 68 (.iconst 1) 1 69 := ⟨by decide +kernel, rfl⟩
theorem e_X8_rename_69 : Dc cX8_rename 69 (.goto 4) 3 72 := ⟨by decide +kernel, rfl⟩
theorem e_X8_rename_72 : Dc cX8_rename 72 (.iconst 0) 1 73 := ⟨by decide +kernel, rfl⟩
theorem e_X8_rename_73 : Dc cX8_rename 73 (.istore 7) 2 75 := ⟨by decide +kernel, rfl⟩
theorem e_X8_rename_75 : Dc cX8_rename 75 (.iload 6) 2 77 := ⟨by decide +kernel, rfl⟩
theorem e_X8_rename_77 : Dc cX8_rename 77 (.ifCond .eq 9) 3 80 := ⟨by decide +kernel, rfl⟩
theorem e_X8_rename_80 : Dc cX8_rename 80 (.iload 7) 2 82 := ⟨by decide +kernel, rfl⟩
theorem e_X8_rename_82 : Dc cX8_rename 82 (.ifCond .ne 4) 3 85 := ⟨by decide +kernel, rfl⟩
theorem e_X8_rename_85 : Dc cX8_rename 85 (.return_) 1 86 := ⟨by decide +kernel, rfl⟩
theorem e_X8_rename_86 : Dc cX8_rename 86 (.iconst 0) 1 87 := ⟨by decide +kernel, rfl⟩
theorem e_X8_rename_87 : Dc cX8_rename 87 (.istore 8) 2 89 := ⟨by decide +kernel, rfl⟩
theorem e_X8_rename_89 : Dc cX8_rename 89 (.iconst 0) 1 90 := ⟨by decide +kernel, rfl⟩
theorem e_X8_rename_90 : Dc cX8_rename 90 (.istore 9) 2 92 := ⟨by decide +kernel, rfl⟩
theorem e_X8_rename_92 : Dc cX8_rename 92 (.iload 9) 2 94 := ⟨by decide +kernel, rfl⟩
theorem e_X8_rename_94 : Dc cX8_rename 94 (.aload_n 0) 1 95 := ⟨by decide +kernel, rfl⟩
theorem e_X8_rename_95 : Dc cX8_rename 95 (.invokevirtual 71) 3 98 := ⟨by decide +kernel, rfl⟩
theorem e_X8_rename_98 : Dc cX8_rename 98 (.if_icmp .ge 37) 3 101 := ⟨by decide +kernel, rfl⟩
theorem e_X8_rename_101 : Dc cX8_rename 101 (.iload 8) 2 103 := ⟨by decide +kernel, rfl⟩
theorem e_X8_rename_103 : Dc cX8_rename 103 (.iload 9) 2 105 := ⟨by decide +kernel, rfl⟩
theorem e_X8_rename_105 : Dc cX8_rename 105 (.iload_n 1) 1 106 := ⟨by decide +kernel, rfl⟩
theorem e_X8_rename_106 : Dc cX8_rename 106 (.if_icmp .eq 19) 3 109 := ⟨by decide +kernel, rfl⟩
theorem e_X8_rename_109 : Dc cX8_rename 109 (.aload_n 0) 1 110 := ⟨by decide +kernel, rfl⟩
theorem e_X8_rename_110 : Dc cX8_rename 110 (.getfield 29) 3 113 := ⟨by decide +kernel, rfl⟩
theorem e_X8_rename_113 : Dc cX8_rename 113 (.iload 9) 2 115 := ⟨by decide +kernel, rfl⟩
theorem e_X8_rename_115 : Dc cX8_rename 115 (.iaload) 1 116 := ⟨by decide +kernel, rfl⟩
theorem e_X8_rename_116 : Dc cX8_rename 116 (.iload 5) 2 118 := ⟨by decide +kernel, rfl⟩
theorem e_X8_rename_118 : Dc cX8_rename 118 (.if_icmp .ne 7) 3 121 := ⟨by decide +kernel, rfl⟩
theorem e_X8_rename_121 : Dc cX8_rename 121 (.iconst 1) 1 122 := ⟨by decide +kernel, rfl⟩
theorem e_X8_rename_122 : Dc cX8_rename 122 (.goto 4) 3 125 := ⟨by decide +kernel, rfl⟩
theorem e_X8_rename_125 : Dc cX8_rename 125 (.iconst 0) 1 126 := ⟨by decide +kernel, rfl⟩
theorem e_X8_rename_126 : Dc cX8_rename 126 (.iadd) 1 127 := ⟨by decide +kernel, rfl⟩
theorem e_X8_rename_127 : Dc cX8_rename 127 (.istore 8) 2 129 := ⟨by decide +kernel, rfl⟩
theorem e_X8_rename_129 : Dc cX8_rename 129 (.iinc 9 1) 3 132 := ⟨by decide +kernel, rfl⟩
theorem e_X8_rename_132 : Dc cX8_rename 132 (.goto (-40)) 3 135 := ⟨by decide +kernel, rfl⟩
theorem e_X8_rename_135 : Dc cX8_rename 135 (.aload_n 0) 1 136 := ⟨by decide +kernel, rfl⟩
theorem e_X8_rename_136 : Dc cX8_rename 136 (.getfield 29) 3 139 := ⟨by decide +kernel, rfl⟩
theorem e_X8_rename_139 : Dc cX8_rename 139 (.iload_n 1) 1 140 := ⟨by decide +kernel, rfl⟩
theorem e_X8_rename_140 : Dc cX8_rename 140 (.iload 5) 2 142 := ⟨by decide +kernel, rfl⟩
theorem e_X8_rename_142 : Dc cX8_rename 142 (.iastore) 1 143 := ⟨by decide +kernel, rfl⟩
theorem e_X8_rename_143 : Dc cX8_rename 143 (.aload_n 0) 1 144 := ⟨by decide +kernel, rfl⟩
theorem e_X8_rename_144 : Dc cX8_rename 144 (.getfield 32) 3 147 := ⟨by decide +kernel, rfl⟩
theorem e_X8_rename_147 : Dc cX8_rename 147 (.iload_n 1) 1 148 := ⟨by decide +kernel, rfl⟩
theorem e_X8_rename_148 : Dc cX8_rename 148 (.iconst 1) 1 149 := ⟨by decide +kernel, rfl⟩
theorem e_X8_rename_149 : Dc cX8_rename 149 (.iload 8) 2 151 := ⟨by decide +kernel, rfl⟩
theorem e_X8_rename_151 : Dc cX8_rename 151 (.iadd) 1 152 := ⟨by decide +kernel, rfl⟩
theorem e_X8_rename_152 : Dc cX8_rename 152 (.iastore) 1 153 := ⟨by decide +kernel, rfl⟩
theorem e_X8_rename_153 : Dc cX8_rename 153 (.aload_n 0) 1 154 := ⟨by decide +kernel, rfl⟩
theorem e_X8_rename_154 : Dc cX8_rename 154 (.getfield 35) 3 157 := ⟨by decide +kernel, rfl⟩
theorem e_X8_rename_157 : Dc cX8_rename 157 (.iload_n 1) 1 158 := ⟨by decide +kernel, rfl⟩
theorem e_X8_rename_158 : Dc cX8_rename 158 (.iload 4) 2 160 := ⟨by decide +kernel, rfl⟩
theorem e_X8_rename_160 : Dc cX8_rename 160 (.iastore) 1 161 := ⟨by decide +kernel, rfl⟩
theorem e_X8_rename_161 : Dc cX8_rename 161 (.aload_n 0) 1 162 := ⟨by decide +kernel, rfl⟩
theorem e_X8_rename_162 : Dc cX8_rename 162 (.getfield 38) 3 165 := ⟨by decide +kernel, rfl⟩
theorem e_X8_rename_165 : Dc cX8_rename 165 (.iload_n 1) 1 166 := ⟨by decide +kernel, rfl⟩
theorem e_X8_rename_166 : Dc cX8_rename 166 (.iload_n 3) 1 167 := ⟨by decide +kernel, rfl⟩
theorem e_X8_rename_167 : Dc cX8_rename 167 (.iload_n 2) 1 168 := ⟨by decide +kernel, rfl⟩
theorem e_X8_rename_168 : Dc cX8_rename 168 (.invokestatic 151) 3 171 := ⟨by decide +kernel, rfl⟩
theorem e_X8_rename_171 : Dc cX8_rename 171 (.iadd) 1 172 := ⟨by decide +kernel, rfl⟩
theorem e_X8_rename_172 : Dc cX8_rename 172 (.iastore) 1 173 := ⟨by decide +kernel, rfl⟩
theorem e_X8_rename_173 : Dc cX8_rename 173 (.aload_n 0) 1 174 := ⟨by decide +kernel, rfl⟩
theorem e_X8_rename_174 : Dc cX8_rename 174 (.getfield 41) 3 177 := ⟨by decide +kernel, rfl⟩
theorem e_X8_rename_177 : Dc cX8_rename 177 (.iload_n 1) 1 178 := ⟨by decide +kernel, rfl⟩
theorem e_X8_rename_178 : Dc cX8_rename 178 (.dup2) 1 179 := ⟨by decide +kernel, rfl⟩
theorem e_X8_rename_179 : Dc cX8_rename 179 (.iaload) 1 180 := ⟨by decide +kernel, rfl⟩
theorem e_X8_rename_180 : Dc cX8_rename 180 (.iconst 1) 1 181 := ⟨by decide +kernel, rfl⟩
theorem e_X8_rename_181 : Dc cX8_rename 181 (.iadd) 1 182 := ⟨by decide +kernel, rfl⟩
theorem e_X8_rename_182 : Dc cX8_rename 182 (.iastore) 1 183 := ⟨by decide +kernel, rfl⟩
theorem e_X8_rename_183 : Dc cX8_rename 183 (.return_) 1 184 := ⟨by decide +kernel, rfl⟩
set_option maxHeartbeats 4000000 in
set_option maxRecDepth 20000 in
theorem R_X8_rename (hD : DD E) (x1 : Int32) (x2 : Int32) (x3 : Int32) (x4 : Int32) (x5 : Int32) (s : Sg) : ∀ τ, (f_X8_rename x1 x2 x3 x4 x5 s) = some τ → RV l E 1 M_X8_rename [.ref (ead E 70), .int x1, .int x2, .int x3, .int x4, .int x5] s τ := by
  refine ofU hD (by decide +kernel) (Nat.le_of_ble_eq_true rfl) (fun X C => ?_)
  show MF l E X (fun q : Sg => QV E X q) (f_X8_rename x1 x2 x3 x4 x5 s) s 0 [(0, .ref (ead E 70)), (1, .int x1), (2, .int x2), (3, .int x3), (4, .int x4), (5, .int x5)] []
  unfold f_X8_rename
  refine MF.iload_n C e_X8_rename_0 3 rfl rfl ?_
  refine MF.aload_n C e_X8_rename_1 0 rfl rfl ?_
  refine MF.getR (j := 80) C cf_X8 l_X8_38 e_X8_rename_2 kF_70_9 ?_
  refine MF.iload_n C e_X8_rename_5 1 rfl rfl ?_
  refine MF.iald C e_X8_rename_6 kA_80 (fun v1 => ?_)
  refine MF.join (fun j : Int32 → Option Sg => ∀ (a2 : Int32), MF l E X (fun q : Sg => QV E X q) (j a2) s 15 [(0, .ref (ead E 70)), (1, .int x1), (2, .int x2), (3, .int x3), (4, .int x4), (5, .int x5)] [.int a2]) ?_ (fun j3 hj3 => ?_)
  · intro a2
    refine MF.istore (lv' := [(0, .ref (ead E 70)), (1, .int x1), (2, .int x2), (3, .int x3), (4, .int x4), (5, .int x5), (6, .int a2)]) C e_X8_rename_15 (by decide) rfl ?_
    refine MF.aload_n C e_X8_rename_17 0 rfl rfl ?_
    refine MF.getR (j := 71) C cf_X8 l_X8_7 e_X8_rename_18 kF_70_0 ?_
    refine MF.iconst (v := (nI 2)) C e_X8_rename_21 rfl ?_
    refine MF.iald C e_X8_rename_22 kA_71 (fun v4 => ?_)
    refine MF.iconst (v := (nI 2)) C e_X8_rename_23 rfl ?_
    refine MF.join (fun j : Int32 → Option Sg => ∀ (a5 : Int32), MF l E X (fun q : Sg => QV E X q) (j a5) s 73 [(0, .ref (ead E 70)), (1, .int x1), (2, .int x2), (3, .int x3), (4, .int x4), (5, .int x5), (6, .int a2)] [.int a5]) ?_ (fun j6 hj6 => ?_)
    · intro a5
      refine MF.istore (lv' := [(0, .ref (ead E 70)), (1, .int x1), (2, .int x2), (3, .int x3), (4, .int x4), (5, .int x5), (6, .int a2), (7, .int a5)]) C e_X8_rename_73 (by decide) rfl ?_
      refine MF.iload C e_X8_rename_75 6 rfl ?_
      refine MF.join (fun j : Unit → Option Sg => ∀ (_u : Unit), MF l E X (fun q : Sg => QV E X q) (j _u) s 86 [(0, .ref (ead E 70)), (1, .int x1), (2, .int x2), (3, .int x3), (4, .int x4), (5, .int x5)] []) ?_ (fun j7 hj7 => ?_)
      · intro _
        refine MF.iconst (v := (nI 0)) C e_X8_rename_86 rfl ?_
        refine MF.istore (lv' := [(0, .ref (ead E 70)), (1, .int x1), (2, .int x2), (3, .int x3), (4, .int x4), (5, .int x5), (8, .int (nI 0))]) C e_X8_rename_87 (by decide) rfl ?_
        refine MF.iconst (v := (nI 0)) C e_X8_rename_89 rfl ?_
        refine MF.istore (lv' := [(0, .ref (ead E 70)), (1, .int x1), (2, .int x2), (3, .int x3), (4, .int x4), (5, .int x5), (8, .int (nI 0)), (9, .int (nI 0))]) C e_X8_rename_90 (by decide) rfl ?_
        refine MF.join (fun j : Int32 → Option Sg => ∀ (a8 : Int32), MF l E X (fun q : Sg => QV E X q) (j a8) s 135 [(0, .ref (ead E 70)), (1, .int x1), (2, .int x2), (3, .int x3), (4, .int x4), (5, .int x5), (8, .int a8)] []) ?_ (fun j9 hj9 => ?_)
        · intro a8
          refine MF.aload_n C e_X8_rename_135 0 rfl rfl ?_
          refine MF.getR (j := 77) C cf_X8 l_X8_29 e_X8_rename_136 kF_70_6 ?_
          refine MF.iload_n C e_X8_rename_139 1 rfl rfl ?_
          refine MF.iload C e_X8_rename_140 5 rfl ?_
          refine MF.iast C e_X8_rename_142 kA_77 (fun s10 => ?_)
          refine MF.aload_n C e_X8_rename_143 0 rfl rfl ?_
          refine MF.getR (j := 78) C cf_X8 l_X8_32 e_X8_rename_144 kF_70_7 ?_
          refine MF.iload_n C e_X8_rename_147 1 rfl rfl ?_
          refine MF.iconst (v := (nI 1)) C e_X8_rename_148 rfl ?_
          refine MF.iload C e_X8_rename_149 6 rfl ?_
          refine MF.iadd C e_X8_rename_151 ?_
          refine MF.iast C e_X8_rename_152 kA_78 (fun s11 => ?_)
          refine MF.aload_n C e_X8_rename_153 0 rfl rfl ?_
          refine MF.getR (j := 79) C cf_X8 l_X8_35 e_X8_rename_154 kF_70_8 ?_
          refine MF.iload_n C e_X8_rename_157 1 rfl rfl ?_
          refine MF.iload C e_X8_rename_158 4 rfl ?_
          refine MF.iast C e_X8_rename_160 kA_79 (fun s12 => ?_)
          refine MF.aload_n C e_X8_rename_161 0 rfl rfl ?_
          refine MF.getR (j := 80) C cf_X8 l_X8_38 e_X8_rename_162 kF_70_9 ?_
          refine MF.iload_n C e_X8_rename_165 1 rfl rfl ?_
          refine MF.iload_n C e_X8_rename_166 3 rfl rfl ?_
          refine MF.iload_n C e_X8_rename_167 2 rfl rfl ?_
          refine MF.callSP (As := [.int x2]) C (R_X8_standsFor hD x2 s12) m_X8_standsFor k_X8_151 (by decide) e_X8_rename_168 rfl rfl (Nat.le_of_ble_eq_true rfl) (fun v13 => ?_)
          refine MF.iadd C e_X8_rename_171 ?_
          refine MF.iast C e_X8_rename_172 kA_80 (fun s14 => ?_)
          refine MF.aload_n C e_X8_rename_173 0 rfl rfl ?_
          refine MF.getR (j := 81) C cf_X8 l_X8_41 e_X8_rename_174 kF_70_10 ?_
          refine MF.iload_n C e_X8_rename_177 1 rfl rfl ?_
          refine MF.dup2 C e_X8_rename_178 rfl rfl ?_
          refine MF.iald C e_X8_rename_179 kA_81 (fun v15 => ?_)
          refine MF.iconst (v := (nI 1)) C e_X8_rename_180 rfl ?_
          refine MF.iadd C e_X8_rename_181 ?_
          refine MF.iast C e_X8_rename_182 kA_81 (fun s16 => ?_)
          exact MF.vret C e_X8_rename_183
        refine MF.loop2 (fun i17 i18 => s) (fun i17 i18 => [(0, .ref (ead E 70)), (1, .int x1), (2, .int x2), (3, .int x3), (4, .int x4), (5, .int x5), (8, .int i17), (9, .int i18)]) (fun self19 hself19 i17 i18 => ?_) fu (nI 0) (nI 0)
        unfold b_X8_rename_92
        refine MF.iload C e_X8_rename_92 7 rfl ?_
        refine MF.aload_n C e_X8_rename_94 0 rfl rfl ?_
        refine MF.callVP (As := []) C (R_X8_streets hD s) m_X8_streets k_X8_71 kO_70 rfl (by decide) e_X8_rename_95 rfl rfl (Nat.le_of_ble_eq_true rfl) (fun v20 => ?_)
        refine MF.icmp_ge (tgt := 135) C e_X8_rename_98 (by decide) (fun _ => ?_) (fun _ => ?_)
        · refine MF.sub [0, 1, 2, 3, 4, 5, 6] rfl ?_
          exact hj9 i17
        · refine MF.iload C e_X8_rename_101 6 rfl ?_
          refine MF.iload C e_X8_rename_103 7 rfl ?_
          refine MF.iload_n C e_X8_rename_105 1 rfl rfl ?_
          refine MF.join (fun j : Int32 → Option Sg => ∀ (a21 : Int32), MF l E X (fun q : Sg => QV E X q) (j a21) s 126 [(0, .ref (ead E 70)), (1, .int x1), (2, .int x2), (3, .int x3), (4, .int x4), (5, .int x5), (9, .int i18)] [.int a21, .int i17]) ?_ (fun j22 hj22 => ?_)
          · intro a21
            refine MF.iadd C e_X8_rename_126 ?_
            refine MF.nmI (fun v23 => ?_)
            refine MF.istore (lv' := [(0, .ref (ead E 70)), (1, .int x1), (2, .int x2), (3, .int x3), (4, .int x4), (5, .int x5), (8, .int v23), (9, .int i18)]) C e_X8_rename_127 (by decide) rfl ?_
            refine MF.iinc (v := (nI 1)) (lv' := [(0, .ref (ead E 70)), (1, .int x1), (2, .int x2), (3, .int x3), (4, .int x4), (5, .int x5), (8, .int v23), (9, .int (i18 + (nI 1)))]) C e_X8_rename_129 7 rfl rfl (by decide) rfl ?_
            refine MF.goto (tgt := 92) C e_X8_rename_132 (by decide) ?_
            exact hself19 v23 (i18 + (nI 1))
          refine MF.join (fun j : Unit → Option Sg => ∀ (_u : Unit), MF l E X (fun q : Sg => QV E X q) (j _u) s 125 [(0, .ref (ead E 70)), (1, .int x1), (2, .int x2), (3, .int x3), (4, .int x4), (5, .int x5), (9, .int i18)] [.int i17]) ?_ (fun j24 hj24 => ?_)
          · intro _
            refine MF.iconst (v := (nI 0)) C e_X8_rename_125 rfl ?_
            exact hj22 (nI 0)
          refine MF.icmp_eq (tgt := 125) C e_X8_rename_106 (by decide) (fun _ => ?_) (fun _ => ?_)
          · refine MF.sub [0, 1, 2, 3, 4, 5, 7] rfl ?_
            exact hj24 ()
          · refine MF.aload_n C e_X8_rename_109 0 rfl rfl ?_
            refine MF.getR (j := 77) C cf_X8 l_X8_29 e_X8_rename_110 kF_70_6 ?_
            refine MF.iload C e_X8_rename_113 7 rfl ?_
            refine MF.iald C e_X8_rename_115 kA_77 (fun v25 => ?_)
            refine MF.iload C e_X8_rename_116 5 rfl ?_
            refine MF.icmp_ne (tgt := 125) C e_X8_rename_118 (by decide) (fun _ => ?_) (fun _ => ?_)
            · refine MF.sub [0, 1, 2, 3, 4, 5, 7] rfl ?_
              exact hj24 ()
            · refine MF.iconst (v := (nI 1)) C e_X8_rename_121 rfl ?_
              refine MF.goto (tgt := 126) C e_X8_rename_122 (by decide) ?_
              refine MF.sub [0, 1, 2, 3, 4, 5, 7] rfl ?_
              exact hj22 (nI 1)
      refine MF.if_eq (tgt := 86) C e_X8_rename_77 (by decide) (fun _ => ?_) (fun _ => ?_)
      · refine MF.sub [0, 1, 2, 3, 4, 5] rfl ?_
        exact hj7 ()
      · refine MF.iload C e_X8_rename_80 7 rfl ?_
        refine MF.if_ne (tgt := 86) C e_X8_rename_82 (by decide) (fun _ => ?_) (fun _ => ?_)
        · refine MF.sub [0, 1, 2, 3, 4, 5] rfl ?_
          exact hj7 ()
        · exact MF.vret C e_X8_rename_85
    refine MF.join (fun j : Unit → Option Sg => ∀ (_u : Unit), MF l E X (fun q : Sg => QV E X q) (j _u) s 68 [(0, .ref (ead E 70)), (1, .int x1), (2, .int x2), (3, .int x3), (4, .int x4), (5, .int x5), (6, .int a2)] []) ?_ (fun j26 hj26 => ?_)
    · intro _
      refine MF.iconst (v := (nI 1)) C e_X8_rename_68 rfl ?_
      refine MF.goto (tgt := 73) C e_X8_rename_69 (by decide) ?_
      exact hj6 (nI 1)
    refine MF.icmp_eq (tgt := 68) C e_X8_rename_24 (by decide) (fun _ => ?_) (fun _ => ?_)
    · exact hj26 ()
    · refine MF.aload_n C e_X8_rename_27 0 rfl rfl ?_
      refine MF.getR (j := 71) C cf_X8 l_X8_7 e_X8_rename_28 kF_70_0 ?_
      refine MF.iconst (v := (nI 2)) C e_X8_rename_31 rfl ?_
      refine MF.iald C e_X8_rename_32 kA_71 (fun v27 => ?_)
      refine MF.join (fun j : Unit → Option Sg => ∀ (_u : Unit), MF l E X (fun q : Sg => QV E X q) (j _u) s 47 [(0, .ref (ead E 70)), (1, .int x1), (2, .int x2), (3, .int x3), (4, .int x4), (5, .int x5), (6, .int a2)] []) ?_ (fun j28 hj28 => ?_)
      · intro _
        refine MF.aload_n C e_X8_rename_47 0 rfl rfl ?_
        refine MF.getR (j := 71) C cf_X8 l_X8_7 e_X8_rename_48 kF_70_0 ?_
        refine MF.iconst (v := (nI 2)) C e_X8_rename_51 rfl ?_
        refine MF.iald C e_X8_rename_52 kA_71 (fun v29 => ?_)
        refine MF.iconst (v := (nI 1)) C e_X8_rename_53 rfl ?_
        refine MF.join (fun j : Unit → Option Sg => ∀ (_u : Unit), MF l E X (fun q : Sg => QV E X q) (j _u) s 72 [(0, .ref (ead E 70)), (1, .int x1), (2, .int x2), (3, .int x3), (4, .int x4), (5, .int x5), (6, .int a2)] []) ?_ (fun j30 hj30 => ?_)
        · intro _
          refine MF.iconst (v := (nI 0)) C e_X8_rename_72 rfl ?_
          exact hj6 (nI 0)
        refine MF.icmp_ne (tgt := 72) C e_X8_rename_54 (by decide) (fun _ => ?_) (fun _ => ?_)
        · exact hj30 ()
        · refine MF.iload C e_X8_rename_57 4 rfl ?_
          refine MF.aload_n C e_X8_rename_59 0 rfl rfl ?_
          refine MF.getR (j := 79) C cf_X8 l_X8_35 e_X8_rename_60 kF_70_8 ?_
          refine MF.iload_n C e_X8_rename_63 1 rfl rfl ?_
          refine MF.iald C e_X8_rename_64 kA_79 (fun v31 => ?_)
          refine MF.icmp_le (tgt := 72) C e_X8_rename_65 (by decide) (fun _ => ?_) (fun _ => ?_)
          · exact hj30 ()
          · exact hj26 ()
      refine MF.if_ne (tgt := 47) C e_X8_rename_33 (by decide) (fun _ => ?_) (fun _ => ?_)
      · exact hj28 ()
      · refine MF.iload C e_X8_rename_36 4 rfl ?_
        refine MF.aload_n C e_X8_rename_38 0 rfl rfl ?_
        refine MF.getR (j := 79) C cf_X8 l_X8_35 e_X8_rename_39 kF_70_8 ?_
        refine MF.iload_n C e_X8_rename_42 1 rfl rfl ?_
        refine MF.iald C e_X8_rename_43 kA_79 (fun v32 => ?_)
        refine MF.icmp_ge (tgt := 68) C e_X8_rename_44 (by decide) (fun _ => ?_) (fun _ => ?_)
        · exact hj26 ()
        · exact hj28 ()
  refine MF.icmp_ge (tgt := 14) C e_X8_rename_7 (by decide) (fun _ => ?_) (fun _ => ?_)
  · refine MF.iconst (v := (nI 0)) C e_X8_rename_14 rfl ?_
    exact hj3 (nI 0)
  · refine MF.iconst (v := (nI 1)) C e_X8_rename_10 rfl ?_
    refine MF.goto (tgt := 15) C e_X8_rename_11 (by decide) ?_
    exact hj3 (nI 1)
theorem e_X8_happen_0 : Dc cX8_happen 0 (.iload 4) 2 2 := ⟨by decide +kernel, rfl⟩
theorem e_X8_happen_2 : Dc cX8_happen 2 (.iload_n 1) 1 3 := ⟨by decide +kernel, rfl⟩
theorem e_X8_happen_3 : Dc cX8_happen 3 (.invokestatic 145) 3 6 := ⟨by decide +kernel, rfl⟩
theorem e_X8_happen_6 : Dc cX8_happen 6 (.if_icmp .ge 4) 3 9 := ⟨by decide +kernel, rfl⟩
theorem e_X8_happen_9 : Dc cX8_happen 9 (.return_) 1 10 := ⟨by decide +kernel, rfl⟩
theorem e_X8_happen_10 : Dc cX8_happen 10 (.aload_n 0) 1 11 := ⟨by decide +kernel, rfl⟩
theorem e_X8_happen_11 : Dc cX8_happen 11 (.iload_n 1) 1 12 := ⟨by decide +kernel, rfl⟩
theorem e_X8_happen_12 : Dc cX8_happen 12 (.iload_n 2) 1 13 := ⟨by decide +kernel, rfl⟩
theorem e_X8_happen_13 : Dc cX8_happen 13 (.invokevirtual 154) 3 16 := ⟨by decide +kernel, rfl⟩
theorem e_X8_happen_16 : Dc cX8_happen 16 (.istore 7) 2 18 := ⟨by decide +kernel, rfl⟩
theorem e_X8_happen_18 : Dc cX8_happen 18 (.iconst 0) 1 19 := ⟨by decide +kernel, rfl⟩
theorem e_X8_happen_19 : Dc cX8_happen 19 (.istore 8) 2 21 := ⟨by decide +kernel, rfl⟩
theorem e_X8_happen_21 : Dc cX8_happen 21 (.iload 8) 2 23 := ⟨by decide +kernel, rfl⟩
theorem e_X8_happen_23 : Dc cX8_happen 23 (.aload_n 0) 1 24 := ⟨by decide +kernel, rfl⟩
theorem e_X8_happen_24 : Dc cX8_happen 24 (.invokevirtual 71) 3 27 := ⟨by decide +kernel, rfl⟩
theorem e_X8_happen_27 : Dc cX8_happen 27 (.if_icmp .ge 36) 3 30 := ⟨by decide +kernel, rfl⟩
theorem e_X8_happen_30 : Dc cX8_happen 30 (.iload 7) 2 32 := ⟨by decide +kernel, rfl⟩
theorem e_X8_happen_32 : Dc cX8_happen 32 (.iload 8) 2 34 := ⟨by decide +kernel, rfl⟩
theorem e_X8_happen_34 : Dc cX8_happen 34 (.ishr) 1 35 := ⟨by decide +kernel, rfl⟩
theorem e_X8_happen_35 : Dc cX8_happen 35 (.iconst 1) 1 36 := ⟨by decide +kernel, rfl⟩
theorem e_X8_happen_36 : Dc cX8_happen 36 (.iand) 1 37 := ⟨by decide +kernel, rfl⟩
theorem e_X8_happen_37 : Dc cX8_happen 37 (.iconst 1) 1 38 := ⟨by decide +kernel, rfl⟩
theorem e_X8_happen_38 : Dc cX8_happen 38 (.if_icmp .ne 19) 3 41 := ⟨by decide +kernel, rfl⟩
theorem e_X8_happen_41 : Dc cX8_happen 41 (.aload_n 0) 1 42 := ⟨by decide +kernel, rfl⟩
theorem e_X8_happen_42 : Dc cX8_happen 42 (.iload 8) 2 44 := ⟨by decide +kernel, rfl⟩
theorem e_X8_happen_44 : Dc cX8_happen 44 (.iload_n 1) 1 45 := ⟨by decide +kernel, rfl⟩
theorem e_X8_happen_45 : Dc cX8_happen 45 (.iload_n 3) 1 46 := ⟨by decide +kernel, rfl⟩
theorem e_X8_happen_46 : Dc cX8_happen 46 (.iload_n 1) 1 47 := ⟨by decide +kernel, rfl⟩
theorem e_X8_happen_47 : Dc cX8_happen 47 (.iload 5) 2 49 := ⟨by decide +kernel, rfl⟩
theorem e_X8_happen_49 : Dc cX8_happen 49 (.invokestatic 148) 3 52 := ⟨by decide +kernel, rfl⟩
theorem e_X8_happen_52 : Dc cX8_happen 52 (.iload 6) 2 54 := ⟨by decide +kernel, rfl⟩
theorem e_X8_happen_54 : Dc cX8_happen 54 (.invokevirtual 157) 3 57 := ⟨by decide +kernel, rfl⟩
theorem e_X8_happen_57 : Dc cX8_happen 57 (.iinc 8 1) 3 60 := ⟨by decide +kernel, rfl⟩
theorem e_X8_happen_60 : Dc cX8_happen 60 (.goto (-39)) 3 63 := ⟨by decide +kernel, rfl⟩
theorem e_X8_happen_63 : Dc cX8_happen 63 (.return_) 1 64 := ⟨by decide +kernel, rfl⟩
set_option maxHeartbeats 4000000 in
set_option maxRecDepth 20000 in
theorem R_X8_happen (hD : DD E) (x1 : Int32) (x2 : Int32) (x3 : Int32) (x4 : Int32) (x5 : Int32) (x6 : Int32) (s : Sg) : ∀ τ, (f_X8_happen x1 x2 x3 x4 x5 x6 s) = some τ → RV l E 3 M_X8_happen [.ref (ead E 70), .int x1, .int x2, .int x3, .int x4, .int x5, .int x6] s τ := by
  refine ofU hD (by decide +kernel) (Nat.le_of_ble_eq_true rfl) (fun X C => ?_)
  show MF l E X (fun q : Sg => QV E X q) (f_X8_happen x1 x2 x3 x4 x5 x6 s) s 0 [(0, .ref (ead E 70)), (1, .int x1), (2, .int x2), (3, .int x3), (4, .int x4), (5, .int x5), (6, .int x6)] []
  unfold f_X8_happen
  refine MF.iload C e_X8_happen_0 4 rfl ?_
  refine MF.iload_n C e_X8_happen_2 1 rfl rfl ?_
  refine MF.callSP (As := [.int x1]) C (R_X8_mustSee hD x1 s) m_X8_mustSee k_X8_145 (by decide) e_X8_happen_3 rfl rfl (Nat.le_of_ble_eq_true rfl) (fun v1 => ?_)
  refine MF.icmp_ge (tgt := 10) C e_X8_happen_6 (by decide) (fun _ => ?_) (fun _ => ?_)
  · refine MF.aload_n C e_X8_happen_10 0 rfl rfl ?_
    refine MF.iload_n C e_X8_happen_11 1 rfl rfl ?_
    refine MF.iload_n C e_X8_happen_12 2 rfl rfl ?_
    refine MF.callVP (As := [.int x1, .int x2]) C (R_X8_happensIn hD x1 x2 s) m_X8_happensIn k_X8_154 kO_70 rfl (by decide) e_X8_happen_13 rfl rfl (Nat.le_of_ble_eq_true rfl) (fun v2 => ?_)
    refine MF.istore (lv' := [(0, .ref (ead E 70)), (1, .int x1), (2, .int x2), (3, .int x3), (4, .int x4), (5, .int x5), (6, .int x6), (7, .int v2)]) C e_X8_happen_16 (by decide) rfl ?_
    refine MF.iconst (v := (nI 0)) C e_X8_happen_18 rfl ?_
    refine MF.istore (lv' := [(0, .ref (ead E 70)), (1, .int x1), (2, .int x2), (3, .int x3), (4, .int x4), (5, .int x5), (6, .int x6), (7, .int v2), (8, .int (nI 0))]) C e_X8_happen_19 (by decide) rfl ?_
    refine MF.sub [0, 1, 3, 5, 6, 7, 8] rfl ?_
    refine MF.loop2 (fun i3 s4 => s4) (fun i3 s4 => [(0, .ref (ead E 70)), (1, .int x1), (3, .int x3), (5, .int x5), (6, .int x6), (7, .int v2), (8, .int i3)]) (fun self5 hself5 i3 s4 => ?_) fu (nI 0) s
    unfold b_X8_happen_21
    refine MF.iload C e_X8_happen_21 6 rfl ?_
    refine MF.aload_n C e_X8_happen_23 0 rfl rfl ?_
    refine MF.callVP (As := []) C (R_X8_streets hD s4) m_X8_streets k_X8_71 kO_70 rfl (by decide) e_X8_happen_24 rfl rfl (Nat.le_of_ble_eq_true rfl) (fun v6 => ?_)
    refine MF.icmp_ge (tgt := 63) C e_X8_happen_27 (by decide) (fun _ => ?_) (fun _ => ?_)
    · exact MF.vret C e_X8_happen_63
    · refine MF.iload C e_X8_happen_30 5 rfl ?_
      refine MF.iload C e_X8_happen_32 6 rfl ?_
      refine MF.ishr C e_X8_happen_34 ?_
      refine MF.iconst (v := (nI 1)) C e_X8_happen_35 rfl ?_
      refine MF.iand C e_X8_happen_36 ?_
      refine MF.iconst (v := (nI 1)) C e_X8_happen_37 rfl ?_
      refine MF.join (fun j : Sg → Option Sg => ∀ (s7 : Sg), MF l E X (fun q : Sg => QV E X q) (j s7) s7 57 [(0, .ref (ead E 70)), (1, .int x1), (3, .int x3), (5, .int x5), (6, .int x6), (7, .int v2), (8, .int i3)] []) ?_ (fun j8 hj8 => ?_)
      · intro s7
        refine MF.iinc (v := (nI 1)) (lv' := [(0, .ref (ead E 70)), (1, .int x1), (3, .int x3), (5, .int x5), (6, .int x6), (7, .int v2), (8, .int (i3 + (nI 1)))]) C e_X8_happen_57 6 rfl rfl (by decide) rfl ?_
        refine MF.goto (tgt := 21) C e_X8_happen_60 (by decide) ?_
        exact hself5 (i3 + (nI 1)) s7
      refine MF.icmp_ne (tgt := 57) C e_X8_happen_38 (by decide) (fun _ => ?_) (fun _ => ?_)
      · exact hj8 s4
      · refine MF.aload_n C e_X8_happen_41 0 rfl rfl ?_
        refine MF.iload C e_X8_happen_42 6 rfl ?_
        refine MF.iload_n C e_X8_happen_44 1 rfl rfl ?_
        refine MF.iload_n C e_X8_happen_45 2 rfl rfl ?_
        refine MF.iload_n C e_X8_happen_46 1 rfl rfl ?_
        refine MF.iload C e_X8_happen_47 3 rfl ?_
        refine MF.callSP (As := [.int x1, .int x5]) C (R_X8_rankOf hD x1 x5 s4) m_X8_rankOf k_X8_148 (by decide) e_X8_happen_49 rfl rfl (Nat.le_of_ble_eq_true rfl) (fun v9 => ?_)
        refine MF.iload C e_X8_happen_52 4 rfl ?_
        refine MF.callVU (As := [.int i3, .int x1, .int x3, .int v9, .int x6]) C (R_X8_rename hD i3 x1 x3 v9 x6 s4) m_X8_rename k_X8_157 kO_70 rfl (by decide) e_X8_happen_54 rfl rfl (Nat.le_of_ble_eq_true rfl) (fun s10 => ?_)
        exact hj8 s10
  · exact MF.vret C e_X8_happen_9
theorem e_X8_run_0 : Dc cX8_run 0 (.iconst 0) 1 1 := ⟨by decide +kernel, rfl⟩
theorem e_X8_run_1 : Dc cX8_run 1 (.istore_n 2) 1 2 := ⟨by decide +kernel, rfl⟩
theorem e_X8_run_2 : Dc cX8_run 2 (.iload_n 2) 1 3 := ⟨by decide +kernel, rfl⟩
theorem e_X8_run_3 : Dc cX8_run 3 (.aload_n 0) 1 4 := ⟨by decide +kernel, rfl⟩
theorem e_X8_run_4 : Dc cX8_run 4 (.invokevirtual 71) 3 7 := ⟨by decide +kernel, rfl⟩
theorem e_X8_run_7 : Dc cX8_run 7 (.if_icmp .ge 49) 3 10 := ⟨by decide +kernel, rfl⟩
theorem e_X8_run_10 : Dc cX8_run 10 (.aload_n 0) 1 11 := ⟨by decide +kernel, rfl⟩
theorem e_X8_run_11 : Dc cX8_run 11 (.getfield 29) 3 14 := ⟨by decide +kernel, rfl⟩
theorem e_X8_run_14 : Dc cX8_run 14 (.iload_n 2) 1 15 := ⟨by decide +kernel, rfl⟩
theorem e_X8_run_15 : Dc cX8_run 15 (.aload_n 0) 1 16 := ⟨by decide +kernel, rfl⟩
theorem e_X8_run_16 : Dc cX8_run 16 (.iload_n 2) 1 17 := ⟨by decide +kernel, rfl⟩
theorem e_X8_run_17 : Dc cX8_run 17 (.iconst 3) 1 18 := ⟨by decide +kernel, rfl⟩
theorem e_X8_run_18 : Dc cX8_run 18 (.invokevirtual 134) 3 21 := ⟨by decide +kernel, rfl⟩
theorem e_X8_run_21 : Dc cX8_run 21 (.iastore) 1 22 := ⟨by decide +kernel, rfl⟩
theorem e_X8_run_22 : Dc cX8_run 22 (.aload_n 0) 1 23 := ⟨by decide +kernel, rfl⟩
theorem e_X8_run_23 : Dc cX8_run 23 (.getfield 32) 3 26 := ⟨by decide +kernel, rfl⟩
theorem e_X8_run_26 : Dc cX8_run 26 (.iload_n 2) 1 27 := ⟨by decide +kernel, rfl⟩
theorem e_X8_run_27 : Dc cX8_run 27 (.iconst 1) 1 28 := ⟨by decide +kernel, rfl⟩
theorem e_X8_run_28 : Dc cX8_run 28 (.iastore) 1 29 := ⟨by decide +kernel, rfl⟩
theorem e_X8_run_29 : Dc cX8_run 29 (.aload_n 0) 1 30 := ⟨by decide +kernel, rfl⟩
theorem e_X8_run_30 : Dc cX8_run 30 (.getfield 35) 3 33 := ⟨by decide +kernel, rfl⟩
theorem e_X8_run_33 : Dc cX8_run 33 (.iload_n 2) 1 34 := ⟨by decide +kernel, rfl⟩
theorem e_X8_run_34 : Dc cX8_run 34 (.iconst 0) 1 35 := ⟨by decide +kernel, rfl⟩
theorem e_X8_run_35 : Dc cX8_run 35 (.iastore) 1 36 := ⟨by decide +kernel, rfl⟩
theorem e_X8_run_36 : Dc cX8_run 36 (.aload_n 0) 1 37 := ⟨by decide +kernel, rfl⟩
theorem e_X8_run_37 : Dc cX8_run 37 (.getfield 38) 3 40 := ⟨by decide +kernel, rfl⟩
theorem e_X8_run_40 : Dc cX8_run 40 (.iload_n 2) 1 41 := ⟨by decide +kernel, rfl⟩
theorem e_X8_run_41 : Dc cX8_run 41 (.iconst 0) 1 42 := ⟨by decide +kernel, rfl⟩
theorem e_X8_run_42 : Dc cX8_run 42 (.iastore) 1 43 := ⟨by decide +kernel, rfl⟩
theorem e_X8_run_43 : Dc cX8_run 43 (.aload_n 0) 1 44 := ⟨by decide +kernel, rfl⟩
theorem e_X8_run_44 : Dc cX8_run 44 (.getfield 41) 3 47 := ⟨by decide +kernel, rfl⟩
theorem e_X8_run_47 : Dc cX8_run 47 (.iload_n 2) 1 48 := ⟨by decide +kernel, rfl⟩
theorem e_X8_run_48 : Dc cX8_run 48 (.iconst 0) 1 49 := ⟨by decide +kernel, rfl⟩
theorem e_X8_run_49 : Dc cX8_run 49 (.iastore) 1 50 := ⟨by decide +kernel, rfl⟩
theorem e_X8_run_50 : Dc cX8_run 50 (.iinc 2 1) 3 53 := ⟨by decide +kernel, rfl⟩
theorem e_X8_run_53 : Dc cX8_run 53 (.goto (-51)) 3 56 := ⟨by decide +kernel, rfl⟩
theorem e_X8_run_56 : Dc cX8_run 56 (.iconst 0) 1 57 := ⟨by decide +kernel, rfl⟩
theorem e_X8_run_57 : Dc cX8_run 57 (.istore_n 2) 1 58 := ⟨by decide +kernel, rfl⟩
theorem e_X8_run_58 : Dc cX8_run 58 (.iload_n 2) 1 59 := ⟨by decide +kernel, rfl⟩
theorem e_X8_run_59 : Dc cX8_run 59 (.bipush 24) 2 61 := ⟨by decide +kernel, rfl⟩
theorem e_X8_run_61 : Dc cX8_run 61 (.if_icmp .ge 177) 3 64 := ⟨by decide +kernel, rfl⟩
theorem e_X8_run_64 : Dc cX8_run 64 (.iconst 0) 1 65 := ⟨by decide +kernel, rfl⟩
theorem e_X8_run_65 : Dc cX8_run 65 (.istore_n 3) 1 66 := ⟨by decide +kernel, rfl⟩
theorem e_X8_run_66 : Dc cX8_run 66 (.iload_n 3) 1 67 := ⟨by decide +kernel, rfl⟩
theorem e_X8_run_67 : Dc cX8_run 67 (.aload_n 0) 1 68 := ⟨by decide +kernel, rfl⟩
theorem e_X8_run_68 : Dc cX8_run 68 (.invokevirtual 79) 3 71 := ⟨by decide +kernel, rfl⟩
theorem e_X8_run_71 : Dc cX8_run 71 (.if_icmp .ge 63) 3 74 := ⟨by decide +kernel, rfl⟩
theorem e_X8_run_74 : Dc cX8_run 74 (.iload_n 1) 1 75 := ⟨by decide +kernel, rfl⟩
theorem e_X8_run_75 : Dc cX8_run 75 (.iload_n 3) 1 76 := ⟨by decide +kernel, rfl⟩
theorem e_X8_run_76 : Dc cX8_run 76 (.ishr) 1 77 := ⟨by decide +kernel, rfl⟩
theorem e_X8_run_77 : Dc cX8_run 77 (.iconst 1) 1 78 := ⟨by decide +kernel, rfl⟩
theorem e_X8_run_78 : Dc cX8_run 78 (.iand) 1 79 := ⟨by decide +kernel, rfl⟩
theorem e_X8_run_79 : Dc cX8_run 79 (.iconst 1) 1 80 := ⟨by decide +kernel, rfl⟩
theorem e_X8_run_80 : Dc cX8_run 80 (.if_icmp .ne 48) 3 83 := ⟨by decide +kernel, rfl⟩
theorem e_X8_run_83 : Dc cX8_run 83 (.aload_n 0) 1 84 := ⟨by decide +kernel, rfl⟩
theorem e_X8_run_84 : Dc cX8_run 84 (.iload_n 3) 1 85 := ⟨by decide +kernel, rfl⟩
theorem e_X8_run_85 : Dc cX8_run 85 (.iconst 2) 1 86 := ⟨by decide +kernel, rfl⟩
theorem e_X8_run_86 : Dc cX8_run 86 (.invokevirtual 142) 3 89 := ⟨by decide +kernel, rfl⟩
theorem e_X8_run_89 : Dc cX8_run 89 (.iload_n 2) 1 90 := ⟨by decide +kernel, rfl⟩
theorem e_X8_run_90 : Dc cX8_run 90 (.if_icmp .ne 38) 3 93 := ⟨by decide +kernel, rfl⟩
theorem e_X8_run_93 : Dc cX8_run 93 (.aload_n 0) 1 94 := ⟨by decide +kernel, rfl⟩
theorem e_X8_run_94 : Dc cX8_run 94 (.aload_n 0) 1 95 := ⟨by decide +kernel, rfl⟩
theorem e_X8_run_95 : Dc cX8_run 95 (.iload_n 3) 1 96 := ⟨by decide +kernel, rfl⟩
theorem e_X8_run_96 : Dc cX8_run 96 (.iconst 0) 1 97 := ⟨by decide +kernel, rfl⟩
theorem e_X8_run_97 : Dc cX8_run 97 (.invokevirtual 142) 3 100 := ⟨by decide +kernel, rfl⟩
theorem e_X8_run_100 : Dc cX8_run 100 (.aload_n 0) 1 101 := ⟨by decide +kernel, rfl⟩
theorem e_X8_run_101 : Dc cX8_run 101 (.iload_n 3) 1 102 := ⟨by decide +kernel, rfl⟩
theorem e_X8_run_102 : Dc cX8_run 102 (.iconst 1) 1 103 := ⟨by decide +kernel, rfl⟩
theorem e_X8_run_103 : Dc cX8_run 103 (.invokevirtual 142) 3 106 := ⟨by decide +kernel, rfl⟩
theorem e_X8_run_106 : Dc cX8_run 106 (.iload_n 2) 1 107 := ⟨by decide +kernel, rfl⟩
theorem e_X8_run_107 : Dc cX8_run 107 (.aload_n 0) 1 108 := ⟨by decide +kernel, rfl⟩
theorem e_X8_run_108 : Dc cX8_run 108 (.iload_n 3) 1 109 := ⟨by decide +kernel, rfl⟩
theorem e_X8_run_109 : Dc cX8_run 109 (.iconst 3) 1 110 := ⟨by decide +kernel, rfl⟩
theorem e_X8_run_110 : Dc cX8_run 110 (.invokevirtual 142) 3 113 := ⟨by decide +kernel, rfl⟩
theorem e_X8_run_113 : Dc cX8_run 113 (.aload_n 0) 1 114 := ⟨by decide +kernel, rfl⟩
theorem e_X8_run_114 : Dc cX8_run 114 (.iload_n 3) 1 115 := ⟨by decide +kernel, rfl⟩
theorem e_X8_run_115 : Dc cX8_run 115 (.iconst 4) 1 116 := ⟨by decide +kernel, rfl⟩
theorem e_X8_run_116 : Dc cX8_run 116 (.invokevirtual 142) 3 119 := ⟨by decide +kernel, rfl⟩
theorem e_X8_run_119 : Dc cX8_run 119 (.aload_n 0) 1 120 := ⟨by decide +kernel, rfl⟩
theorem e_X8_run_120 : Dc cX8_run 120 (.iload_n 3) 1 121 := ⟨by decide +kernel, rfl⟩
theorem e_X8_run_121 : Dc cX8_run 121 (.iconst 5) 1 122 := ⟨by decide +kernel, rfl⟩
theorem e_X8_run_122 : Dc cX8_run 122 (.invokevirtual 142) 3 125 := ⟨by decide +kernel, rfl⟩
theorem e_X8_run_125 : Dc cX8_run 125 (.invokevirtual 161) 3 128 := ⟨by decide +kernel, rfl⟩
theorem e_X8_run_128 : Dc cX8_run 128 (.iinc 3 1) 3 131 := ⟨by decide +kernel, rfl⟩
theorem e_X8_run_131 : Dc cX8_run 131 (.goto (-65)) 3 134 := ⟨by decide +kernel, rfl⟩
theorem e_X8_run_134 : Dc cX8_run 134 (.iconst 0) 1 135 := ⟨by decide +kernel, rfl⟩
theorem e_X8_run_135 : Dc cX8_run 135 (.istore_n 3) 1 136 := ⟨by decide +kernel, rfl⟩
theorem e_X8_run_136 : Dc cX8_run 136 (.iload_n 3) 1 137 := ⟨by decide +kernel, rfl⟩
theorem e_X8_run_137 : Dc cX8_run 137 (.aload_n 0) 1 138 := ⟨by decide +kernel, rfl⟩
theorem e_X8_run_138 : Dc cX8_run 138 (.getfield 165) 3 141 := ⟨by decide +kernel, rfl⟩
theorem e_X8_run_141 : Dc cX8_run 141 (.if_icmp .ge 41) 3 144 := ⟨by decide +kernel, rfl⟩
theorem e_X8_run_144 : Dc cX8_run 144 (.aload_n 0) 1 145 := ⟨by decide +kernel, rfl⟩
theorem e_X8_run_145 : Dc cX8_run 145 (.getfield 47) 3 148 := ⟨by decide +kernel, rfl⟩
theorem e_X8_run_148 : Dc cX8_run 148 (.iload_n 3) 1 149 := ⟨by decide +kernel, rfl⟩
theorem e_X8_run_149 : Dc cX8_run 149 (.iaload) 1 150 := ⟨by decide +kernel, rfl⟩
theorem e_X8_run_150 : Dc cX8_run 150 (.iload_n 2) 1 151 := ⟨by decide +kernel, rfl⟩
theorem e_X8_run_151 : Dc cX8_run 151 (.if_icmp .ne 25) 3 154 := ⟨by decide +kernel, rfl⟩
theorem e_X8_run_154 : Dc cX8_run 154 (.aload_n 0) 1 155 := ⟨by decide +kernel, rfl⟩
theorem e_X8_run_155 : Dc cX8_run 155 (.iconst 3) 1 156 := ⟨by decide +kernel, rfl⟩
theorem e_X8_run_156 : Dc cX8_run 156 (.aload_n 0) 1 157 := ⟨by decide +kernel, rfl⟩
theorem e_X8_run_157 : Dc cX8_run 157 (.getfield 44) 3 160 := ⟨by decide +kernel, rfl⟩
theorem e_X8_run_160 : Dc cX8_run 160 (.iload_n 3) 1 161 := ⟨by decide +kernel, rfl⟩
theorem e_X8_run_161 : Dc cX8_run 161 (.iaload) 1 162 := ⟨by decide +kernel, rfl⟩
theorem e_X8_run_162 : Dc cX8_run 162 (.iload_n 2) 1 163 := ⟨by decide +kernel, rfl⟩
theorem e_X8_run_163 : Dc cX8_run 163 (.bipush 9) 2 165 := ⟨by decide +kernel, rfl⟩
theorem e_X8_run_165 : Dc cX8_run 165 (.bipush 9) 2 167 := ⟨by decide +kernel, rfl⟩
theorem e_X8_run_167 : Dc cX8_run 167 (.aload_n 0) 1 168 := ⟨by decide +kernel, rfl⟩
theorem e_X8_run_168 : Dc cX8_run 168 (.getfield 50) 3 171 := ⟨by decide +kernel, rfl⟩
theorem e_X8_run_171 : Dc cX8_run 171 (.iload_n 3) 1 172 := ⟨by decide +kernel, rfl⟩
theorem e_X8_run_172 : Dc cX8_run 172 (.iaload) 1 173 := ⟨by decide +kernel, rfl⟩
theorem e_X8_run_173 : Dc cX8_run 173 (.invokevirtual 161) 3 176 := ⟨by decide +kernel, rfl⟩
theorem e_X8_run_176 : Dc cX8_run 176 (.iinc 3 1) 3 179 := ⟨by decide +kernel, rfl⟩
theorem e_X8_run_179 : Dc cX8_run 179 (.goto (-43)) 3 182 := ⟨by decide +kernel, rfl⟩
theorem e_X8_run_182 : Dc cX8_run 182 (.iconst 0) 1 183 := ⟨by decide +kernel, rfl⟩
theorem e_X8_run_183 : Dc cX8_run 183 (.istore_n 3) 1 184 := ⟨by decide +kernel, rfl⟩
theorem e_X8_run_184 : Dc cX8_run 184 (.iload_n 3) 1 185 := ⟨by decide +kernel, rfl⟩
theorem e_X8_run_185 : Dc cX8_run 185 (.aload_n 0) 1 186 := ⟨by decide +kernel, rfl⟩
theorem e_X8_run_186 : Dc cX8_run 186 (.invokevirtual 71) 3 189 := ⟨by decide +kernel, rfl⟩
theorem e_X8_run_189 : Dc cX8_run 189 (.if_icmp .ge 43) 3 192 := ⟨by decide +kernel, rfl⟩
theorem e_X8_run_192 : Dc cX8_run 192 (.aload_n 0) 1 193 := ⟨by decide +kernel, rfl⟩
theorem e_X8_run_193 : Dc cX8_run 193 (.getfield 23) 3 196 := ⟨by decide +kernel, rfl⟩
theorem e_X8_run_196 : Dc cX8_run 196 (.bipush 7) 2 198 := ⟨by decide +kernel, rfl⟩
theorem e_X8_run_198 : Dc cX8_run 198 (.iload_n 2) 1 199 := ⟨by decide +kernel, rfl⟩
theorem e_X8_run_199 : Dc cX8_run 199 (.imul) 1 200 := ⟨by decide +kernel, rfl⟩
theorem e_X8_run_200 : Dc cX8_run 200 (.iload_n 3) 1 201 := ⟨by decide +kernel, rfl⟩
theorem e_X8_run_201 : Dc cX8_run 201 (.iadd) 1 202 := ⟨by decide +kernel, rfl⟩
theorem e_X8_run_202 : Dc cX8_run 202 (.aload_n 0) 1 203 := ⟨by decide +kernel, rfl⟩
theorem e_X8_run_203 : Dc cX8_run 203 (.getfield 29) 3 206 := ⟨by decide +kernel, rfl⟩
theorem e_X8_run_206 : Dc cX8_run 206 (.iload_n 3) 1 207 := ⟨by decide +kernel, rfl⟩
theorem e_X8_run_207 : Dc cX8_run 207 (.iaload) 1 208 := ⟨by decide +kernel, rfl⟩
theorem e_X8_run_208 : Dc cX8_run 208 (.iastore) 1 209 := ⟨by decide +kernel, rfl⟩
theorem e_X8_run_209 : Dc cX8_run 209 (.aload_n 0) 1 210 := ⟨by decide +kernel, rfl⟩
theorem e_X8_run_210 : Dc cX8_run 210 (.getfield 26) 3 213 := ⟨by decide +kernel, rfl⟩
theorem e_X8_run_213 : Dc cX8_run 213 (.bipush 7) 2 215 := ⟨by decide +kernel, rfl⟩
theorem e_X8_run_215 : Dc cX8_run 215 (.iload_n 2) 1 216 := ⟨by decide +kernel, rfl⟩
theorem e_X8_run_216 : Dc cX8_run 216 (.imul) 1 217 := ⟨by decide +kernel, rfl⟩
theorem e_X8_run_217 : Dc cX8_run 217 (.iload_n 3) 1 218 := ⟨by decide +kernel, rfl⟩
theorem e_X8_run_218 : Dc cX8_run 218 (.iadd) 1 219 := ⟨by decide +kernel, rfl⟩
theorem e_X8_run_219 : Dc cX8_run 219 (.aload_n 0) 1 220 := ⟨by decide +kernel, rfl⟩
theorem e_X8_run_220 : Dc cX8_run 220 (.getfield 32) 3 223 := ⟨by decide +kernel, rfl⟩
theorem e_X8_run_223 : Dc cX8_run 223 (.iload_n 3) 1 224 := ⟨by decide +kernel, rfl⟩
theorem e_X8_run_224 : Dc cX8_run 224 (.iaload) 1 225 := ⟨by decide +kernel, rfl⟩
theorem e_X8_run_225 : Dc cX8_run 225 (.iastore) 1 226 := ⟨by decide +kernel, rfl⟩
theorem e_X8_run_226 : Dc cX8_run 226 (.iinc 3 1) 3 229 := ⟨by decide +kernel, rfl⟩
theorem e_X8_run_229 : Dc cX8_run 229 (.goto (-45)) 3 232 := ⟨by decide +kernel, rfl⟩
theorem e_X8_run_232 : Dc cX8_run 232 (.iinc 2 1) 3 235 := ⟨by decide +kernel, rfl⟩
theorem e_X8_run_235 : Dc cX8_run 235 (.goto (-177)) 3 238 := ⟨by decide +kernel, rfl⟩
theorem e_X8_run_238 : Dc cX8_run 238 (.return_) 1 239 := ⟨by decide +kernel, rfl⟩
set_option maxHeartbeats 4000000 in
set_option maxRecDepth 20000 in
theorem R_X8_run (hD : DD E) (x1 : Int32) (s : Sg) : ∀ τ, (f_X8_run x1 s) = some τ → RV l E 4 M_X8_run [.ref (ead E 70), .int x1] s τ := by
  refine ofU hD (by decide +kernel) (Nat.le_of_ble_eq_true rfl) (fun X C => ?_)
  show MF l E X (fun q : Sg => QV E X q) (f_X8_run x1 s) s 0 [(0, .ref (ead E 70)), (1, .int x1)] []
  unfold f_X8_run
  refine MF.iconst (v := (nI 0)) C e_X8_run_0 rfl ?_
  refine MF.istore_n (lv' := [(0, .ref (ead E 70)), (1, .int x1), (2, .int (nI 0))]) C e_X8_run_1 (by decide) rfl ?_
  refine MF.join (fun j : Sg → Option Sg => ∀ (s1 : Sg), MF l E X (fun q : Sg => QV E X q) (j s1) s1 56 [(0, .ref (ead E 70)), (1, .int x1)] []) ?_ (fun j2 hj2 => ?_)
  · intro s1
    refine MF.iconst (v := (nI 0)) C e_X8_run_56 rfl ?_
    refine MF.istore_n (lv' := [(0, .ref (ead E 70)), (1, .int x1), (2, .int (nI 0))]) C e_X8_run_57 (by decide) rfl ?_
    refine MF.loop2 (fun i3 s4 => s4) (fun i3 s4 => [(0, .ref (ead E 70)), (1, .int x1), (2, .int i3)]) (fun self5 hself5 i3 s4 => ?_) fu (nI 0) s1
    unfold b_X8_run_58
    refine MF.iload_n C e_X8_run_58 2 rfl rfl ?_
    refine MF.bipush (v := (nI 24)) C e_X8_run_59 (by decide) ?_
    refine MF.icmp_ge (tgt := 238) C e_X8_run_61 (by decide) (fun _ => ?_) (fun _ => ?_)
    · exact MF.vret C e_X8_run_238
    · refine MF.iconst (v := (nI 0)) C e_X8_run_64 rfl ?_
      refine MF.istore_n (lv' := [(0, .ref (ead E 70)), (1, .int x1), (2, .int i3), (3, .int (nI 0))]) C e_X8_run_65 (by decide) rfl ?_
      refine MF.join (fun j : Sg → Option Sg => ∀ (s6 : Sg), MF l E X (fun q : Sg => QV E X q) (j s6) s6 134 [(0, .ref (ead E 70)), (1, .int x1), (2, .int i3)] []) ?_ (fun j7 hj7 => ?_)
      · intro s6
        refine MF.iconst (v := (nI 0)) C e_X8_run_134 rfl ?_
        refine MF.istore_n (lv' := [(0, .ref (ead E 70)), (1, .int x1), (2, .int i3), (3, .int (nI 0))]) C e_X8_run_135 (by decide) rfl ?_
        refine MF.join (fun j : Sg → Option Sg => ∀ (s8 : Sg), MF l E X (fun q : Sg => QV E X q) (j s8) s8 182 [(0, .ref (ead E 70)), (1, .int x1), (2, .int i3)] []) ?_ (fun j9 hj9 => ?_)
        · intro s8
          refine MF.iconst (v := (nI 0)) C e_X8_run_182 rfl ?_
          refine MF.istore_n (lv' := [(0, .ref (ead E 70)), (1, .int x1), (2, .int i3), (3, .int (nI 0))]) C e_X8_run_183 (by decide) rfl ?_
          refine MF.join (fun j : Sg → Option Sg => ∀ (s10 : Sg), MF l E X (fun q : Sg => QV E X q) (j s10) s10 232 [(0, .ref (ead E 70)), (1, .int x1), (2, .int i3)] []) ?_ (fun j11 hj11 => ?_)
          · intro s10
            refine MF.iinc (v := (nI 1)) (lv' := [(0, .ref (ead E 70)), (1, .int x1), (2, .int (i3 + (nI 1)))]) C e_X8_run_232 2 rfl rfl (by decide) rfl ?_
            refine MF.goto (tgt := 58) C e_X8_run_235 (by decide) ?_
            exact hself5 (i3 + (nI 1)) s10
          refine MF.loop2 (fun i12 s13 => s13) (fun i12 s13 => [(0, .ref (ead E 70)), (1, .int x1), (2, .int i3), (3, .int i12)]) (fun self14 hself14 i12 s13 => ?_) fu (nI 0) s8
          unfold b_X8_run_184
          refine MF.iload_n C e_X8_run_184 3 rfl rfl ?_
          refine MF.aload_n C e_X8_run_185 0 rfl rfl ?_
          refine MF.callVP (As := []) C (R_X8_streets hD s13) m_X8_streets k_X8_71 kO_70 rfl (by decide) e_X8_run_186 rfl rfl (Nat.le_of_ble_eq_true rfl) (fun v15 => ?_)
          refine MF.icmp_ge (tgt := 232) C e_X8_run_189 (by decide) (fun _ => ?_) (fun _ => ?_)
          · refine MF.sub [0, 1, 2] rfl ?_
            exact hj11 s13
          · refine MF.aload_n C e_X8_run_192 0 rfl rfl ?_
            refine MF.getR (j := 75) C cf_X8 l_X8_23 e_X8_run_193 kF_70_4 ?_
            refine MF.bipush (v := (nI 7)) C e_X8_run_196 (by decide) ?_
            refine MF.iload_n C e_X8_run_198 2 rfl rfl ?_
            refine MF.imul C e_X8_run_199 ?_
            refine MF.iload_n C e_X8_run_200 3 rfl rfl ?_
            refine MF.iadd C e_X8_run_201 ?_
            refine MF.aload_n C e_X8_run_202 0 rfl rfl ?_
            refine MF.getR (j := 77) C cf_X8 l_X8_29 e_X8_run_203 kF_70_6 ?_
            refine MF.iload_n C e_X8_run_206 3 rfl rfl ?_
            refine MF.iald C e_X8_run_207 kA_77 (fun v16 => ?_)
            refine MF.iast C e_X8_run_208 kA_75 (fun s17 => ?_)
            refine MF.aload_n C e_X8_run_209 0 rfl rfl ?_
            refine MF.getR (j := 76) C cf_X8 l_X8_26 e_X8_run_210 kF_70_5 ?_
            refine MF.bipush (v := (nI 7)) C e_X8_run_213 (by decide) ?_
            refine MF.iload_n C e_X8_run_215 2 rfl rfl ?_
            refine MF.imul C e_X8_run_216 ?_
            refine MF.iload_n C e_X8_run_217 3 rfl rfl ?_
            refine MF.iadd C e_X8_run_218 ?_
            refine MF.aload_n C e_X8_run_219 0 rfl rfl ?_
            refine MF.getR (j := 78) C cf_X8 l_X8_32 e_X8_run_220 kF_70_7 ?_
            refine MF.iload_n C e_X8_run_223 3 rfl rfl ?_
            refine MF.iald C e_X8_run_224 kA_78 (fun v18 => ?_)
            refine MF.iast C e_X8_run_225 kA_76 (fun s19 => ?_)
            refine MF.iinc (v := (nI 1)) (lv' := [(0, .ref (ead E 70)), (1, .int x1), (2, .int i3), (3, .int (i12 + (nI 1)))]) C e_X8_run_226 3 rfl rfl (by decide) rfl ?_
            refine MF.goto (tgt := 184) C e_X8_run_229 (by decide) ?_
            exact hself14 (i12 + (nI 1)) s19
        refine MF.loop2 (fun i20 s21 => s21) (fun i20 s21 => [(0, .ref (ead E 70)), (1, .int x1), (2, .int i3), (3, .int i20)]) (fun self22 hself22 i20 s21 => ?_) fu (nI 0) s6
        unfold b_X8_run_136
        refine MF.iload_n C e_X8_run_136 3 rfl rfl ?_
        refine MF.aload_n C e_X8_run_137 0 rfl rfl ?_
        refine MF.get C cf_X8 l_X8_165 e_X8_run_138 kF_70_11 ?_
        refine MF.icmp_ge (tgt := 182) C e_X8_run_141 (by decide) (fun _ => ?_) (fun _ => ?_)
        · refine MF.sub [0, 1, 2] rfl ?_
          exact hj9 s21
        · refine MF.aload_n C e_X8_run_144 0 rfl rfl ?_
          refine MF.getR (j := 83) C cf_X8 l_X8_47 e_X8_run_145 kF_70_13 ?_
          refine MF.iload_n C e_X8_run_148 3 rfl rfl ?_
          refine MF.iald C e_X8_run_149 kA_83 (fun v23 => ?_)
          refine MF.iload_n C e_X8_run_150 2 rfl rfl ?_
          refine MF.join (fun j : Sg → Option Sg => ∀ (s24 : Sg), MF l E X (fun q : Sg => QV E X q) (j s24) s24 176 [(0, .ref (ead E 70)), (1, .int x1), (2, .int i3), (3, .int i20)] []) ?_ (fun j25 hj25 => ?_)
          · intro s24
            refine MF.iinc (v := (nI 1)) (lv' := [(0, .ref (ead E 70)), (1, .int x1), (2, .int i3), (3, .int (i20 + (nI 1)))]) C e_X8_run_176 3 rfl rfl (by decide) rfl ?_
            refine MF.goto (tgt := 136) C e_X8_run_179 (by decide) ?_
            exact hself22 (i20 + (nI 1)) s24
          refine MF.icmp_ne (tgt := 176) C e_X8_run_151 (by decide) (fun _ => ?_) (fun _ => ?_)
          · exact hj25 s21
          · refine MF.aload_n C e_X8_run_154 0 rfl rfl ?_
            refine MF.iconst (v := (nI 3)) C e_X8_run_155 rfl ?_
            refine MF.aload_n C e_X8_run_156 0 rfl rfl ?_
            refine MF.getR (j := 82) C cf_X8 l_X8_44 e_X8_run_157 kF_70_12 ?_
            refine MF.iload_n C e_X8_run_160 3 rfl rfl ?_
            refine MF.iald C e_X8_run_161 kA_82 (fun v26 => ?_)
            refine MF.iload_n C e_X8_run_162 2 rfl rfl ?_
            refine MF.bipush (v := (nI 9)) C e_X8_run_163 (by decide) ?_
            refine MF.bipush (v := (nI 9)) C e_X8_run_165 (by decide) ?_
            refine MF.aload_n C e_X8_run_167 0 rfl rfl ?_
            refine MF.getR (j := 84) C cf_X8 l_X8_50 e_X8_run_168 kF_70_14 ?_
            refine MF.iload_n C e_X8_run_171 3 rfl rfl ?_
            refine MF.iald C e_X8_run_172 kA_84 (fun v27 => ?_)
            refine MF.callVU (As := [.int (nI 3), .int v26, .int i3, .int (nI 9), .int (nI 9), .int v27]) C (R_X8_happen hD (nI 3) v26 i3 (nI 9) (nI 9) v27 s21) m_X8_happen k_X8_161 kO_70 rfl (by decide) e_X8_run_173 rfl rfl (Nat.le_of_ble_eq_true rfl) (fun s28 => ?_)
            exact hj25 s28
      refine MF.loop2 (fun i29 s30 => s30) (fun i29 s30 => [(0, .ref (ead E 70)), (1, .int x1), (2, .int i3), (3, .int i29)]) (fun self31 hself31 i29 s30 => ?_) fu (nI 0) s4
      unfold b_X8_run_66
      refine MF.iload_n C e_X8_run_66 3 rfl rfl ?_
      refine MF.aload_n C e_X8_run_67 0 rfl rfl ?_
      refine MF.callVP (As := []) C (R_X8_events hD s30) m_X8_events k_X8_79 kO_70 rfl (by decide) e_X8_run_68 rfl rfl (Nat.le_of_ble_eq_true rfl) (fun v32 => ?_)
      refine MF.icmp_ge (tgt := 134) C e_X8_run_71 (by decide) (fun _ => ?_) (fun _ => ?_)
      · refine MF.sub [0, 1, 2] rfl ?_
        exact hj7 s30
      · refine MF.iload_n C e_X8_run_74 1 rfl rfl ?_
        refine MF.iload_n C e_X8_run_75 3 rfl rfl ?_
        refine MF.ishr C e_X8_run_76 ?_
        refine MF.iconst (v := (nI 1)) C e_X8_run_77 rfl ?_
        refine MF.iand C e_X8_run_78 ?_
        refine MF.iconst (v := (nI 1)) C e_X8_run_79 rfl ?_
        refine MF.join (fun j : Sg → Option Sg => ∀ (s33 : Sg), MF l E X (fun q : Sg => QV E X q) (j s33) s33 128 [(0, .ref (ead E 70)), (1, .int x1), (2, .int i3), (3, .int i29)] []) ?_ (fun j34 hj34 => ?_)
        · intro s33
          refine MF.iinc (v := (nI 1)) (lv' := [(0, .ref (ead E 70)), (1, .int x1), (2, .int i3), (3, .int (i29 + (nI 1)))]) C e_X8_run_128 3 rfl rfl (by decide) rfl ?_
          refine MF.goto (tgt := 66) C e_X8_run_131 (by decide) ?_
          exact hself31 (i29 + (nI 1)) s33
        refine MF.icmp_ne (tgt := 128) C e_X8_run_80 (by decide) (fun _ => ?_) (fun _ => ?_)
        · exact hj34 s30
        · refine MF.aload_n C e_X8_run_83 0 rfl rfl ?_
          refine MF.iload_n C e_X8_run_84 3 rfl rfl ?_
          refine MF.iconst (v := (nI 2)) C e_X8_run_85 rfl ?_
          refine MF.callVP (As := [.int i29, .int (nI 2)]) C (R_X8_told hD i29 (nI 2) s30) m_X8_told k_X8_142 kO_70 rfl (by decide) e_X8_run_86 rfl rfl (Nat.le_of_ble_eq_true rfl) (fun v35 => ?_)
          refine MF.iload_n C e_X8_run_89 2 rfl rfl ?_
          refine MF.icmp_ne (tgt := 128) C e_X8_run_90 (by decide) (fun _ => ?_) (fun _ => ?_)
          · exact hj34 s30
          · refine MF.aload_n C e_X8_run_93 0 rfl rfl ?_
            refine MF.aload_n C e_X8_run_94 0 rfl rfl ?_
            refine MF.iload_n C e_X8_run_95 3 rfl rfl ?_
            refine MF.iconst (v := (nI 0)) C e_X8_run_96 rfl ?_
            refine MF.callVP (As := [.int i29, .int (nI 0)]) C (R_X8_told hD i29 (nI 0) s30) m_X8_told k_X8_142 kO_70 rfl (by decide) e_X8_run_97 rfl rfl (Nat.le_of_ble_eq_true rfl) (fun v36 => ?_)
            refine MF.aload_n C e_X8_run_100 0 rfl rfl ?_
            refine MF.iload_n C e_X8_run_101 3 rfl rfl ?_
            refine MF.iconst (v := (nI 1)) C e_X8_run_102 rfl ?_
            refine MF.callVP (As := [.int i29, .int (nI 1)]) C (R_X8_told hD i29 (nI 1) s30) m_X8_told k_X8_142 kO_70 rfl (by decide) e_X8_run_103 rfl rfl (Nat.le_of_ble_eq_true rfl) (fun v37 => ?_)
            refine MF.iload_n C e_X8_run_106 2 rfl rfl ?_
            refine MF.aload_n C e_X8_run_107 0 rfl rfl ?_
            refine MF.iload_n C e_X8_run_108 3 rfl rfl ?_
            refine MF.iconst (v := (nI 3)) C e_X8_run_109 rfl ?_
            refine MF.callVP (As := [.int i29, .int (nI 3)]) C (R_X8_told hD i29 (nI 3) s30) m_X8_told k_X8_142 kO_70 rfl (by decide) e_X8_run_110 rfl rfl (Nat.le_of_ble_eq_true rfl) (fun v38 => ?_)
            refine MF.aload_n C e_X8_run_113 0 rfl rfl ?_
            refine MF.iload_n C e_X8_run_114 3 rfl rfl ?_
            refine MF.iconst (v := (nI 4)) C e_X8_run_115 rfl ?_
            refine MF.callVP (As := [.int i29, .int (nI 4)]) C (R_X8_told hD i29 (nI 4) s30) m_X8_told k_X8_142 kO_70 rfl (by decide) e_X8_run_116 rfl rfl (Nat.le_of_ble_eq_true rfl) (fun v39 => ?_)
            refine MF.aload_n C e_X8_run_119 0 rfl rfl ?_
            refine MF.iload_n C e_X8_run_120 3 rfl rfl ?_
            refine MF.iconst (v := (nI 5)) C e_X8_run_121 rfl ?_
            refine MF.callVP (As := [.int i29, .int (nI 5)]) C (R_X8_told hD i29 (nI 5) s30) m_X8_told k_X8_142 kO_70 rfl (by decide) e_X8_run_122 rfl rfl (Nat.le_of_ble_eq_true rfl) (fun v40 => ?_)
            refine MF.callVU (As := [.int v36, .int v37, .int i3, .int v38, .int v39, .int v40]) C (R_X8_happen hD v36 v37 i3 v38 v39 v40 s30) m_X8_happen k_X8_161 kO_70 rfl (by decide) e_X8_run_125 rfl rfl (Nat.le_of_ble_eq_true rfl) (fun s41 => ?_)
            exact hj34 s41
  refine MF.loop2 (fun i42 s43 => s43) (fun i42 s43 => [(0, .ref (ead E 70)), (1, .int x1), (2, .int i42)]) (fun self44 hself44 i42 s43 => ?_) fu (nI 0) s
  unfold b_X8_run_2
  refine MF.iload_n C e_X8_run_2 2 rfl rfl ?_
  refine MF.aload_n C e_X8_run_3 0 rfl rfl ?_
  refine MF.callVP (As := []) C (R_X8_streets hD s43) m_X8_streets k_X8_71 kO_70 rfl (by decide) e_X8_run_4 rfl rfl (Nat.le_of_ble_eq_true rfl) (fun v45 => ?_)
  refine MF.icmp_ge (tgt := 56) C e_X8_run_7 (by decide) (fun _ => ?_) (fun _ => ?_)
  · refine MF.sub [0, 1] rfl ?_
    exact hj2 s43
  · refine MF.aload_n C e_X8_run_10 0 rfl rfl ?_
    refine MF.getR (j := 77) C cf_X8 l_X8_29 e_X8_run_11 kF_70_6 ?_
    refine MF.iload_n C e_X8_run_14 2 rfl rfl ?_
    refine MF.aload_n C e_X8_run_15 0 rfl rfl ?_
    refine MF.iload_n C e_X8_run_16 2 rfl rfl ?_
    refine MF.iconst (v := (nI 3)) C e_X8_run_17 rfl ?_
    refine MF.callVP (As := [.int i42, .int (nI 3)]) C (R_X8_has hD i42 (nI 3) s43) m_X8_has k_X8_134 kO_70 rfl (by decide) e_X8_run_18 rfl rfl (Nat.le_of_ble_eq_true rfl) (fun v46 => ?_)
    refine MF.iast C e_X8_run_21 kA_77 (fun s47 => ?_)
    refine MF.aload_n C e_X8_run_22 0 rfl rfl ?_
    refine MF.getR (j := 78) C cf_X8 l_X8_32 e_X8_run_23 kF_70_7 ?_
    refine MF.iload_n C e_X8_run_26 2 rfl rfl ?_
    refine MF.iconst (v := (nI 1)) C e_X8_run_27 rfl ?_
    refine MF.iast C e_X8_run_28 kA_78 (fun s48 => ?_)
    refine MF.aload_n C e_X8_run_29 0 rfl rfl ?_
    refine MF.getR (j := 79) C cf_X8 l_X8_35 e_X8_run_30 kF_70_8 ?_
    refine MF.iload_n C e_X8_run_33 2 rfl rfl ?_
    refine MF.iconst (v := (nI 0)) C e_X8_run_34 rfl ?_
    refine MF.iast C e_X8_run_35 kA_79 (fun s49 => ?_)
    refine MF.aload_n C e_X8_run_36 0 rfl rfl ?_
    refine MF.getR (j := 80) C cf_X8 l_X8_38 e_X8_run_37 kF_70_9 ?_
    refine MF.iload_n C e_X8_run_40 2 rfl rfl ?_
    refine MF.iconst (v := (nI 0)) C e_X8_run_41 rfl ?_
    refine MF.iast C e_X8_run_42 kA_80 (fun s50 => ?_)
    refine MF.aload_n C e_X8_run_43 0 rfl rfl ?_
    refine MF.getR (j := 81) C cf_X8 l_X8_41 e_X8_run_44 kF_70_10 ?_
    refine MF.iload_n C e_X8_run_47 2 rfl rfl ?_
    refine MF.iconst (v := (nI 0)) C e_X8_run_48 rfl ?_
    refine MF.iast C e_X8_run_49 kA_81 (fun s51 => ?_)
    refine MF.iinc (v := (nI 1)) (lv' := [(0, .ref (ead E 70)), (1, .int x1), (2, .int (i42 + (nI 1)))]) C e_X8_run_50 2 rfl rfl (by decide) rfl ?_
    refine MF.goto (tgt := 2) C e_X8_run_53 (by decide) ?_
    exact hself44 (i42 + (nI 1)) s51
theorem e_X8_allEvents_0 : Dc cX8_allEvents 0 (.iconst 1) 1 1 := ⟨by decide +kernel, rfl⟩
theorem e_X8_allEvents_1 : Dc cX8_allEvents 1 (.aload_n 0) 1 2 := ⟨by decide +kernel, rfl⟩
theorem e_X8_allEvents_2 : Dc cX8_allEvents 2 (.invokevirtual 79) 3 5 := ⟨by decide +kernel, rfl⟩
theorem e_X8_allEvents_5 : Dc cX8_allEvents 5 (.ishl) 1 6 := ⟨by decide +kernel, rfl⟩
theorem e_X8_allEvents_6 : Dc cX8_allEvents 6 (.iconst 1) 1 7 := ⟨by decide +kernel, rfl⟩
theorem e_X8_allEvents_7 : Dc cX8_allEvents 7 (.isub) 1 8 := ⟨by decide +kernel, rfl⟩
theorem e_X8_allEvents_8 : Dc cX8_allEvents 8 (.ireturn) 1 9 := ⟨by decide +kernel, rfl⟩
set_option maxHeartbeats 4000000 in
set_option maxRecDepth 20000 in
theorem R_X8_allEvents (hD : DD E) (s : Sg) : ∀ v, (f_X8_allEvents s) = some v → RI l E 1 M_X8_allEvents [.ref (ead E 70)] s v s := by
  refine ofP hD (by decide +kernel) (Nat.le_of_ble_eq_true rfl) (fun X C => ?_)
  show MF l E X (fun q : Int32 => QI E X q s) (f_X8_allEvents s) s 0 [(0, .ref (ead E 70))] []
  unfold f_X8_allEvents
  refine MF.iconst (v := (nI 1)) C e_X8_allEvents_0 rfl ?_
  refine MF.aload_n C e_X8_allEvents_1 0 rfl rfl ?_
  refine MF.callVP (As := []) C (R_X8_events hD s) m_X8_events k_X8_79 kO_70 rfl (by decide) e_X8_allEvents_2 rfl rfl (Nat.le_of_ble_eq_true rfl) (fun v1 => ?_)
  refine MF.ishl C e_X8_allEvents_5 ?_
  refine MF.iconst (v := (nI 1)) C e_X8_allEvents_6 rfl ?_
  refine MF.isub C e_X8_allEvents_7 ?_
  exact MF.iretp C e_X8_allEvents_8
theorem e_X8_runAll_0 : Dc cX8_runAll 0 (.aload_n 0) 1 1 := ⟨by decide +kernel, rfl⟩
theorem e_X8_runAll_1 : Dc cX8_runAll 1 (.iconst 0) 1 2 := ⟨by decide +kernel, rfl⟩
theorem e_X8_runAll_2 : Dc cX8_runAll 2 (.putfield 165) 3 5 := ⟨by decide +kernel, rfl⟩
theorem e_X8_runAll_5 : Dc cX8_runAll 5 (.aload_n 0) 1 6 := ⟨by decide +kernel, rfl⟩
theorem e_X8_runAll_6 : Dc cX8_runAll 6 (.aload_n 0) 1 7 := ⟨by decide +kernel, rfl⟩
theorem e_X8_runAll_7 : Dc cX8_runAll 7 (.invokevirtual 169) 3 10 := ⟨by decide +kernel, rfl⟩
theorem e_X8_runAll_10 : Dc cX8_runAll 10 (.invokevirtual 172) 3 13 := ⟨by decide +kernel, rfl⟩
theorem e_X8_runAll_13 : Dc cX8_runAll 13 (.return_) 1 14 := ⟨by decide +kernel, rfl⟩
set_option maxHeartbeats 4000000 in
set_option maxRecDepth 20000 in
theorem R_X8_runAll (hD : DD E) (s : Sg) : ∀ τ, (f_X8_runAll s) = some τ → RV l E 5 M_X8_runAll [.ref (ead E 70)] s τ := by
  refine ofU hD (by decide +kernel) (Nat.le_of_ble_eq_true rfl) (fun X C => ?_)
  show MF l E X (fun q : Sg => QV E X q) (f_X8_runAll s) s 0 [(0, .ref (ead E 70))] []
  unfold f_X8_runAll
  refine MF.aload_n C e_X8_runAll_0 0 rfl rfl ?_
  refine MF.iconst (v := (nI 0)) C e_X8_runAll_1 rfl ?_
  refine MF.put C cf_X8 l_X8_165 p_X8_11 e_X8_runAll_2 kF_70_11 rfl ?_
  refine MF.nmS (fun s1 => ?_)
  refine MF.aload_n C e_X8_runAll_5 0 rfl rfl ?_
  refine MF.aload_n C e_X8_runAll_6 0 rfl rfl ?_
  refine MF.callVP (As := []) C (R_X8_allEvents hD s1) m_X8_allEvents k_X8_169 kO_70 rfl (by decide) e_X8_runAll_7 rfl rfl (Nat.le_of_ble_eq_true rfl) (fun v2 => ?_)
  refine MF.callVU (As := [.int v2]) C (R_X8_run hD v2 s1) m_X8_run k_X8_172 kO_70 rfl (by decide) e_X8_runAll_10 rfl rfl (Nat.le_of_ble_eq_true rfl) (fun s3 => ?_)
  exact MF.vret C e_X8_runAll_13
theorem e_X8_nameIn_0 : Dc cX8_nameIn 0 (.bipush 100) 2 2 := ⟨by decide +kernel, rfl⟩
theorem e_X8_nameIn_2 : Dc cX8_nameIn 2 (.aload_n 0) 1 3 := ⟨by decide +kernel, rfl⟩
theorem e_X8_nameIn_3 : Dc cX8_nameIn 3 (.getfield 26) 3 6 := ⟨by decide +kernel, rfl⟩
theorem e_X8_nameIn_6 : Dc cX8_nameIn 6 (.bipush 7) 2 8 := ⟨by decide +kernel, rfl⟩
theorem e_X8_nameIn_8 : Dc cX8_nameIn 8 (.iload_n 2) 1 9 := ⟨by decide +kernel, rfl⟩
theorem e_X8_nameIn_9 : Dc cX8_nameIn 9 (.imul) 1 10 := ⟨by decide +kernel, rfl⟩
theorem e_X8_nameIn_10 : Dc cX8_nameIn 10 (.iload_n 1) 1 11 := ⟨by decide +kernel, rfl⟩
theorem e_X8_nameIn_11 : Dc cX8_nameIn 11 (.iadd) 1 12 := ⟨by decide +kernel, rfl⟩
theorem e_X8_nameIn_12 : Dc cX8_nameIn 12 (.iaload) 1 13 := ⟨by decide +kernel, rfl⟩
theorem e_X8_nameIn_13 : Dc cX8_nameIn 13 (.imul) 1 14 := ⟨by decide +kernel, rfl⟩
theorem e_X8_nameIn_14 : Dc cX8_nameIn 14 (.aload_n 0) 1 15 := ⟨by decide +kernel, rfl⟩
theorem e_X8_nameIn_15 : Dc cX8_nameIn 15 (.getfield 23) 3 18 := ⟨by decide +kernel, rfl⟩
theorem e_X8_nameIn_18 : Dc cX8_nameIn 18 (.bipush 7) 2 20 := ⟨by decide +kernel, rfl⟩
theorem e_X8_nameIn_20 : Dc cX8_nameIn 20 (.iload_n 2) 1 21 := ⟨by decide +kernel, rfl⟩
theorem e_X8_nameIn_21 : Dc cX8_nameIn 21 (.imul) 1 22 := ⟨by decide +kernel, rfl⟩
theorem e_X8_nameIn_22 : Dc cX8_nameIn 22 (.iload_n 1) 1 23 := ⟨by decide +kernel, rfl⟩
theorem e_X8_nameIn_23 : Dc cX8_nameIn 23 (.iadd) 1 24 := ⟨by decide +kernel, rfl⟩
theorem e_X8_nameIn_24 : Dc cX8_nameIn 24 (.iaload) 1 25 := ⟨by decide +kernel, rfl⟩
theorem e_X8_nameIn_25 : Dc cX8_nameIn 25 (.iadd) 1 26 := ⟨by decide +kernel, rfl⟩
theorem e_X8_nameIn_26 : Dc cX8_nameIn 26 (.ireturn) 1 27 := ⟨by decide +kernel, rfl⟩
set_option maxHeartbeats 4000000 in
set_option maxRecDepth 20000 in
theorem R_X8_nameIn (hD : DD E) (x1 : Int32) (x2 : Int32) (s : Sg) : ∀ v, (f_X8_nameIn x1 x2 s) = some v → RI l E 0 M_X8_nameIn [.ref (ead E 70), .int x1, .int x2] s v s := by
  refine ofP hD (by decide +kernel) (Nat.le_of_ble_eq_true rfl) (fun X C => ?_)
  show MF l E X (fun q : Int32 => QI E X q s) (f_X8_nameIn x1 x2 s) s 0 [(0, .ref (ead E 70)), (1, .int x1), (2, .int x2)] []
  unfold f_X8_nameIn
  refine MF.bipush (v := (nI 100)) C e_X8_nameIn_0 (by decide) ?_
  refine MF.aload_n C e_X8_nameIn_2 0 rfl rfl ?_
  refine MF.getR (j := 76) C cf_X8 l_X8_26 e_X8_nameIn_3 kF_70_5 ?_
  refine MF.bipush (v := (nI 7)) C e_X8_nameIn_6 (by decide) ?_
  refine MF.iload_n C e_X8_nameIn_8 2 rfl rfl ?_
  refine MF.imul C e_X8_nameIn_9 ?_
  refine MF.iload_n C e_X8_nameIn_10 1 rfl rfl ?_
  refine MF.iadd C e_X8_nameIn_11 ?_
  refine MF.iald C e_X8_nameIn_12 kA_76 (fun v1 => ?_)
  refine MF.imul C e_X8_nameIn_13 ?_
  refine MF.aload_n C e_X8_nameIn_14 0 rfl rfl ?_
  refine MF.getR (j := 75) C cf_X8 l_X8_23 e_X8_nameIn_15 kF_70_4 ?_
  refine MF.bipush (v := (nI 7)) C e_X8_nameIn_18 (by decide) ?_
  refine MF.iload_n C e_X8_nameIn_20 2 rfl rfl ?_
  refine MF.imul C e_X8_nameIn_21 ?_
  refine MF.iload_n C e_X8_nameIn_22 1 rfl rfl ?_
  refine MF.iadd C e_X8_nameIn_23 ?_
  refine MF.iald C e_X8_nameIn_24 kA_75 (fun v2 => ?_)
  refine MF.iadd C e_X8_nameIn_25 ?_
  exact MF.iretp C e_X8_nameIn_26
theorem e_X8_name_0 : Dc cX8_name 0 (.aload_n 0) 1 1 := ⟨by decide +kernel, rfl⟩
theorem e_X8_name_1 : Dc cX8_name 1 (.iload_n 1) 1 2 := ⟨by decide +kernel, rfl⟩
theorem e_X8_name_2 : Dc cX8_name 2 (.invokevirtual 113) 3 5 := ⟨by decide +kernel, rfl⟩
theorem e_X8_name_5 : Dc cX8_name 5 (.ifCond .eq 10) 3 8 := ⟨by decide +kernel, rfl⟩
theorem e_X8_name_8 : Dc cX8_name 8 (.iload_n 2) 1 9 := ⟨by decide +kernel, rfl⟩
theorem e_X8_name_9 : Dc cX8_name 9 (.invokestatic 116) 3 12 := ⟨by decide +kernel, rfl⟩
theorem e_X8_name_12 : Dc cX8_name 12 (.ifCond .ne 10) 3 15 := ⟨by decide +kernel, rfl⟩
theorem e_X8_name_15 : Dc cX8_name 15 (.aload_n 0) 1 16 := ⟨by decide +kernel, rfl⟩
theorem e_X8_name_16 : Dc cX8_name 16 (.bipush (-2)) 2 18 := ⟨by decide +kernel, rfl⟩
theorem e_X8_name_18 : Dc cX8_name 18 (.invokevirtual 88) 3 21 := ⟨by decide +kernel, rfl⟩
theorem e_X8_name_21 : Dc cX8_name 21 (.ireturn) 1 22 := ⟨by decide +kernel, rfl⟩
theorem e_X8_name_22 : Dc cX8_name 22 (.aload_n 0) 1 23 := ⟨by decide +kernel, rfl⟩
theorem e_X8_name_23 : Dc cX8_name 23 (.invokevirtual 176) 3 26 := ⟨by decide +kernel, rfl⟩
theorem e_X8_name_26 : Dc cX8_name 26 (.aload_n 0) 1 27 := ⟨by decide +kernel, rfl⟩
theorem e_X8_name_27 : Dc cX8_name 27 (.iload_n 1) 1 28 := ⟨by decide +kernel, rfl⟩
theorem e_X8_name_28 : Dc cX8_name 28 (.iload_n 2) 1 29 := ⟨by decide +kernel, rfl⟩
theorem e_X8_name_29 : Dc cX8_name 29 (.invokevirtual 179) 3 32 := ⟨by decide +kernel, rfl⟩
theorem e_X8_name_32 : Dc cX8_name 32 (.ireturn) 1 33 := ⟨by decide +kernel, rfl⟩
set_option maxHeartbeats 4000000 in
set_option maxRecDepth 20000 in
theorem R_X8_name (hD : DD E) (x1 : Int32) (x2 : Int32) (s : Sg) : ∀ v τ, (f_X8_name x1 x2 s) = some (v, τ) → RI l E 6 M_X8_name [.ref (ead E 70), .int x1, .int x2] s v τ := by
  refine ofI hD (by decide +kernel) (Nat.le_of_ble_eq_true rfl) (fun X C => ?_)
  show MF l E X (fun q : Int32 × Sg => QI E X q.1 q.2) (f_X8_name x1 x2 s) s 0 [(0, .ref (ead E 70)), (1, .int x1), (2, .int x2)] []
  unfold f_X8_name
  refine MF.aload_n C e_X8_name_0 0 rfl rfl ?_
  refine MF.iload_n C e_X8_name_1 1 rfl rfl ?_
  refine MF.callVP (As := [.int x1]) C (R_X8_isStreet hD x1 s) m_X8_isStreet k_X8_113 kO_70 rfl (by decide) e_X8_name_2 rfl rfl (Nat.le_of_ble_eq_true rfl) (fun v1 => ?_)
  refine MF.if_eq (tgt := 15) C e_X8_name_5 (by decide) (fun _ => ?_) (fun _ => ?_)
  · refine MF.aload_n C e_X8_name_15 0 rfl rfl ?_
    refine MF.bipush (v := (-2 : Int32)) C e_X8_name_16 (by decide) ?_
    refine MF.callVI (As := [.int (-2 : Int32)]) C (R_X8_bad hD (-2 : Int32) s) m_X8_bad k_X8_88 kO_70 rfl (by decide) e_X8_name_18 rfl rfl (Nat.le_of_ble_eq_true rfl) (fun v2 s3 => ?_)
    exact MF.iret C e_X8_name_21
  · refine MF.iload_n C e_X8_name_8 2 rfl rfl ?_
    refine MF.callSP (As := [.int x2]) C (R_X8_isHour hD x2 s) m_X8_isHour k_X8_116 (by decide) e_X8_name_9 rfl rfl (Nat.le_of_ble_eq_true rfl) (fun v4 => ?_)
    refine MF.if_ne (tgt := 22) C e_X8_name_12 (by decide) (fun _ => ?_) (fun _ => ?_)
    · refine MF.aload_n C e_X8_name_22 0 rfl rfl ?_
      refine MF.callVU (As := []) C (R_X8_runAll hD s) m_X8_runAll k_X8_176 kO_70 rfl (by decide) e_X8_name_23 rfl rfl (Nat.le_of_ble_eq_true rfl) (fun s5 => ?_)
      refine MF.aload_n C e_X8_name_26 0 rfl rfl ?_
      refine MF.iload_n C e_X8_name_27 1 rfl rfl ?_
      refine MF.iload_n C e_X8_name_28 2 rfl rfl ?_
      refine MF.callVP (As := [.int x1, .int x2]) C (R_X8_nameIn hD x1 x2 s5) m_X8_nameIn k_X8_179 kO_70 rfl (by decide) e_X8_name_29 rfl rfl (Nat.le_of_ble_eq_true rfl) (fun v6 => ?_)
      exact MF.iret C e_X8_name_32
    · refine MF.aload_n C e_X8_name_15 0 rfl rfl ?_
      refine MF.bipush (v := (-2 : Int32)) C e_X8_name_16 (by decide) ?_
      refine MF.callVI (As := [.int (-2 : Int32)]) C (R_X8_bad hD (-2 : Int32) s) m_X8_bad k_X8_88 kO_70 rfl (by decide) e_X8_name_18 rfl rfl (Nat.le_of_ble_eq_true rfl) (fun v7 s8 => ?_)
      exact MF.iret C e_X8_name_21
theorem e_X8_changes_0 : Dc cX8_changes 0 (.aload_n 0) 1 1 := ⟨by decide +kernel, rfl⟩
theorem e_X8_changes_1 : Dc cX8_changes 1 (.iload_n 1) 1 2 := ⟨by decide +kernel, rfl⟩
theorem e_X8_changes_2 : Dc cX8_changes 2 (.invokevirtual 113) 3 5 := ⟨by decide +kernel, rfl⟩
theorem e_X8_changes_5 : Dc cX8_changes 5 (.ifCond .ne 10) 3 8 := ⟨by decide +kernel, rfl⟩
theorem e_X8_changes_8 : Dc cX8_changes 8 (.aload_n 0) 1 9 := ⟨by decide +kernel, rfl⟩
theorem e_X8_changes_9 : Dc cX8_changes 9 (.bipush (-2)) 2 11 := ⟨by decide +kernel, rfl⟩
theorem e_X8_changes_11 : Dc cX8_changes 11 (.invokevirtual 88) 3 14 := ⟨by decide +kernel, rfl⟩
theorem e_X8_changes_14 : Dc cX8_changes 14 (.ireturn) 1 15 := ⟨by decide +kernel, rfl⟩
theorem e_X8_changes_15 : Dc cX8_changes 15 (.aload_n 0) 1 16 := ⟨by decide +kernel, rfl⟩
theorem e_X8_changes_16 : Dc cX8_changes 16 (.invokevirtual 176) 3 19 := ⟨by decide +kernel, rfl⟩
theorem e_X8_changes_19 : Dc cX8_changes 19 (.aload_n 0) 1 20 := ⟨by decide +kernel, rfl⟩
theorem e_X8_changes_20 : Dc cX8_changes 20 (.getfield 41) 3 23 := ⟨by decide +kernel, rfl⟩
theorem e_X8_changes_23 : Dc cX8_changes 23 (.iload_n 1) 1 24 := ⟨by decide +kernel, rfl⟩
theorem e_X8_changes_24 : Dc cX8_changes 24 (.iaload) 1 25 := ⟨by decide +kernel, rfl⟩
theorem e_X8_changes_25 : Dc cX8_changes 25 (.ireturn) 1 26 := ⟨by decide +kernel, rfl⟩
set_option maxHeartbeats 4000000 in
set_option maxRecDepth 20000 in
theorem R_X8_changes (hD : DD E) (x1 : Int32) (s : Sg) : ∀ v τ, (f_X8_changes x1 s) = some (v, τ) → RI l E 6 M_X8_changes [.ref (ead E 70), .int x1] s v τ := by
  refine ofI hD (by decide +kernel) (Nat.le_of_ble_eq_true rfl) (fun X C => ?_)
  show MF l E X (fun q : Int32 × Sg => QI E X q.1 q.2) (f_X8_changes x1 s) s 0 [(0, .ref (ead E 70)), (1, .int x1)] []
  unfold f_X8_changes
  refine MF.aload_n C e_X8_changes_0 0 rfl rfl ?_
  refine MF.iload_n C e_X8_changes_1 1 rfl rfl ?_
  refine MF.callVP (As := [.int x1]) C (R_X8_isStreet hD x1 s) m_X8_isStreet k_X8_113 kO_70 rfl (by decide) e_X8_changes_2 rfl rfl (Nat.le_of_ble_eq_true rfl) (fun v1 => ?_)
  refine MF.if_ne (tgt := 15) C e_X8_changes_5 (by decide) (fun _ => ?_) (fun _ => ?_)
  · refine MF.aload_n C e_X8_changes_15 0 rfl rfl ?_
    refine MF.callVU (As := []) C (R_X8_runAll hD s) m_X8_runAll k_X8_176 kO_70 rfl (by decide) e_X8_changes_16 rfl rfl (Nat.le_of_ble_eq_true rfl) (fun s2 => ?_)
    refine MF.aload_n C e_X8_changes_19 0 rfl rfl ?_
    refine MF.getR (j := 81) C cf_X8 l_X8_41 e_X8_changes_20 kF_70_10 ?_
    refine MF.iload_n C e_X8_changes_23 1 rfl rfl ?_
    refine MF.iald C e_X8_changes_24 kA_81 (fun v3 => ?_)
    exact MF.iret C e_X8_changes_25
  · refine MF.aload_n C e_X8_changes_8 0 rfl rfl ?_
    refine MF.bipush (v := (-2 : Int32)) C e_X8_changes_9 (by decide) ?_
    refine MF.callVI (As := [.int (-2 : Int32)]) C (R_X8_bad hD (-2 : Int32) s) m_X8_bad k_X8_88 kO_70 rfl (by decide) e_X8_changes_11 rfl rfl (Nat.le_of_ble_eq_true rfl) (fun v4 s5 => ?_)
    exact MF.iret C e_X8_changes_14
theorem e_X8_whichIn_0 : Dc cX8_whichIn 0 (.iconst 0) 1 1 := ⟨by decide +kernel, rfl⟩
theorem e_X8_whichIn_1 : Dc cX8_whichIn 1 (.istore_n 3) 1 2 := ⟨by decide +kernel, rfl⟩
theorem e_X8_whichIn_2 : Dc cX8_whichIn 2 (.iconst 0) 1 3 := ⟨by decide +kernel, rfl⟩
theorem e_X8_whichIn_3 : Dc cX8_whichIn 3 (.istore 4) 2 5 := ⟨by decide +kernel, rfl⟩
theorem e_X8_whichIn_5 : Dc cX8_whichIn 5 (.iload 4) 2 7 := ⟨by decide +kernel, rfl⟩
theorem e_X8_whichIn_7 : Dc cX8_whichIn 7 (.aload_n 0) 1 8 := ⟨by decide +kernel, rfl⟩
theorem e_X8_whichIn_8 : Dc cX8_whichIn 8 (.invokevirtual 71) 3 11 := ⟨by decide +kernel, rfl⟩
theorem e_X8_whichIn_11 : Dc cX8_whichIn 11 (.if_icmp .ge 31) 3 14 := ⟨by decide +kernel, rfl⟩
theorem e_X8_whichIn_14 : Dc cX8_whichIn 14 (.iload_n 3) 1 15 := ⟨by decide +kernel, rfl⟩
theorem e_X8_whichIn_15 : Dc cX8_whichIn 15 (.aload_n 0) 1 16 := ⟨by decide +kernel, rfl⟩
theorem e_X8_whichIn_16 : Dc cX8_whichIn 16 (.iload 4) 2 18 := ⟨by decide +kernel, rfl⟩
theorem e_X8_whichIn_18 : Dc cX8_whichIn 18 (.iload_n 2) 1 19 := ⟨by decide +kernel, rfl⟩
theorem e_X8_whichIn_19 : Dc cX8_whichIn 19 (.invokevirtual 179) 3 22 := ⟨by decide +kernel, rfl⟩
theorem e_X8_whichIn_22 : Dc cX8_whichIn 22 (.iload_n 1) 1 23 := ⟨by decide +kernel, rfl⟩
theorem e_X8_whichIn_23 : Dc cX8_whichIn 23 (.if_icmp .ne 10) 3 26 := ⟨by decide +kernel, rfl⟩
theorem e_X8_whichIn_26 : Dc cX8_whichIn 26 (.iconst 1) 1 27 := ⟨by decide +kernel, rfl⟩
theorem e_X8_whichIn_27 : Dc cX8_whichIn 27 (.iload 4) 2 29 := ⟨by decide +kernel, rfl⟩
theorem e_X8_whichIn_29 : Dc cX8_whichIn 29 (.ishl) 1 30 := ⟨by decide +kernel, rfl⟩
theorem e_X8_whichIn_30 : Dc cX8_whichIn 30 (.goto 4) 3 33 := ⟨by decide +kernel, rfl⟩
theorem e_X8_whichIn_33 : Dc cX8_whichIn 33 (.iconst 0) 1 34 := ⟨by decide +kernel, rfl⟩
theorem e_X8_whichIn_34 : Dc cX8_whichIn 34 (.ior) 1 35 := ⟨by decide +kernel, rfl⟩
theorem e_X8_whichIn_35 : Dc cX8_whichIn 35 (.istore_n 3) 1 36 := ⟨by decide +kernel, rfl⟩
theorem e_X8_whichIn_36 : Dc cX8_whichIn 36 (.iinc 4 1) 3 39 := ⟨by decide +kernel, rfl⟩
theorem e_X8_whichIn_39 : Dc cX8_whichIn 39 (.goto (-34)) 3 42 := ⟨by decide +kernel, rfl⟩
theorem e_X8_whichIn_42 : Dc cX8_whichIn 42 (.iload_n 3) 1 43 := ⟨by decide +kernel, rfl⟩
theorem e_X8_whichIn_43 : Dc cX8_whichIn 43 (.ireturn) 1 44 := ⟨by decide +kernel, rfl⟩
set_option maxHeartbeats 4000000 in
set_option maxRecDepth 20000 in
theorem R_X8_whichIn (hD : DD E) (x1 : Int32) (x2 : Int32) (s : Sg) : ∀ v, (f_X8_whichIn x1 x2 s) = some v → RI l E 1 M_X8_whichIn [.ref (ead E 70), .int x1, .int x2] s v s := by
  refine ofP hD (by decide +kernel) (Nat.le_of_ble_eq_true rfl) (fun X C => ?_)
  show MF l E X (fun q : Int32 => QI E X q s) (f_X8_whichIn x1 x2 s) s 0 [(0, .ref (ead E 70)), (1, .int x1), (2, .int x2)] []
  unfold f_X8_whichIn
  refine MF.iconst (v := (nI 0)) C e_X8_whichIn_0 rfl ?_
  refine MF.istore_n (lv' := [(0, .ref (ead E 70)), (1, .int x1), (2, .int x2), (3, .int (nI 0))]) C e_X8_whichIn_1 (by decide) rfl ?_
  refine MF.iconst (v := (nI 0)) C e_X8_whichIn_2 rfl ?_
  refine MF.istore (lv' := [(0, .ref (ead E 70)), (1, .int x1), (2, .int x2), (3, .int (nI 0)), (4, .int (nI 0))]) C e_X8_whichIn_3 (by decide) rfl ?_
  refine MF.loop2 (fun i1 i2 => s) (fun i1 i2 => [(0, .ref (ead E 70)), (1, .int x1), (2, .int x2), (3, .int i1), (4, .int i2)]) (fun self3 hself3 i1 i2 => ?_) fu (nI 0) (nI 0)
  unfold b_X8_whichIn_5
  refine MF.iload C e_X8_whichIn_5 4 rfl ?_
  refine MF.aload_n C e_X8_whichIn_7 0 rfl rfl ?_
  refine MF.callVP (As := []) C (R_X8_streets hD s) m_X8_streets k_X8_71 kO_70 rfl (by decide) e_X8_whichIn_8 rfl rfl (Nat.le_of_ble_eq_true rfl) (fun v4 => ?_)
  refine MF.icmp_ge (tgt := 42) C e_X8_whichIn_11 (by decide) (fun _ => ?_) (fun _ => ?_)
  · refine MF.iload_n C e_X8_whichIn_42 3 rfl rfl ?_
    exact MF.iretp C e_X8_whichIn_43
  · refine MF.iload_n C e_X8_whichIn_14 3 rfl rfl ?_
    refine MF.aload_n C e_X8_whichIn_15 0 rfl rfl ?_
    refine MF.iload C e_X8_whichIn_16 4 rfl ?_
    refine MF.iload_n C e_X8_whichIn_18 2 rfl rfl ?_
    refine MF.callVP (As := [.int i2, .int x2]) C (R_X8_nameIn hD i2 x2 s) m_X8_nameIn k_X8_179 kO_70 rfl (by decide) e_X8_whichIn_19 rfl rfl (Nat.le_of_ble_eq_true rfl) (fun v5 => ?_)
    refine MF.iload_n C e_X8_whichIn_22 1 rfl rfl ?_
    refine MF.join (fun j : Int32 → Option Int32 => ∀ (a6 : Int32), MF l E X (fun q : Int32 => QI E X q s) (j a6) s 34 [(0, .ref (ead E 70)), (1, .int x1), (2, .int x2), (4, .int i2)] [.int a6, .int i1]) ?_ (fun j7 hj7 => ?_)
    · intro a6
      refine MF.ior C e_X8_whichIn_34 ?_
      refine MF.nmI (fun v8 => ?_)
      refine MF.istore_n (lv' := [(0, .ref (ead E 70)), (1, .int x1), (2, .int x2), (3, .int v8), (4, .int i2)]) C e_X8_whichIn_35 (by decide) rfl ?_
      refine MF.iinc (v := (nI 1)) (lv' := [(0, .ref (ead E 70)), (1, .int x1), (2, .int x2), (3, .int v8), (4, .int (i2 + (nI 1)))]) C e_X8_whichIn_36 4 rfl rfl (by decide) rfl ?_
      refine MF.goto (tgt := 5) C e_X8_whichIn_39 (by decide) ?_
      exact hself3 v8 (i2 + (nI 1))
    refine MF.icmp_ne (tgt := 33) C e_X8_whichIn_23 (by decide) (fun _ => ?_) (fun _ => ?_)
    · refine MF.iconst (v := (nI 0)) C e_X8_whichIn_33 rfl ?_
      refine MF.sub [0, 1, 2, 4] rfl ?_
      exact hj7 (nI 0)
    · refine MF.iconst (v := (nI 1)) C e_X8_whichIn_26 rfl ?_
      refine MF.iload C e_X8_whichIn_27 4 rfl ?_
      refine MF.ishl C e_X8_whichIn_29 ?_
      refine MF.goto (tgt := 34) C e_X8_whichIn_30 (by decide) ?_
      refine MF.sub [0, 1, 2, 4] rfl ?_
      exact hj7 ((nI 1) <<< (i2 &&& 31))
end WK
