section WK
variable {l : Launch} {E : EX}
theorem e_X8_goAlong_0 : Dc cX8_goAlong 0 (.iconst 0) 1 1 := ⟨by decide +kernel, rfl⟩
theorem e_X8_goAlong_1 : Dc cX8_goAlong 1 (.istore 4) 2 3 := ⟨by decide +kernel, rfl⟩
theorem e_X8_goAlong_3 : Dc cX8_goAlong 3 (.iconst 0) 1 4 := ⟨by decide +kernel, rfl⟩
theorem e_X8_goAlong_4 : Dc cX8_goAlong 4 (.istore 5) 2 6 := ⟨by decide +kernel, rfl⟩
theorem e_X8_goAlong_6 : Dc cX8_goAlong 6 (.iload 5) 2 8 := ⟨by decide +kernel, rfl⟩
theorem e_X8_goAlong_8 : Dc cX8_goAlong 8 (.sipush 128) 3 11 := ⟨by decide +kernel, rfl⟩
theorem e_X8_goAlong_11 : Dc cX8_goAlong 11 (.if_icmp .ge 100) 3 14 := ⟨by decide +kernel, rfl⟩
theorem e_X8_goAlong_14 : Dc cX8_goAlong 14 (.aload_n 0) 1 15 := ⟨by decide +kernel, rfl⟩
theorem e_X8_goAlong_15 : Dc cX8_goAlong 15 (.getfield 59) 3 18 := ⟨by decide +kernel, rfl⟩
theorem e_X8_goAlong_18 : Dc cX8_goAlong 18 (.sipush 128) 3 21 := ⟨by decide +kernel, rfl⟩
theorem e_X8_goAlong_21 : Dc cX8_goAlong 21 (.iload_n 2) 1 22 := ⟨by decide +kernel, rfl⟩
theorem e_X8_goAlong_22 : Dc cX8_goAlong 22 (.imul) 1 23 := ⟨by decide +kernel, rfl⟩
theorem e_X8_goAlong_23 : Dc cX8_goAlong 23 (.iload 5) 2 25 := ⟨by decide +kernel, rfl⟩
theorem e_X8_goAlong_25 : Dc cX8_goAlong 25 (.iadd) 1 26 := ⟨by decide +kernel, rfl⟩
theorem e_X8_goAlong_26 : Dc cX8_goAlong 26 (.iaload) 1 27 := ⟨by decide +kernel, rfl⟩
theorem e_X8_goAlong_27 : Dc cX8_goAlong 27 (.aload_n 0) 1 28 := ⟨by decide +kernel, rfl⟩
theorem e_X8_goAlong_28 : Dc cX8_goAlong 28 (.iload_n 1) 1 29 := ⟨by decide +kernel, rfl⟩
theorem e_X8_goAlong_29 : Dc cX8_goAlong 29 (.iconst 2) 1 30 := ⟨by decide +kernel, rfl⟩
theorem e_X8_goAlong_30 : Dc cX8_goAlong 30 (.invokevirtual 134) 3 33 := ⟨by decide +kernel, rfl⟩
theorem e_X8_goAlong_33 : Dc cX8_goAlong 33 (.iadd) 1 34 := ⟨by decide +kernel, rfl⟩
theorem e_X8_goAlong_34 : Dc cX8_goAlong 34 (.istore 6) 2 36 := ⟨by decide +kernel, rfl⟩
theorem e_X8_goAlong_36 : Dc cX8_goAlong 36 (.sipush 128) 3 39 := ⟨by decide +kernel, rfl⟩
theorem e_X8_goAlong_39 : Dc cX8_goAlong 39 (.iload_n 3) 1 40 := ⟨by decide +kernel, rfl⟩
theorem e_X8_goAlong_40 : Dc cX8_goAlong 40 (.imul) 1 41 := ⟨by decide +kernel, rfl⟩
theorem e_X8_goAlong_41 : Dc cX8_goAlong 41 (.iload 5) 2 43 := ⟨by decide +kernel, rfl⟩
theorem e_X8_goAlong_43 : Dc cX8_goAlong 43 (.iconst 1) 1 44 := ⟨by decide +kernel, rfl⟩
theorem e_X8_goAlong_44 : Dc cX8_goAlong 44 (.iload_n 1) 1 45 := ⟨by decide +kernel, rfl⟩
theorem e_X8_goAlong_45 : Dc cX8_goAlong 45 (.ishl) 1 46 := ⟨by decide +kernel, rfl⟩
theorem e_X8_goAlong_46 : Dc cX8_goAlong 46 (.ior) 1 47 := ⟨by decide +kernel, rfl⟩
theorem e_X8_goAlong_47 : Dc cX8_goAlong 47 (.iadd) 1 48 := ⟨by decide +kernel, rfl⟩
theorem e_X8_goAlong_48 : Dc cX8_goAlong 48 (.istore 7) 2 50 := ⟨by decide +kernel, rfl⟩
theorem e_X8_goAlong_50 : Dc cX8_goAlong 50 (.iload 4) 2 52 := ⟨by decide +kernel, rfl⟩
theorem e_X8_goAlong_52 : Dc cX8_goAlong 52 (.ifCond .ne 15) 3 55 := ⟨by decide +kernel, rfl⟩
theorem e_X8_goAlong_55 : Dc cX8_goAlong 55 (.iload 6) 2 57 := ⟨by decide +kernel, rfl⟩
theorem e_X8_goAlong_57 : Dc cX8_goAlong 57 (.aload_n 0) 1 58 := ⟨by decide +kernel, rfl⟩
theorem e_X8_goAlong_58 : Dc cX8_goAlong 58 (.getfield 59) 3 61 := ⟨by decide +kernel, rfl⟩
theorem e_X8_goAlong_61 : Dc cX8_goAlong 61 (.iload 7) 2 63 := ⟨by decide +kernel, rfl⟩
theorem e_X8_goAlong_63 : Dc cX8_goAlong 63 (.iaload) 1 64 := ⟨by decide +kernel, rfl⟩
theorem e_X8_goAlong_64 : Dc cX8_goAlong 64 (.if_icmp .ge 7) 3 67 := ⟨by decide +kernel, rfl⟩
theorem e_X8_goAlong_67 : Dc cX8_goAlong 67 (.iconst 1) 1 68 := ⟨by decide +kernel, rfl⟩
theorem e_X8_goAlong_68 : Dc cX8_goAlong 68 (.goto 4) 3 71 := ⟨by decide +kernel, rfl⟩
theorem e_X8_goAlong_71 : Dc cX8_goAlong 71 (.iconst 0) 1 72 := ⟨by decide +kernel, rfl⟩
theorem e_X8_goAlong_72 : Dc cX8_goAlong 72 (.istore 4) 2 74 := ⟨by decide +kernel, rfl⟩
theorem e_X8_goAlong_74 : Dc cX8_goAlong 74 (.aload_n 0) 1 75 := ⟨by decide +kernel, rfl⟩
theorem e_X8_goAlong_75 : Dc cX8_goAlong 75 (.getfield 59) 3 78 := ⟨by decide +kernel, rfl⟩
theorem e_X8_goAlong_78 : Dc cX8_goAlong 78 (.iload 7) 2 80 := ⟨by decide +kernel, rfl⟩
theorem e_X8_goAlong_80 : Dc cX8_goAlong 80 (.iload 6) 2 82 := ⟨by decide +kernel, rfl⟩
theorem e_X8_goAlong_82 : Dc cX8_goAlong 82 (.aload_n 0) 1 83 := ⟨by decide +kernel, rfl⟩
theorem e_X8_goAlong_83 : Dc cX8_goAlong 83 (.getfield 59) 3 86 := ⟨by decide +kernel, rfl⟩
theorem e_X8_goAlong_86 : Dc cX8_goAlong 86 (.iload 7) 2 88 := ⟨by decide +kernel, rfl⟩
theorem e_X8_goAlong_88 : Dc cX8_goAlong 88 (.iaload) 1 89 := ⟨by decide +kernel, rfl⟩
theorem e_X8_goAlong_89 : Dc cX8_goAlong 89 (.if_icmp .ge 8) 3 92 := ⟨by decide +kernel, rfl⟩
theorem e_X8_goAlong_92 : Dc cX8_goAlong 92 (.iload 6) 2 94 := ⟨by decide +kernel, rfl⟩
theorem e_X8_goAlong_94 : Dc cX8_goAlong 94 (.goto 10) 3 97 := ⟨by decide +kernel, rfl⟩
theorem e_X8_goAlong_97 : Dc cX8_goAlong 97 (.aload_n 0) 1 98 := ⟨by decide +kernel, rfl⟩
theorem e_X8_goAlong_98 : Dc cX8_goAlong 98 (.getfield 59) 3 101 := ⟨by decide +kernel, rfl⟩
theorem e_X8_goAlong_101 : Dc cX8_goAlong 101 (.iload 7) 2 103 := ⟨by decide +kernel, rfl⟩
theorem e_X8_goAlong_103 : Dc cX8_goAlong 103 (.iaload) 1 104 := ⟨by decide +kernel, rfl⟩
theorem e_X8_goAlong_104 : Dc cX8_goAlong 104 (.iastore) 1 105 := ⟨by decide +kernel, rfl⟩
theorem e_X8_goAlong_105 : Dc cX8_goAlong 105 (.iinc 5 1) 3 108 := ⟨by decide +kernel, rfl⟩
theorem e_X8_goAlong_108 : Dc cX8_goAlong 108 (.goto (-102)) 3 111 := ⟨by decide +kernel, rfl⟩
theorem e_X8_goAlong_111 : Dc cX8_goAlong 111 (.iload 4) 2 113 := ⟨by decide +kernel, rfl⟩
theorem e_X8_goAlong_113 : Dc cX8_goAlong 113 (.ireturn) 1 114 := ⟨by decide +kernel, rfl⟩
set_option maxHeartbeats 4000000 in
set_option maxRecDepth 20000 in
theorem R_X8_goAlong (hD : DD E) (x1 : Int32) (x2 : Int32) (x3 : Int32) (s : Sg) : ∀ v τ, (f_X8_goAlong x1 x2 x3 s) = some (v, τ) → RI l E 1 M_X8_goAlong [.ref (ead E 70), .int x1, .int x2, .int x3] s v τ := by
  refine ofI hD (by decide +kernel) (Nat.le_of_ble_eq_true rfl) (fun X C => ?_)
  show MF l E X (fun q : Int32 × Sg => QI E X q.1 q.2) (f_X8_goAlong x1 x2 x3 s) s 0 [(0, .ref (ead E 70)), (1, .int x1), (2, .int x2), (3, .int x3)] []
  unfold f_X8_goAlong
  refine MF.iconst (v := (nI 0)) C e_X8_goAlong_0 rfl ?_
  refine MF.istore (lv' := [(0, .ref (ead E 70)), (1, .int x1), (2, .int x2), (3, .int x3), (4, .int (nI 0))]) C e_X8_goAlong_1 (by decide) rfl ?_
  refine MF.iconst (v := (nI 0)) C e_X8_goAlong_3 rfl ?_
  refine MF.istore (lv' := [(0, .ref (ead E 70)), (1, .int x1), (2, .int x2), (3, .int x3), (4, .int (nI 0)), (5, .int (nI 0))]) C e_X8_goAlong_4 (by decide) rfl ?_
  refine MF.loop3 (fun i1 i2 s3 => s3) (fun i1 i2 s3 => [(0, .ref (ead E 70)), (1, .int x1), (2, .int x2), (3, .int x3), (4, .int i1), (5, .int i2)]) (fun self4 hself4 i1 i2 s3 => ?_) fu (nI 0) (nI 0) s
  unfold b_X8_goAlong_6
  refine MF.iload C e_X8_goAlong_6 5 rfl ?_
  refine MF.sipush (v := (nI 128)) C e_X8_goAlong_8 (by decide) ?_
  refine MF.icmp_ge (tgt := 111) C e_X8_goAlong_11 (by decide) (fun _ => ?_) (fun _ => ?_)
  · refine MF.iload C e_X8_goAlong_111 4 rfl ?_
    exact MF.nret C e_X8_goAlong_113 rfl
  · refine MF.aload_n C e_X8_goAlong_14 0 rfl rfl ?_
    refine MF.getR (j := 87) C cf_X8 l_X8_59 e_X8_goAlong_15 kF_70_20 ?_
    refine MF.sipush (v := (nI 128)) C e_X8_goAlong_18 (by decide) ?_
    refine MF.iload_n C e_X8_goAlong_21 2 rfl rfl ?_
    refine MF.imul C e_X8_goAlong_22 ?_
    refine MF.iload C e_X8_goAlong_23 5 rfl ?_
    refine MF.iadd C e_X8_goAlong_25 ?_
    refine MF.iald C e_X8_goAlong_26 kA_87 (fun v5 => ?_)
    refine MF.aload_n C e_X8_goAlong_27 0 rfl rfl ?_
    refine MF.iload_n C e_X8_goAlong_28 1 rfl rfl ?_
    refine MF.iconst (v := (nI 2)) C e_X8_goAlong_29 rfl ?_
    refine MF.callVP (As := [.int x1, .int (nI 2)]) C (R_X8_has hD x1 (nI 2) s3) m_X8_has k_X8_134 kO_70 rfl (by decide) e_X8_goAlong_30 rfl rfl (Nat.le_of_ble_eq_true rfl) (fun v6 => ?_)
    refine MF.iadd C e_X8_goAlong_33 ?_
    refine MF.nmI (fun v7 => ?_)
    refine MF.istore (lv' := [(0, .ref (ead E 70)), (1, .int x1), (2, .int x2), (3, .int x3), (4, .int i1), (5, .int i2), (6, .int v7)]) C e_X8_goAlong_34 (by decide) rfl ?_
    refine MF.sipush (v := (nI 128)) C e_X8_goAlong_36 (by decide) ?_
    refine MF.iload_n C e_X8_goAlong_39 3 rfl rfl ?_
    refine MF.imul C e_X8_goAlong_40 ?_
    refine MF.iload C e_X8_goAlong_41 5 rfl ?_
    refine MF.iconst (v := (nI 1)) C e_X8_goAlong_43 rfl ?_
    refine MF.iload_n C e_X8_goAlong_44 1 rfl rfl ?_
    refine MF.ishl C e_X8_goAlong_45 ?_
    refine MF.ior C e_X8_goAlong_46 ?_
    refine MF.iadd C e_X8_goAlong_47 ?_
    refine MF.nmI (fun v8 => ?_)
    refine MF.istore (lv' := [(0, .ref (ead E 70)), (1, .int x1), (2, .int x2), (3, .int x3), (4, .int i1), (5, .int i2), (6, .int v7), (7, .int v8)]) C e_X8_goAlong_48 (by decide) rfl ?_
    refine MF.iload C e_X8_goAlong_50 4 rfl ?_
    refine MF.join (fun j : Int32 → Option (Int32 × Sg) => ∀ (a9 : Int32), MF l E X (fun q : Int32 × Sg => QI E X q.1 q.2) (j a9) s3 72 [(0, .ref (ead E 70)), (1, .int x1), (2, .int x2), (3, .int x3), (5, .int i2), (6, .int v7), (7, .int v8)] [.int a9]) ?_ (fun j10 hj10 => ?_)
    · intro a9
      refine MF.istore (lv' := [(0, .ref (ead E 70)), (1, .int x1), (2, .int x2), (3, .int x3), (4, .int a9), (5, .int i2), (6, .int v7), (7, .int v8)]) C e_X8_goAlong_72 (by decide) rfl ?_
      refine MF.aload_n C e_X8_goAlong_74 0 rfl rfl ?_
      refine MF.getR (j := 87) C cf_X8 l_X8_59 e_X8_goAlong_75 kF_70_20 ?_
      refine MF.iload C e_X8_goAlong_78 7 rfl ?_
      refine MF.iload C e_X8_goAlong_80 6 rfl ?_
      refine MF.aload_n C e_X8_goAlong_82 0 rfl rfl ?_
      refine MF.getR (j := 87) C cf_X8 l_X8_59 e_X8_goAlong_83 kF_70_20 ?_
      refine MF.iload C e_X8_goAlong_86 7 rfl ?_
      refine MF.iald C e_X8_goAlong_88 kA_87 (fun v11 => ?_)
      refine MF.join (fun j : Int32 → Option (Int32 × Sg) => ∀ (a12 : Int32), MF l E X (fun q : Int32 × Sg => QI E X q.1 q.2) (j a12) s3 104 [(0, .ref (ead E 70)), (1, .int x1), (2, .int x2), (3, .int x3), (4, .int a9), (5, .int i2)] [.int a12, .int v8, .ref (ead E 87)]) ?_ (fun j13 hj13 => ?_)
      · intro a12
        refine MF.iast C e_X8_goAlong_104 kA_87 (fun s14 => ?_)
        refine MF.iinc (v := (nI 1)) (lv' := [(0, .ref (ead E 70)), (1, .int x1), (2, .int x2), (3, .int x3), (4, .int a9), (5, .int (i2 + (nI 1)))]) C e_X8_goAlong_105 5 rfl rfl (by decide) rfl ?_
        refine MF.goto (tgt := 6) C e_X8_goAlong_108 (by decide) ?_
        exact hself4 a9 (i2 + (nI 1)) s14
      refine MF.icmp_ge (tgt := 97) C e_X8_goAlong_89 (by decide) (fun _ => ?_) (fun _ => ?_)
      · refine MF.aload_n C e_X8_goAlong_97 0 rfl rfl ?_
        refine MF.getR (j := 87) C cf_X8 l_X8_59 e_X8_goAlong_98 kF_70_20 ?_
        refine MF.iload C e_X8_goAlong_101 7 rfl ?_
        refine MF.iald C e_X8_goAlong_103 kA_87 (fun v15 => ?_)
        refine MF.sub [0, 1, 2, 3, 4, 5] rfl ?_
        exact hj13 v15
      · refine MF.iload C e_X8_goAlong_92 6 rfl ?_
        refine MF.goto (tgt := 104) C e_X8_goAlong_94 (by decide) ?_
        refine MF.sub [0, 1, 2, 3, 4, 5] rfl ?_
        exact hj13 v7
    refine MF.join (fun j : Unit → Option (Int32 × Sg) => ∀ (_u : Unit), MF l E X (fun q : Int32 × Sg => QI E X q.1 q.2) (j _u) s3 67 [(0, .ref (ead E 70)), (1, .int x1), (2, .int x2), (3, .int x3), (5, .int i2), (6, .int v7), (7, .int v8)] []) ?_ (fun j16 hj16 => ?_)
    · intro _
      refine MF.iconst (v := (nI 1)) C e_X8_goAlong_67 rfl ?_
      refine MF.goto (tgt := 72) C e_X8_goAlong_68 (by decide) ?_
      exact hj10 (nI 1)
    refine MF.if_ne (tgt := 67) C e_X8_goAlong_52 (by decide) (fun _ => ?_) (fun _ => ?_)
    · refine MF.sub [0, 1, 2, 3, 5, 6, 7] rfl ?_
      exact hj16 ()
    · refine MF.iload C e_X8_goAlong_55 6 rfl ?_
      refine MF.aload_n C e_X8_goAlong_57 0 rfl rfl ?_
      refine MF.getR (j := 87) C cf_X8 l_X8_59 e_X8_goAlong_58 kF_70_20 ?_
      refine MF.iload C e_X8_goAlong_61 7 rfl ?_
      refine MF.iald C e_X8_goAlong_63 kA_87 (fun v17 => ?_)
      refine MF.icmp_ge (tgt := 71) C e_X8_goAlong_64 (by decide) (fun _ => ?_) (fun _ => ?_)
      · refine MF.iconst (v := (nI 0)) C e_X8_goAlong_71 rfl ?_
        refine MF.sub [0, 1, 2, 3, 5, 6, 7] rfl ?_
        exact hj10 (nI 0)
      · refine MF.sub [0, 1, 2, 3, 5, 6, 7] rfl ?_
        exact hj16 ()
theorem e_X8_round_0 : Dc cX8_round 0 (.iload_n 1) 1 1 := ⟨by decide +kernel, rfl⟩
theorem e_X8_round_1 : Dc cX8_round 1 (.i2l) 1 2 := ⟨by decide +kernel, rfl⟩
theorem e_X8_round_2 : Dc cX8_round 2 (.lconst 0) 1 3 := ⟨by decide +kernel, rfl⟩
theorem e_X8_round_3 : Dc cX8_round 3 (.ldc2_w 96) 3 6 := ⟨by decide +kernel, rfl⟩
theorem e_X8_round_6 : Dc cX8_round 6 (.invokestatic 75) 3 9 := ⟨by decide +kernel, rfl⟩
theorem e_X8_round_9 : Dc cX8_round 9 (.ifCond .eq 11) 3 12 := ⟨by decide +kernel, rfl⟩
theorem e_X8_round_12 : Dc cX8_round 12 (.aload_n 0) 1 13 := ⟨by decide +kernel, rfl⟩
theorem e_X8_round_13 : Dc cX8_round 13 (.iload_n 2) 1 14 := ⟨by decide +kernel, rfl⟩
theorem e_X8_round_14 : Dc cX8_round 14 (.invokevirtual 188) 3 17 := ⟨by decide +kernel, rfl⟩
theorem e_X8_round_17 : Dc cX8_round 17 (.ifCond .ne 10) 3 20 := ⟨by decide +kernel, rfl⟩
theorem e_X8_round_20 : Dc cX8_round 20 (.aload_n 0) 1 21 := ⟨by decide +kernel, rfl⟩
theorem e_X8_round_21 : Dc cX8_round 21 (.bipush (-2)) 2 23 := ⟨by decide +kernel, rfl⟩
theorem e_X8_round_23 : Dc cX8_round 23 (.invokevirtual 88) 3 26 := ⟨by decide +kernel, rfl⟩
theorem e_X8_round_26 : Dc cX8_round 26 (.ireturn) 1 27 := ⟨by decide +kernel, rfl⟩
theorem e_X8_round_27 : Dc cX8_round 27 (.iconst 0) 1 28 := ⟨by decide +kernel, rfl⟩
theorem e_X8_round_28 : Dc cX8_round 28 (.istore_n 3) 1 29 := ⟨by decide +kernel, rfl⟩
theorem e_X8_round_29 : Dc cX8_round 29 (.iload_n 3) 1 30 := ⟨by decide +kernel, rfl⟩
theorem e_X8_round_30 : Dc cX8_round 30 (.sipush 1024) 3 33 := ⟨by decide +kernel, rfl⟩
theorem e_X8_round_33 : Dc cX8_round 33 (.if_icmp .ge 30) 3 36 := ⟨by decide +kernel, rfl⟩
theorem e_X8_round_36 : Dc cX8_round 36 (.aload_n 0) 1 37 := ⟨by decide +kernel, rfl⟩
theorem e_X8_round_37 : Dc cX8_round 37 (.getfield 59) 3 40 := ⟨by decide +kernel, rfl⟩
theorem e_X8_round_40 : Dc cX8_round 40 (.iload_n 3) 1 41 := ⟨by decide +kernel, rfl⟩
theorem e_X8_round_41 : Dc cX8_round 41 (.iload_n 3) 1 42 := ⟨by decide +kernel, rfl⟩
theorem e_X8_round_42 : Dc cX8_round 42 (.sipush 128) 3 45 := ⟨by decide +kernel, rfl⟩
theorem e_X8_round_45 : Dc cX8_round 45 (.iload_n 1) 1 46 := ⟨by decide +kernel, rfl⟩
theorem e_X8_round_46 : Dc cX8_round 46 (.imul) 1 47 := ⟨by decide +kernel, rfl⟩
theorem e_X8_round_47 : Dc cX8_round 47 (.if_icmp .ne 7) 3 50 := ⟨by decide +kernel, rfl⟩
theorem e_X8_round_50 : Dc cX8_round 50 (.iconst 0) 1 51 := ⟨by decide +kernel, rfl⟩
theorem e_X8_round_51 : Dc cX8_round 51 (.goto 5) 3 54 := ⟨by decide +kernel, rfl⟩
theorem e_X8_round_54 : Dc cX8_round 54 (.ldc 191) 2 56 := ⟨by decide +kernel, rfl⟩
theorem e_X8_round_56 : Dc cX8_round 56 (.iastore) 1 57 := ⟨by decide +kernel, rfl⟩
theorem e_X8_round_57 : Dc cX8_round 57 (.iinc 3 1) 3 60 := ⟨by decide +kernel, rfl⟩
theorem e_X8_round_60 : Dc cX8_round 60 (.goto (-31)) 3 63 := ⟨by decide +kernel, rfl⟩
theorem e_X8_round_63 : Dc cX8_round 63 (.iconst 1) 1 64 := ⟨by decide +kernel, rfl⟩
theorem e_X8_round_64 : Dc cX8_round 64 (.istore_n 3) 1 65 := ⟨by decide +kernel, rfl⟩
theorem e_X8_round_65 : Dc cX8_round 65 (.iload_n 3) 1 66 := ⟨by decide +kernel, rfl⟩
theorem e_X8_round_66 : Dc cX8_round 66 (.ifCond .eq 92) 3 69 := ⟨by decide +kernel, rfl⟩
theorem e_X8_round_69 : Dc cX8_round 69 (.iconst 0) 1 70 := ⟨by decide +kernel, rfl⟩
theorem e_X8_round_70 : Dc cX8_round 70 (.istore_n 3) 1 71 := ⟨by decide +kernel, rfl⟩
theorem e_X8_round_71 : Dc cX8_round 71 (.iconst 0) 1 72 := ⟨by decide +kernel, rfl⟩
theorem e_X8_round_72 : Dc cX8_round 72 (.istore 4) 2 74 := ⟨by decide +kernel, rfl⟩
theorem e_X8_round_74 : Dc cX8_round 74 (.iload 4) 2 76 := ⟨by decide +kernel, rfl⟩
theorem e_X8_round_76 : Dc cX8_round 76 (.aload_n 0) 1 77 := ⟨by decide +kernel, rfl⟩
theorem e_X8_round_77 : Dc cX8_round 77 (.invokevirtual 71) 3 80 := ⟨by decide +kernel, rfl⟩
theorem e_X8_round_80 : Dc cX8_round 80 (.if_icmp .ge 75) 3 83 := ⟨by decide +kernel, rfl⟩
theorem e_X8_round_83 : Dc cX8_round 83 (.aload_n 0) 1 84 := ⟨by decide +kernel, rfl⟩
theorem e_X8_round_84 : Dc cX8_round 84 (.iload 4) 2 86 := ⟨by decide +kernel, rfl⟩
theorem e_X8_round_86 : Dc cX8_round 86 (.aload_n 0) 1 87 := ⟨by decide +kernel, rfl⟩
theorem e_X8_round_87 : Dc cX8_round 87 (.iload 4) 2 89 := ⟨by decide +kernel, rfl⟩
theorem e_X8_round_89 : Dc cX8_round 89 (.iconst 0) 1 90 := ⟨by decide +kernel, rfl⟩
theorem e_X8_round_90 : Dc cX8_round 90 (.invokevirtual 134) 3 93 := ⟨by decide +kernel, rfl⟩
theorem e_X8_round_93 : Dc cX8_round 93 (.aload_n 0) 1 94 := ⟨by decide +kernel, rfl⟩
theorem e_X8_round_94 : Dc cX8_round 94 (.iload 4) 2 96 := ⟨by decide +kernel, rfl⟩
theorem e_X8_round_96 : Dc cX8_round 96 (.iconst 1) 1 97 := ⟨by decide +kernel, rfl⟩
theorem e_X8_round_97 : Dc cX8_round 97 (.invokevirtual 134) 3 100 := ⟨by decide +kernel, rfl⟩
theorem e_X8_round_100 : Dc cX8_round 100 (.invokevirtual 225) 3 103 := ⟨by decide +kernel, rfl⟩
theorem e_X8_round_103 : Dc cX8_round 103 (.ifCond .ne 7) 3 106 := ⟨by decide +kernel, rfl⟩
theorem e_X8_round_106 : Dc cX8_round 106 (.iload_n 3) 1 107 := ⟨by decide +kernel, rfl⟩
theorem e_X8_round_107 : Dc cX8_round 107 (.ifCond .eq 7) 3 110 := ⟨by decide +kernel, rfl⟩
theorem e_X8_round_110 : Dc cX8_round 110 (.iconst 1) 1 111 := ⟨by decide +kernel, rfl⟩
theorem e_X8_round_111 : Dc cX8_round 111 (.goto 4) 3 114 := ⟨by decide +kernel, rfl⟩
theorem e_X8_round_114 : Dc cX8_round 114 (.iconst 0) 1 115 := ⟨by decide +kernel, rfl⟩
theorem e_X8_round_115 : Dc cX8_round 115 (.istore_n 3) 1 116 := ⟨by decide +kernel, rfl⟩
theorem e_X8_round_116 : Dc cX8_round 116 (.aload_n 0) 1 117 := ⟨by decide +kernel, rfl⟩
theorem e_X8_round_117 : Dc cX8_round 117 (.iload 4) 2 119 := ⟨by decide +kernel, rfl⟩
theorem e_X8_round_119 : Dc cX8_round 119 (.aload_n 0) 1 120 := ⟨by decide +kernel, rfl⟩
theorem e_X8_round_120 : Dc cX8_round 120 (.iload 4) 2 122 := ⟨by decide +kernel, rfl⟩
theorem e_X8_round_122 : Dc cX8_round 122 (.iconst 1) 1 123 := ⟨by decide +kernel, rfl⟩
theorem e_X8_round_123 : Dc cX8_round 123 (.invokevirtual 134) 3 126 := ⟨by decide +kernel, rfl⟩
theorem e_X8_round_126 : Dc cX8_round 126 (.aload_n 0) 1 127 := ⟨by decide +kernel, rfl⟩
theorem e_X8_round_127 : Dc cX8_round 127 (.iload 4) 2 129 := ⟨by decide +kernel, rfl⟩
theorem e_X8_round_129 : Dc cX8_round 129 (.iconst 0) 1 130 := ⟨by decide +kernel, rfl⟩
theorem e_X8_round_130 : Dc cX8_round 130 (.invokevirtual 134) 3 133 := ⟨by decide +kernel, rfl⟩
theorem e_X8_round_133 : Dc cX8_round 133 (.invokevirtual 225) 3 136 := ⟨by decide +kernel, rfl⟩
theorem e_X8_round_136 : Dc cX8_round 136 (.ifCond .ne 7) 3 139 := ⟨by decide +kernel, rfl⟩
theorem e_X8_round_139 : Dc cX8_round 139 (.iload_n 3) 1 140 := ⟨by decide +kernel, rfl⟩
theorem e_X8_round_140 : Dc cX8_round 140 (.ifCond .eq 7) 3 143 := ⟨by decide +kernel, rfl⟩
theorem e_X8_round_143 : Dc cX8_round 143 (.iconst 1) 1 144 := ⟨by decide +kernel, rfl⟩
theorem e_X8_round_144 : Dc cX8_round 144 (.goto 4) 3 147 := ⟨by decide +kernel, rfl⟩
theorem e_X8_round_147 : Dc cX8_round 147 (.iconst 0) 1 148 := ⟨by decide +kernel, rfl⟩
theorem e_X8_round_148 : Dc cX8_round 148 (.istore_n 3) 1 149 := ⟨by decide +kernel, rfl⟩
theorem e_X8_round_149 : Dc cX8_round 149 (.iinc 4 1) 3 152 := ⟨by decide +kernel, rfl⟩
theorem e_X8_round_152 : Dc cX8_round 152 (.goto (-78)) 3 155 := ⟨by decide +kernel, rfl⟩
theorem e_X8_round_155 : Dc cX8_round 155 (.goto (-90)) 3 158 := ⟨by decide +kernel, rfl⟩
theorem e_X8_round_158 : Dc cX8_round 158 (.ldc 191) 2 160 := ⟨by decide +kernel, rfl⟩
theorem e_X8_round_160 : Dc cX8_round 160 (.istore 4) 2 162 := ⟨by decide +kernel, rfl⟩
theorem e_X8_round_162 : Dc cX8_round 162 (.iconst 0) 1 163 := ⟨by decide +kernel, rfl⟩
theorem e_X8_round_163 : Dc cX8_round 163 (.istore 5) 2 165 := ⟨by decide +kernel, rfl⟩
theorem e_X8_round_165 : Dc cX8_round 165 (.iload 5) 2 167 := ⟨by decide +kernel, rfl⟩
theorem e_X8_round_167 : Dc cX8_round 167 (.sipush 1024) 3 170 := ⟨by decide +kernel, rfl⟩
theorem e_X8_round_170 : Dc cX8_round 170 (.if_icmp .ge 43) 3 173 := ⟨by decide +kernel, rfl⟩
theorem e_X8_round_173 : Dc cX8_round 173 (.iload 5) 2 175 := ⟨by decide +kernel, rfl⟩
theorem e_X8_round_175 : Dc cX8_round 175 (.iload_n 2) 1 176 := ⟨by decide +kernel, rfl⟩
theorem e_X8_round_176 : Dc cX8_round 176 (.iand) 1 177 := ⟨by decide +kernel, rfl⟩
theorem e_X8_round_177 : Dc cX8_round 177 (.iload_n 2) 1 178 := ⟨by decide +kernel, rfl⟩
theorem e_X8_round_178 : Dc cX8_round 178 (.if_icmp .ne 25) 3 181 := ⟨by decide +kernel, rfl⟩
theorem e_X8_round_181 : Dc cX8_round 181 (.aload_n 0) 1 182 := ⟨by decide +kernel, rfl⟩
theorem e_X8_round_182 : Dc cX8_round 182 (.getfield 59) 3 185 := ⟨by decide +kernel, rfl⟩
theorem e_X8_round_185 : Dc cX8_round 185 (.iload 5) 2 187 := ⟨by decide +kernel, rfl⟩
theorem e_X8_round_187 : Dc cX8_round 187 (.iaload) 1 188 := ⟨by decide +kernel, rfl⟩
theorem e_X8_round_188 : Dc cX8_round 188 (.iload 4) 2 190 := ⟨by decide +kernel, rfl⟩
theorem e_X8_round_190 : Dc cX8_round 190 (.if_icmp .ge 13) 3 193 := ⟨by decide +kernel, rfl⟩
theorem e_X8_round_193 : Dc cX8_round 193 (.aload_n 0) 1 194 := ⟨by decide +kernel, rfl⟩
theorem e_X8_round_194 : Dc cX8_round 194 (.getfield 59) 3 197 := ⟨by decide +kernel, rfl⟩
theorem e_X8_round_197 : Dc cX8_round 197 (.iload 5) 2 199 := ⟨by decide +kernel, rfl⟩
theorem e_X8_round_199 : Dc cX8_round 199 (.iaload) 1 200 := ⟨by decide +kernel, rfl⟩
theorem e_X8_round_200 : Dc cX8_round 200 (.goto 5) 3 203 := ⟨by decide +kernel, rfl⟩
theorem e_X8_round_203 : Dc cX8_round 203 (.iload 4) 2 205 := ⟨by decide +kernel, rfl⟩
theorem e_X8_round_205 : Dc cX8_round 205 (.istore 4) 2 207 := ⟨by decide +kernel, rfl⟩
theorem e_X8_round_207 : Dc cX8_round 207 (.iinc 5 1) 3 210 := ⟨by decide +kernel, rfl⟩
theorem e_X8_round_210 : Dc cX8_round 210 (.goto (-45)) 3 213 := ⟨by decide +kernel, rfl⟩
theorem e_X8_round_213 : Dc cX8_round 213 (.iload 4) 2 215 := ⟨by decide +kernel, rfl⟩
theorem e_X8_round_215 : Dc cX8_round 215 (.ldc 191) 2 217 := ⟨by decide +kernel, rfl⟩
theorem e_X8_round_217 : Dc cX8_round 217 (.if_icmp .ne 7) 3 220 := ⟨by decide +kernel, rfl⟩
theorem e_X8_round_220 : Dc cX8_round 220 (.iconst (-1)) 1 221 := ⟨by decide +kernel, rfl⟩
theorem e_X8_round_221 : Dc cX8_round 221 (.goto 5) 3 224 := ⟨by decide +kernel, rfl⟩
theorem e_X8_round_224 : Dc cX8_round 224 (.iload 4) 2 226 := ⟨by decide +kernel, rfl⟩
theorem e_X8_round_226 : Dc cX8_round 226 (.ireturn) 1 227 := ⟨by decide +kernel, rfl⟩
set_option maxHeartbeats 4000000 in
set_option maxRecDepth 20000 in
theorem R_X8_round (hD : DD E) (x1 : Int32) (x2 : Int32) (s : Sg) : ∀ v τ, (f_X8_round x1 x2 s) = some (v, τ) → RI l E 2 M_X8_round [.ref (ead E 70), .int x1, .int x2] s v τ := by
  refine ofI hD (by decide +kernel) (Nat.le_of_ble_eq_true rfl) (fun X C => ?_)
  show MF l E X (fun q : Int32 × Sg => QI E X q.1 q.2) (f_X8_round x1 x2 s) s 0 [(0, .ref (ead E 70)), (1, .int x1), (2, .int x2)] []
  unfold f_X8_round
  refine MF.iload_n C e_X8_round_0 1 rfl rfl ?_
  refine MF.i2l C e_X8_round_1 ?_
  refine MF.lconst (v := (0 : Int64)) C e_X8_round_2 (by decide) ?_
  refine MF.ldc2 C e_X8_round_3 t_X8_96 ?_
  refine MF.callSP (As := [.long (Int32.toInt64 x1), .long (0 : Int64), .long (7 : Int64)]) C (R_X8_in hD (Int32.toInt64 x1) (0 : Int64) (7 : Int64) s) m_X8_in k_X8_75 (by decide) e_X8_round_6 rfl rfl (Nat.le_of_ble_eq_true rfl) (fun v1 => ?_)
  refine MF.if_eq (tgt := 20) C e_X8_round_9 (by decide) (fun _ => ?_) (fun _ => ?_)
  · refine MF.aload_n C e_X8_round_20 0 rfl rfl ?_
    refine MF.bipush (v := (-2 : Int32)) C e_X8_round_21 (by decide) ?_
    refine MF.callVI (As := [.int (-2 : Int32)]) C (R_X8_bad hD (-2 : Int32) s) m_X8_bad k_X8_88 kO_70 rfl (by decide) e_X8_round_23 rfl rfl (Nat.le_of_ble_eq_true rfl) (fun v2 s3 => ?_)
    exact MF.iret C e_X8_round_26
  · refine MF.aload_n C e_X8_round_12 0 rfl rfl ?_
    refine MF.iload_n C e_X8_round_13 2 rfl rfl ?_
    refine MF.callVP (As := [.int x2]) C (R_X8_areStreets hD x2 s) m_X8_areStreets k_X8_188 kO_70 rfl (by decide) e_X8_round_14 rfl rfl (Nat.le_of_ble_eq_true rfl) (fun v4 => ?_)
    refine MF.if_ne (tgt := 27) C e_X8_round_17 (by decide) (fun _ => ?_) (fun _ => ?_)
    · refine MF.iconst (v := (nI 0)) C e_X8_round_27 rfl ?_
      refine MF.istore_n (lv' := [(0, .ref (ead E 70)), (1, .int x1), (2, .int x2), (3, .int (nI 0))]) C e_X8_round_28 (by decide) rfl ?_
      refine MF.join (fun j : Sg → Option (Int32 × Sg) => ∀ (s5 : Sg), MF l E X (fun q : Int32 × Sg => QI E X q.1 q.2) (j s5) s5 63 [(0, .ref (ead E 70)), (2, .int x2)] []) ?_ (fun j6 hj6 => ?_)
      · intro s5
        refine MF.iconst (v := (nI 1)) C e_X8_round_63 rfl ?_
        refine MF.istore_n (lv' := [(0, .ref (ead E 70)), (2, .int x2), (3, .int (nI 1))]) C e_X8_round_64 (by decide) rfl ?_
        refine MF.join (fun j : Sg → Option (Int32 × Sg) => ∀ (s7 : Sg), MF l E X (fun q : Int32 × Sg => QI E X q.1 q.2) (j s7) s7 158 [(0, .ref (ead E 70)), (2, .int x2)] []) ?_ (fun j8 hj8 => ?_)
        · intro s7
          refine MF.ldc C e_X8_round_158 t_X8_191 ?_
          refine MF.istore (lv' := [(0, .ref (ead E 70)), (2, .int x2), (4, .int (nI 1000000))]) C e_X8_round_160 (by decide) rfl ?_
          refine MF.iconst (v := (nI 0)) C e_X8_round_162 rfl ?_
          refine MF.istore (lv' := [(0, .ref (ead E 70)), (2, .int x2), (4, .int (nI 1000000)), (5, .int (nI 0))]) C e_X8_round_163 (by decide) rfl ?_
          refine MF.join (fun j : Int32 → Option (Int32 × Sg) => ∀ (a9 : Int32), MF l E X (fun q : Int32 × Sg => QI E X q.1 q.2) (j a9) s7 213 [(4, .int a9)] []) ?_ (fun j10 hj10 => ?_)
          · intro a9
            refine MF.iload C e_X8_round_213 0 rfl ?_
            refine MF.ldc C e_X8_round_215 t_X8_191 ?_
            refine MF.icmp_ne (tgt := 224) C e_X8_round_217 (by decide) (fun _ => ?_) (fun _ => ?_)
            · refine MF.iload C e_X8_round_224 0 rfl ?_
              exact MF.iret C e_X8_round_226
            · refine MF.iconst (v := (-1 : Int32)) C e_X8_round_220 rfl ?_
              refine MF.goto (tgt := 226) C e_X8_round_221 (by decide) ?_
              exact MF.iret C e_X8_round_226
          refine MF.loop2 (fun i11 i12 => s7) (fun i11 i12 => [(0, .ref (ead E 70)), (2, .int x2), (4, .int i11), (5, .int i12)]) (fun self13 hself13 i11 i12 => ?_) fu (nI 1000000) (nI 0)
          unfold b_X8_round_165
          refine MF.iload C e_X8_round_165 3 rfl ?_
          refine MF.sipush (v := (nI 1024)) C e_X8_round_167 (by decide) ?_
          refine MF.icmp_ge (tgt := 213) C e_X8_round_170 (by decide) (fun _ => ?_) (fun _ => ?_)
          · refine MF.sub [2] rfl ?_
            exact hj10 i11
          · refine MF.iload C e_X8_round_173 3 rfl ?_
            refine MF.iload_n C e_X8_round_175 1 rfl rfl ?_
            refine MF.iand C e_X8_round_176 ?_
            refine MF.iload_n C e_X8_round_177 1 rfl rfl ?_
            refine MF.join (fun j : Int32 → Option (Int32 × Sg) => ∀ (a14 : Int32), MF l E X (fun q : Int32 × Sg => QI E X q.1 q.2) (j a14) s7 205 [(0, .ref (ead E 70)), (2, .int x2), (5, .int i12)] [.int a14]) ?_ (fun j15 hj15 => ?_)
            · intro a14
              refine MF.istore (lv' := [(0, .ref (ead E 70)), (2, .int x2), (4, .int a14), (5, .int i12)]) C e_X8_round_205 (by decide) rfl ?_
              refine MF.iinc (v := (nI 1)) (lv' := [(0, .ref (ead E 70)), (2, .int x2), (4, .int a14), (5, .int (i12 + (nI 1)))]) C e_X8_round_207 3 rfl rfl (by decide) rfl ?_
              refine MF.goto (tgt := 165) C e_X8_round_210 (by decide) ?_
              exact hself13 a14 (i12 + (nI 1))
            refine MF.join (fun j : Unit → Option (Int32 × Sg) => ∀ (_u : Unit), MF l E X (fun q : Int32 × Sg => QI E X q.1 q.2) (j _u) s7 203 [(0, .ref (ead E 70)), (2, .int x2), (4, .int i11), (5, .int i12)] []) ?_ (fun j16 hj16 => ?_)
            · intro _
              refine MF.iload C e_X8_round_203 2 rfl ?_
              refine MF.sub [0, 1, 3] rfl ?_
              exact hj15 i11
            refine MF.icmp_ne (tgt := 203) C e_X8_round_178 (by decide) (fun _ => ?_) (fun _ => ?_)
            · exact hj16 ()
            · refine MF.aload_n C e_X8_round_181 0 rfl rfl ?_
              refine MF.getR (j := 87) C cf_X8 l_X8_59 e_X8_round_182 kF_70_20 ?_
              refine MF.iload C e_X8_round_185 3 rfl ?_
              refine MF.iald C e_X8_round_187 kA_87 (fun v17 => ?_)
              refine MF.iload C e_X8_round_188 2 rfl ?_
              refine MF.icmp_ge (tgt := 203) C e_X8_round_190 (by decide) (fun _ => ?_) (fun _ => ?_)
              · exact hj16 ()
              · refine MF.aload_n C e_X8_round_193 0 rfl rfl ?_
                refine MF.getR (j := 87) C cf_X8 l_X8_59 e_X8_round_194 kF_70_20 ?_
                refine MF.iload C e_X8_round_197 3 rfl ?_
                refine MF.iald C e_X8_round_199 kA_87 (fun v18 => ?_)
                refine MF.goto (tgt := 205) C e_X8_round_200 (by decide) ?_
                refine MF.sub [0, 1, 3] rfl ?_
                exact hj15 v18
        refine MF.loop2 (fun i19 s20 => s20) (fun i19 s20 => [(0, .ref (ead E 70)), (2, .int x2), (3, .int i19)]) (fun self21 hself21 i19 s20 => ?_) fu (nI 1) s5
        unfold b_X8_round_65
        refine MF.iload_n C e_X8_round_65 2 rfl rfl ?_
        refine MF.if_eq (tgt := 158) C e_X8_round_66 (by decide) (fun _ => ?_) (fun _ => ?_)
        · refine MF.sub [0, 1] rfl ?_
          exact hj8 s20
        · refine MF.iconst (v := (nI 0)) C e_X8_round_69 rfl ?_
          refine MF.istore_n (lv' := [(0, .ref (ead E 70)), (2, .int x2), (3, .int (nI 0))]) C e_X8_round_70 (by decide) rfl ?_
          refine MF.iconst (v := (nI 0)) C e_X8_round_71 rfl ?_
          refine MF.istore (lv' := [(0, .ref (ead E 70)), (2, .int x2), (3, .int (nI 0)), (4, .int (nI 0))]) C e_X8_round_72 (by decide) rfl ?_
          refine MF.join (fun j : Int32 → Sg → Option (Int32 × Sg) => ∀ (a22 : Int32) (s23 : Sg), MF l E X (fun q : Int32 × Sg => QI E X q.1 q.2) (j a22 s23) s23 155 [(0, .ref (ead E 70)), (2, .int x2), (3, .int a22)] []) ?_ (fun j24 hj24 => ?_)
          · intro a22 s23
            refine MF.goto (tgt := 65) C e_X8_round_155 (by decide) ?_
            exact hself21 a22 s23
          refine MF.loop3 (fun i25 i26 s27 => s27) (fun i25 i26 s27 => [(0, .ref (ead E 70)), (2, .int x2), (3, .int i25), (4, .int i26)]) (fun self28 hself28 i25 i26 s27 => ?_) fu (nI 0) (nI 0) s20
          unfold b_X8_round_74
          refine MF.iload C e_X8_round_74 3 rfl ?_
          refine MF.aload_n C e_X8_round_76 0 rfl rfl ?_
          refine MF.callVP (As := []) C (R_X8_streets hD s27) m_X8_streets k_X8_71 kO_70 rfl (by decide) e_X8_round_77 rfl rfl (Nat.le_of_ble_eq_true rfl) (fun v29 => ?_)
          refine MF.icmp_ge (tgt := 155) C e_X8_round_80 (by decide) (fun _ => ?_) (fun _ => ?_)
          · refine MF.sub [0, 1, 2] rfl ?_
            exact hj24 i25 s27
          · refine MF.aload_n C e_X8_round_83 0 rfl rfl ?_
            refine MF.iload C e_X8_round_84 3 rfl ?_
            refine MF.aload_n C e_X8_round_86 0 rfl rfl ?_
            refine MF.iload C e_X8_round_87 3 rfl ?_
            refine MF.iconst (v := (nI 0)) C e_X8_round_89 rfl ?_
            refine MF.callVP (As := [.int i26, .int (nI 0)]) C (R_X8_has hD i26 (nI 0) s27) m_X8_has k_X8_134 kO_70 rfl (by decide) e_X8_round_90 rfl rfl (Nat.le_of_ble_eq_true rfl) (fun v30 => ?_)
            refine MF.aload_n C e_X8_round_93 0 rfl rfl ?_
            refine MF.iload C e_X8_round_94 3 rfl ?_
            refine MF.iconst (v := (nI 1)) C e_X8_round_96 rfl ?_
            refine MF.callVP (As := [.int i26, .int (nI 1)]) C (R_X8_has hD i26 (nI 1) s27) m_X8_has k_X8_134 kO_70 rfl (by decide) e_X8_round_97 rfl rfl (Nat.le_of_ble_eq_true rfl) (fun v31 => ?_)
            refine MF.callVI (As := [.int i26, .int v30, .int v31]) C (R_X8_goAlong hD i26 v30 v31 s27) m_X8_goAlong k_X8_225 kO_70 rfl (by decide) e_X8_round_100 rfl rfl (Nat.le_of_ble_eq_true rfl) (fun v32 s33 => ?_)
            refine MF.join (fun j : Int32 → Option (Int32 × Sg) => ∀ (a34 : Int32), MF l E X (fun q : Int32 × Sg => QI E X q.1 q.2) (j a34) s33 115 [(0, .ref (ead E 70)), (2, .int x2), (4, .int i26)] [.int a34]) ?_ (fun j35 hj35 => ?_)
            · intro a34
              refine MF.istore_n (lv' := [(0, .ref (ead E 70)), (2, .int x2), (3, .int a34), (4, .int i26)]) C e_X8_round_115 (by decide) rfl ?_
              refine MF.aload_n C e_X8_round_116 0 rfl rfl ?_
              refine MF.iload C e_X8_round_117 3 rfl ?_
              refine MF.aload_n C e_X8_round_119 0 rfl rfl ?_
              refine MF.iload C e_X8_round_120 3 rfl ?_
              refine MF.iconst (v := (nI 1)) C e_X8_round_122 rfl ?_
              refine MF.callVP (As := [.int i26, .int (nI 1)]) C (R_X8_has hD i26 (nI 1) s33) m_X8_has k_X8_134 kO_70 rfl (by decide) e_X8_round_123 rfl rfl (Nat.le_of_ble_eq_true rfl) (fun v36 => ?_)
              refine MF.aload_n C e_X8_round_126 0 rfl rfl ?_
              refine MF.iload C e_X8_round_127 3 rfl ?_
              refine MF.iconst (v := (nI 0)) C e_X8_round_129 rfl ?_
              refine MF.callVP (As := [.int i26, .int (nI 0)]) C (R_X8_has hD i26 (nI 0) s33) m_X8_has k_X8_134 kO_70 rfl (by decide) e_X8_round_130 rfl rfl (Nat.le_of_ble_eq_true rfl) (fun v37 => ?_)
              refine MF.callVI (As := [.int i26, .int v36, .int v37]) C (R_X8_goAlong hD i26 v36 v37 s33) m_X8_goAlong k_X8_225 kO_70 rfl (by decide) e_X8_round_133 rfl rfl (Nat.le_of_ble_eq_true rfl) (fun v38 s39 => ?_)
              refine MF.join (fun j : Int32 → Option (Int32 × Sg) => ∀ (a40 : Int32), MF l E X (fun q : Int32 × Sg => QI E X q.1 q.2) (j a40) s39 148 [(0, .ref (ead E 70)), (2, .int x2), (4, .int i26)] [.int a40]) ?_ (fun j41 hj41 => ?_)
              · intro a40
                refine MF.istore_n (lv' := [(0, .ref (ead E 70)), (2, .int x2), (3, .int a40), (4, .int i26)]) C e_X8_round_148 (by decide) rfl ?_
                refine MF.iinc (v := (nI 1)) (lv' := [(0, .ref (ead E 70)), (2, .int x2), (3, .int a40), (4, .int (i26 + (nI 1)))]) C e_X8_round_149 3 rfl rfl (by decide) rfl ?_
                refine MF.goto (tgt := 74) C e_X8_round_152 (by decide) ?_
                exact hself28 a40 (i26 + (nI 1)) s39
              refine MF.join (fun j : Unit → Option (Int32 × Sg) => ∀ (_u : Unit), MF l E X (fun q : Int32 × Sg => QI E X q.1 q.2) (j _u) s39 143 [(0, .ref (ead E 70)), (2, .int x2), (4, .int i26)] []) ?_ (fun j42 hj42 => ?_)
              · intro _
                refine MF.iconst (v := (nI 1)) C e_X8_round_143 rfl ?_
                refine MF.goto (tgt := 148) C e_X8_round_144 (by decide) ?_
                exact hj41 (nI 1)
              refine MF.if_ne (tgt := 143) C e_X8_round_136 (by decide) (fun _ => ?_) (fun _ => ?_)
              · refine MF.sub [0, 1, 3] rfl ?_
                exact hj42 ()
              · refine MF.iload_n C e_X8_round_139 2 rfl rfl ?_
                refine MF.if_eq (tgt := 147) C e_X8_round_140 (by decide) (fun _ => ?_) (fun _ => ?_)
                · refine MF.iconst (v := (nI 0)) C e_X8_round_147 rfl ?_
                  refine MF.sub [0, 1, 3] rfl ?_
                  exact hj41 (nI 0)
                · refine MF.sub [0, 1, 3] rfl ?_
                  exact hj42 ()
            refine MF.join (fun j : Unit → Option (Int32 × Sg) => ∀ (_u : Unit), MF l E X (fun q : Int32 × Sg => QI E X q.1 q.2) (j _u) s33 110 [(0, .ref (ead E 70)), (2, .int x2), (4, .int i26)] []) ?_ (fun j43 hj43 => ?_)
            · intro _
              refine MF.iconst (v := (nI 1)) C e_X8_round_110 rfl ?_
              refine MF.goto (tgt := 115) C e_X8_round_111 (by decide) ?_
              exact hj35 (nI 1)
            refine MF.if_ne (tgt := 110) C e_X8_round_103 (by decide) (fun _ => ?_) (fun _ => ?_)
            · refine MF.sub [0, 1, 3] rfl ?_
              exact hj43 ()
            · refine MF.iload_n C e_X8_round_106 2 rfl rfl ?_
              refine MF.if_eq (tgt := 114) C e_X8_round_107 (by decide) (fun _ => ?_) (fun _ => ?_)
              · refine MF.iconst (v := (nI 0)) C e_X8_round_114 rfl ?_
                refine MF.sub [0, 1, 3] rfl ?_
                exact hj35 (nI 0)
              · refine MF.sub [0, 1, 3] rfl ?_
                exact hj43 ()
      refine MF.loop2 (fun i44 s45 => s45) (fun i44 s45 => [(0, .ref (ead E 70)), (1, .int x1), (2, .int x2), (3, .int i44)]) (fun self46 hself46 i44 s45 => ?_) fu (nI 0) s
      unfold b_X8_round_29
      refine MF.iload_n C e_X8_round_29 3 rfl rfl ?_
      refine MF.sipush (v := (nI 1024)) C e_X8_round_30 (by decide) ?_
      refine MF.icmp_ge (tgt := 63) C e_X8_round_33 (by decide) (fun _ => ?_) (fun _ => ?_)
      · refine MF.sub [0, 2] rfl ?_
        exact hj6 s45
      · refine MF.aload_n C e_X8_round_36 0 rfl rfl ?_
        refine MF.getR (j := 87) C cf_X8 l_X8_59 e_X8_round_37 kF_70_20 ?_
        refine MF.iload_n C e_X8_round_40 3 rfl rfl ?_
        refine MF.iload_n C e_X8_round_41 3 rfl rfl ?_
        refine MF.sipush (v := (nI 128)) C e_X8_round_42 (by decide) ?_
        refine MF.iload_n C e_X8_round_45 1 rfl rfl ?_
        refine MF.imul C e_X8_round_46 ?_
        refine MF.join (fun j : Int32 → Option (Int32 × Sg) => ∀ (a47 : Int32), MF l E X (fun q : Int32 × Sg => QI E X q.1 q.2) (j a47) s45 56 [(0, .ref (ead E 70)), (1, .int x1), (2, .int x2), (3, .int i44)] [.int a47, .int i44, .ref (ead E 87)]) ?_ (fun j48 hj48 => ?_)
        · intro a47
          refine MF.iast C e_X8_round_56 kA_87 (fun s49 => ?_)
          refine MF.iinc (v := (nI 1)) (lv' := [(0, .ref (ead E 70)), (1, .int x1), (2, .int x2), (3, .int (i44 + (nI 1)))]) C e_X8_round_57 3 rfl rfl (by decide) rfl ?_
          refine MF.goto (tgt := 29) C e_X8_round_60 (by decide) ?_
          exact hself46 (i44 + (nI 1)) s49
        refine MF.icmp_ne (tgt := 54) C e_X8_round_47 (by decide) (fun _ => ?_) (fun _ => ?_)
        · refine MF.ldc C e_X8_round_54 t_X8_191 ?_
          exact hj48 (nI 1000000)
        · refine MF.iconst (v := (nI 0)) C e_X8_round_50 rfl ?_
          refine MF.goto (tgt := 56) C e_X8_round_51 (by decide) ?_
          exact hj48 (nI 0)
    · refine MF.aload_n C e_X8_round_20 0 rfl rfl ?_
      refine MF.bipush (v := (-2 : Int32)) C e_X8_round_21 (by decide) ?_
      refine MF.callVI (As := [.int (-2 : Int32)]) C (R_X8_bad hD (-2 : Int32) s) m_X8_bad k_X8_88 kO_70 rfl (by decide) e_X8_round_23 rfl rfl (Nat.le_of_ble_eq_true rfl) (fun v50 s51 => ?_)
      exact MF.iret C e_X8_round_26
theorem e_X8_reading_0 : Dc cX8_reading 0 (.aload_n 0) 1 1 := ⟨by decide +kernel, rfl⟩
theorem e_X8_reading_1 : Dc cX8_reading 1 (.iload_n 1) 1 2 := ⟨by decide +kernel, rfl⟩
theorem e_X8_reading_2 : Dc cX8_reading 2 (.invokevirtual 113) 3 5 := ⟨by decide +kernel, rfl⟩
theorem e_X8_reading_5 : Dc cX8_reading 5 (.ifCond .eq 17) 3 8 := ⟨by decide +kernel, rfl⟩
theorem e_X8_reading_8 : Dc cX8_reading 8 (.iload_n 2) 1 9 := ⟨by decide +kernel, rfl⟩
theorem e_X8_reading_9 : Dc cX8_reading 9 (.invokestatic 116) 3 12 := ⟨by decide +kernel, rfl⟩
theorem e_X8_reading_12 : Dc cX8_reading 12 (.ifCond .eq 10) 3 15 := ⟨by decide +kernel, rfl⟩
theorem e_X8_reading_15 : Dc cX8_reading 15 (.iload_n 3) 1 16 := ⟨by decide +kernel, rfl⟩
theorem e_X8_reading_16 : Dc cX8_reading 16 (.invokestatic 100) 3 19 := ⟨by decide +kernel, rfl⟩
theorem e_X8_reading_19 : Dc cX8_reading 19 (.ifCond .ne 10) 3 22 := ⟨by decide +kernel, rfl⟩
theorem e_X8_reading_22 : Dc cX8_reading 22 (.aload_n 0) 1 23 := ⟨by decide +kernel, rfl⟩
theorem e_X8_reading_23 : Dc cX8_reading 23 (.bipush (-2)) 2 25 := ⟨by decide +kernel, rfl⟩
theorem e_X8_reading_25 : Dc cX8_reading 25 (.invokevirtual 88) 3 28 := ⟨by decide +kernel, rfl⟩
theorem e_X8_reading_28 : Dc cX8_reading 28 (.ireturn) 1 29 := ⟨by decide +kernel, rfl⟩
theorem e_X8_reading_29 : Dc cX8_reading 29 (.aload_n 0) 1 30 := ⟨by decide +kernel, rfl⟩
theorem e_X8_reading_30 : Dc cX8_reading 30 (.getfield 7) 3 33 := ⟨by decide +kernel, rfl⟩
theorem e_X8_reading_33 : Dc cX8_reading 33 (.iconst 3) 1 34 := ⟨by decide +kernel, rfl⟩
theorem e_X8_reading_34 : Dc cX8_reading 34 (.iaload) 1 35 := ⟨by decide +kernel, rfl⟩
theorem e_X8_reading_35 : Dc cX8_reading 35 (.bipush 6) 2 37 := ⟨by decide +kernel, rfl⟩
theorem e_X8_reading_37 : Dc cX8_reading 37 (.if_icmp .ne 8) 3 40 := ⟨by decide +kernel, rfl⟩
theorem e_X8_reading_40 : Dc cX8_reading 40 (.aload_n 0) 1 41 := ⟨by decide +kernel, rfl⟩
theorem e_X8_reading_41 : Dc cX8_reading 41 (.invokevirtual 104) 3 44 := ⟨by decide +kernel, rfl⟩
theorem e_X8_reading_44 : Dc cX8_reading 44 (.ireturn) 1 45 := ⟨by decide +kernel, rfl⟩
theorem e_X8_reading_45 : Dc cX8_reading 45 (.bipush 97) 2 47 := ⟨by decide +kernel, rfl⟩
theorem e_X8_reading_47 : Dc cX8_reading 47 (.iconst 3) 1 48 := ⟨by decide +kernel, rfl⟩
theorem e_X8_reading_48 : Dc cX8_reading 48 (.aload_n 0) 1 49 := ⟨by decide +kernel, rfl⟩
theorem e_X8_reading_49 : Dc cX8_reading 49 (.getfield 7) 3 52 := ⟨by decide +kernel, rfl⟩
theorem e_X8_reading_52 : Dc cX8_reading 52 (.iconst 3) 1 53 := ⟨by decide +kernel, rfl⟩
theorem e_X8_reading_53 : Dc cX8_reading 53 (.iaload) 1 54 := ⟨by decide +kernel, rfl⟩
theorem e_X8_reading_54 : Dc cX8_reading 54 (.imul) 1 55 := ⟨by decide +kernel, rfl⟩
theorem e_X8_reading_55 : Dc cX8_reading 55 (.iadd) 1 56 := ⟨by decide +kernel, rfl⟩
theorem e_X8_reading_56 : Dc cX8_reading 56 (.istore 4) 2 58 := ⟨by decide +kernel, rfl⟩
theorem e_X8_reading_58 : Dc cX8_reading 58 (.aload_n 0) 1 59 := ⟨by decide +kernel, rfl⟩
theorem e_X8_reading_59 : Dc cX8_reading 59 (.getfield 7) 3 62 := ⟨by decide +kernel, rfl⟩
theorem e_X8_reading_62 : Dc cX8_reading 62 (.iload 4) 2 64 := ⟨by decide +kernel, rfl⟩
theorem e_X8_reading_64 : Dc cX8_reading 64 (.iload_n 1) 1 65 := ⟨by decide +kernel, rfl⟩
theorem e_X8_reading_65 : Dc cX8_reading 65 (.iastore) 1 66 := ⟨by decide +kernel, rfl⟩
theorem e_X8_reading_66 : Dc cX8_reading 66 (.aload_n 0) 1 67 := ⟨by decide +kernel, rfl⟩
theorem e_X8_reading_67 : Dc cX8_reading 67 (.getfield 7) 3 70 := ⟨by decide +kernel, rfl⟩
theorem e_X8_reading_70 : Dc cX8_reading 70 (.iload 4) 2 72 := ⟨by decide +kernel, rfl⟩
theorem e_X8_reading_72 : Dc cX8_reading 72 (.iconst 1) 1 73 := ⟨by decide +kernel, rfl⟩
theorem e_X8_reading_73 : Dc cX8_reading 73 (.iadd) 1 74 := ⟨by decide +kernel, rfl⟩
theorem e_X8_reading_74 : Dc cX8_reading 74 (.iload_n 2) 1 75 := ⟨by decide +kernel, rfl⟩
theorem e_X8_reading_75 : Dc cX8_reading 75 (.iastore) 1 76 := ⟨by decide +kernel, rfl⟩
theorem e_X8_reading_76 : Dc cX8_reading 76 (.aload_n 0) 1 77 := ⟨by decide +kernel, rfl⟩
theorem e_X8_reading_77 : Dc cX8_reading 77 (.getfield 7) 3 80 := ⟨by decide +kernel, rfl⟩
theorem e_X8_reading_80 : Dc cX8_reading 80 (.iload 4) 2 82 := ⟨by decide +kernel, rfl⟩
theorem e_X8_reading_82 : Dc cX8_reading 82 (.iconst 2) 1 83 := ⟨by decide +kernel, rfl⟩
theorem e_X8_reading_83 : Dc cX8_reading 83 (.iadd) 1 84 := ⟨by decide +kernel, rfl⟩
theorem e_X8_reading_84 : Dc cX8_reading 84 (.iload_n 3) 1 85 := ⟨by decide +kernel, rfl⟩
theorem e_X8_reading_85 : Dc cX8_reading 85 (.iastore) 1 86 := ⟨by decide +kernel, rfl⟩
theorem e_X8_reading_86 : Dc cX8_reading 86 (.aload_n 0) 1 87 := ⟨by decide +kernel, rfl⟩
theorem e_X8_reading_87 : Dc cX8_reading 87 (.getfield 7) 3 90 := ⟨by decide +kernel, rfl⟩
theorem e_X8_reading_90 : Dc cX8_reading 90 (.iconst 3) 1 91 := ⟨by decide +kernel, rfl⟩
theorem e_X8_reading_91 : Dc cX8_reading 91 (.dup2) 1 92 := ⟨by decide +kernel, rfl⟩
theorem e_X8_reading_92 : Dc cX8_reading 92 (.iaload) 1 93 := ⟨by decide +kernel, rfl⟩
theorem e_X8_reading_93 : Dc cX8_reading 93 (.iconst 1) 1 94 := ⟨by decide +kernel, rfl⟩
theorem e_X8_reading_94 : Dc cX8_reading 94 (.iadd) 1 95 := ⟨by decide +kernel, rfl⟩
theorem e_X8_reading_95 : Dc cX8_reading 95 (.iastore) 1 96 := ⟨by decide +kernel, rfl⟩
theorem e_X8_reading_96 : Dc cX8_reading 96 (.aload_n 0) 1 97 := ⟨by decide +kernel, rfl⟩
theorem e_X8_reading_97 : Dc cX8_reading 97 (.getfield 7) 3 100 := ⟨by decide +kernel, rfl⟩
theorem e_X8_reading_100 : Dc cX8_reading 100 (.iconst 3) 1 101 := ⟨by decide +kernel, rfl⟩
theorem e_X8_reading_101 : Dc cX8_reading 101 (.iaload) 1 102 := ⟨by decide +kernel, rfl⟩
theorem e_X8_reading_102 : Dc cX8_reading 102 (.iconst 1) 1 103 := ⟨by decide +kernel, rfl⟩
theorem e_X8_reading_103 : Dc cX8_reading 103 (.isub) 1 104 := ⟨by decide +kernel, rfl⟩
theorem e_X8_reading_104 : Dc cX8_reading 104 (.ireturn) 1 105 := ⟨by decide +kernel, rfl⟩
set_option maxHeartbeats 4000000 in
set_option maxRecDepth 20000 in
theorem R_X8_reading (hD : DD E) (x1 : Int32) (x2 : Int32) (x3 : Int32) (s : Sg) : ∀ v τ, (f_X8_reading x1 x2 x3 s) = some (v, τ) → RI l E 2 M_X8_reading [.ref (ead E 70), .int x1, .int x2, .int x3] s v τ := by
  refine ofI hD (by decide +kernel) (Nat.le_of_ble_eq_true rfl) (fun X C => ?_)
  show MF l E X (fun q : Int32 × Sg => QI E X q.1 q.2) (f_X8_reading x1 x2 x3 s) s 0 [(0, .ref (ead E 70)), (1, .int x1), (2, .int x2), (3, .int x3)] []
  unfold f_X8_reading
  refine MF.aload_n C e_X8_reading_0 0 rfl rfl ?_
  refine MF.iload_n C e_X8_reading_1 1 rfl rfl ?_
  refine MF.callVP (As := [.int x1]) C (R_X8_isStreet hD x1 s) m_X8_isStreet k_X8_113 kO_70 rfl (by decide) e_X8_reading_2 rfl rfl (Nat.le_of_ble_eq_true rfl) (fun v1 => ?_)
  refine MF.if_eq (tgt := 22) C e_X8_reading_5 (by decide) (fun _ => ?_) (fun _ => ?_)
  · refine MF.aload_n C e_X8_reading_22 0 rfl rfl ?_
    refine MF.bipush (v := (-2 : Int32)) C e_X8_reading_23 (by decide) ?_
    refine MF.callVI (As := [.int (-2 : Int32)]) C (R_X8_bad hD (-2 : Int32) s) m_X8_bad k_X8_88 kO_70 rfl (by decide) e_X8_reading_25 rfl rfl (Nat.le_of_ble_eq_true rfl) (fun v2 s3 => ?_)
    exact MF.iret C e_X8_reading_28
  · refine MF.iload_n C e_X8_reading_8 2 rfl rfl ?_
    refine MF.callSP (As := [.int x2]) C (R_X8_isHour hD x2 s) m_X8_isHour k_X8_116 (by decide) e_X8_reading_9 rfl rfl (Nat.le_of_ble_eq_true rfl) (fun v4 => ?_)
    refine MF.if_eq (tgt := 22) C e_X8_reading_12 (by decide) (fun _ => ?_) (fun _ => ?_)
    · refine MF.aload_n C e_X8_reading_22 0 rfl rfl ?_
      refine MF.bipush (v := (-2 : Int32)) C e_X8_reading_23 (by decide) ?_
      refine MF.callVI (As := [.int (-2 : Int32)]) C (R_X8_bad hD (-2 : Int32) s) m_X8_bad k_X8_88 kO_70 rfl (by decide) e_X8_reading_25 rfl rfl (Nat.le_of_ble_eq_true rfl) (fun v5 s6 => ?_)
      exact MF.iret C e_X8_reading_28
    · refine MF.iload_n C e_X8_reading_15 3 rfl rfl ?_
      refine MF.callSP (As := [.int x3]) C (R_X8_isWord hD x3 s) m_X8_isWord k_X8_100 (by decide) e_X8_reading_16 rfl rfl (Nat.le_of_ble_eq_true rfl) (fun v7 => ?_)
      refine MF.if_ne (tgt := 29) C e_X8_reading_19 (by decide) (fun _ => ?_) (fun _ => ?_)
      · refine MF.aload_n C e_X8_reading_29 0 rfl rfl ?_
        refine MF.getR (j := 71) C cf_X8 l_X8_7 e_X8_reading_30 kF_70_0 ?_
        refine MF.iconst (v := (nI 3)) C e_X8_reading_33 rfl ?_
        refine MF.iald C e_X8_reading_34 kA_71 (fun v8 => ?_)
        refine MF.bipush (v := (nI 6)) C e_X8_reading_35 (by decide) ?_
        refine MF.icmp_ne (tgt := 45) C e_X8_reading_37 (by decide) (fun _ => ?_) (fun _ => ?_)
        · refine MF.bipush (v := (nI 97)) C e_X8_reading_45 (by decide) ?_
          refine MF.iconst (v := (nI 3)) C e_X8_reading_47 rfl ?_
          refine MF.aload_n C e_X8_reading_48 0 rfl rfl ?_
          refine MF.getR (j := 71) C cf_X8 l_X8_7 e_X8_reading_49 kF_70_0 ?_
          refine MF.iconst (v := (nI 3)) C e_X8_reading_52 rfl ?_
          refine MF.iald C e_X8_reading_53 kA_71 (fun v9 => ?_)
          refine MF.imul C e_X8_reading_54 ?_
          refine MF.iadd C e_X8_reading_55 ?_
          refine MF.nmI (fun v10 => ?_)
          refine MF.istore (lv' := [(0, .ref (ead E 70)), (1, .int x1), (2, .int x2), (3, .int x3), (4, .int v10)]) C e_X8_reading_56 (by decide) rfl ?_
          refine MF.aload_n C e_X8_reading_58 0 rfl rfl ?_
          refine MF.getR (j := 71) C cf_X8 l_X8_7 e_X8_reading_59 kF_70_0 ?_
          refine MF.iload C e_X8_reading_62 4 rfl ?_
          refine MF.iload_n C e_X8_reading_64 1 rfl rfl ?_
          refine MF.iast C e_X8_reading_65 kA_71 (fun s11 => ?_)
          refine MF.aload_n C e_X8_reading_66 0 rfl rfl ?_
          refine MF.getR (j := 71) C cf_X8 l_X8_7 e_X8_reading_67 kF_70_0 ?_
          refine MF.iload C e_X8_reading_70 4 rfl ?_
          refine MF.iconst (v := (nI 1)) C e_X8_reading_72 rfl ?_
          refine MF.iadd C e_X8_reading_73 ?_
          refine MF.iload_n C e_X8_reading_74 2 rfl rfl ?_
          refine MF.iast C e_X8_reading_75 kA_71 (fun s12 => ?_)
          refine MF.aload_n C e_X8_reading_76 0 rfl rfl ?_
          refine MF.getR (j := 71) C cf_X8 l_X8_7 e_X8_reading_77 kF_70_0 ?_
          refine MF.iload C e_X8_reading_80 4 rfl ?_
          refine MF.iconst (v := (nI 2)) C e_X8_reading_82 rfl ?_
          refine MF.iadd C e_X8_reading_83 ?_
          refine MF.iload_n C e_X8_reading_84 3 rfl rfl ?_
          refine MF.iast C e_X8_reading_85 kA_71 (fun s13 => ?_)
          refine MF.aload_n C e_X8_reading_86 0 rfl rfl ?_
          refine MF.getR (j := 71) C cf_X8 l_X8_7 e_X8_reading_87 kF_70_0 ?_
          refine MF.iconst (v := (nI 3)) C e_X8_reading_90 rfl ?_
          refine MF.dup2 C e_X8_reading_91 rfl rfl ?_
          refine MF.iald C e_X8_reading_92 kA_71 (fun v14 => ?_)
          refine MF.iconst (v := (nI 1)) C e_X8_reading_93 rfl ?_
          refine MF.iadd C e_X8_reading_94 ?_
          refine MF.iast C e_X8_reading_95 kA_71 (fun s15 => ?_)
          refine MF.aload_n C e_X8_reading_96 0 rfl rfl ?_
          refine MF.getR (j := 71) C cf_X8 l_X8_7 e_X8_reading_97 kF_70_0 ?_
          refine MF.iconst (v := (nI 3)) C e_X8_reading_100 rfl ?_
          refine MF.iald C e_X8_reading_101 kA_71 (fun v16 => ?_)
          refine MF.iconst (v := (nI 1)) C e_X8_reading_102 rfl ?_
          refine MF.isub C e_X8_reading_103 ?_
          exact MF.iret C e_X8_reading_104
        · refine MF.aload_n C e_X8_reading_40 0 rfl rfl ?_
          refine MF.callVI (As := []) C (R_X8_full hD s) m_X8_full k_X8_104 kO_70 rfl (by decide) e_X8_reading_41 rfl rfl (Nat.le_of_ble_eq_true rfl) (fun v17 s18 => ?_)
          exact MF.iret C e_X8_reading_44
      · refine MF.aload_n C e_X8_reading_22 0 rfl rfl ?_
        refine MF.bipush (v := (-2 : Int32)) C e_X8_reading_23 (by decide) ?_
        refine MF.callVI (As := [.int (-2 : Int32)]) C (R_X8_bad hD (-2 : Int32) s) m_X8_bad k_X8_88 kO_70 rfl (by decide) e_X8_reading_25 rfl rfl (Nat.le_of_ble_eq_true rfl) (fun v19 s20 => ?_)
        exact MF.iret C e_X8_reading_28
theorem e_X8_burn_0 : Dc cX8_burn 0 (.aload_n 0) 1 1 := ⟨by decide +kernel, rfl⟩
theorem e_X8_burn_1 : Dc cX8_burn 1 (.getfield 7) 3 4 := ⟨by decide +kernel, rfl⟩
theorem e_X8_burn_4 : Dc cX8_burn 4 (.iconst 3) 1 5 := ⟨by decide +kernel, rfl⟩
theorem e_X8_burn_5 : Dc cX8_burn 5 (.iaload) 1 6 := ⟨by decide +kernel, rfl⟩
theorem e_X8_burn_6 : Dc cX8_burn 6 (.istore_n 1) 1 7 := ⟨by decide +kernel, rfl⟩
theorem e_X8_burn_7 : Dc cX8_burn 7 (.aload_n 0) 1 8 := ⟨by decide +kernel, rfl⟩
theorem e_X8_burn_8 : Dc cX8_burn 8 (.getfield 7) 3 11 := ⟨by decide +kernel, rfl⟩
theorem e_X8_burn_11 : Dc cX8_burn 11 (.iconst 3) 1 12 := ⟨by decide +kernel, rfl⟩
theorem e_X8_burn_12 : Dc cX8_burn 12 (.iconst 0) 1 13 := ⟨by decide +kernel, rfl⟩
theorem e_X8_burn_13 : Dc cX8_burn 13 (.iastore) 1 14 := ⟨by decide +kernel, rfl⟩
theorem e_X8_burn_14 : Dc cX8_burn 14 (.iload_n 1) 1 15 := ⟨by decide +kernel, rfl⟩
theorem e_X8_burn_15 : Dc cX8_burn 15 (.ireturn) 1 16 := ⟨by decide +kernel, rfl⟩
set_option maxHeartbeats 4000000 in
set_option maxRecDepth 20000 in
theorem R_X8_burn (hD : DD E) (s : Sg) : ∀ v τ, (f_X8_burn s) = some (v, τ) → RI l E 0 M_X8_burn [.ref (ead E 70)] s v τ := by
  refine ofI hD (by decide +kernel) (Nat.le_of_ble_eq_true rfl) (fun X C => ?_)
  show MF l E X (fun q : Int32 × Sg => QI E X q.1 q.2) (f_X8_burn s) s 0 [(0, .ref (ead E 70))] []
  unfold f_X8_burn
  refine MF.aload_n C e_X8_burn_0 0 rfl rfl ?_
  refine MF.getR (j := 71) C cf_X8 l_X8_7 e_X8_burn_1 kF_70_0 ?_
  refine MF.iconst (v := (nI 3)) C e_X8_burn_4 rfl ?_
  refine MF.iald C e_X8_burn_5 kA_71 (fun v1 => ?_)
  refine MF.istore_n (lv' := [(0, .ref (ead E 70)), (1, .int v1)]) C e_X8_burn_6 (by decide) rfl ?_
  refine MF.aload_n C e_X8_burn_7 0 rfl rfl ?_
  refine MF.getR (j := 71) C cf_X8 l_X8_7 e_X8_burn_8 kF_70_0 ?_
  refine MF.iconst (v := (nI 3)) C e_X8_burn_11 rfl ?_
  refine MF.iconst (v := (nI 0)) C e_X8_burn_12 rfl ?_
  refine MF.iast C e_X8_burn_13 kA_71 (fun s2 => ?_)
  refine MF.iload_n C e_X8_burn_14 1 rfl rfl ?_
  exact MF.iret C e_X8_burn_15
theorem e_X8_areRead_0 : Dc cX8_areRead 0 (.iconst 1) 1 1 := ⟨by decide +kernel, rfl⟩
theorem e_X8_areRead_1 : Dc cX8_areRead 1 (.istore_n 1) 1 2 := ⟨by decide +kernel, rfl⟩
theorem e_X8_areRead_2 : Dc cX8_areRead 2 (.iconst 0) 1 3 := ⟨by decide +kernel, rfl⟩
theorem e_X8_areRead_3 : Dc cX8_areRead 3 (.istore_n 2) 1 4 := ⟨by decide +kernel, rfl⟩
theorem e_X8_areRead_4 : Dc cX8_areRead 4 (.iload_n 2) 1 5 := ⟨by decide +kernel, rfl⟩
theorem e_X8_areRead_5 : Dc cX8_areRead 5 (.aload_n 0) 1 6 := ⟨by decide +kernel, rfl⟩
theorem e_X8_areRead_6 : Dc cX8_areRead 6 (.getfield 7) 3 9 := ⟨by decide +kernel, rfl⟩
theorem e_X8_areRead_9 : Dc cX8_areRead 9 (.iconst 3) 1 10 := ⟨by decide +kernel, rfl⟩
theorem e_X8_areRead_10 : Dc cX8_areRead 10 (.iaload) 1 11 := ⟨by decide +kernel, rfl⟩
theorem e_X8_areRead_11 : Dc cX8_areRead 11 (.if_icmp .ge 60) 3 14 := ⟨by decide +kernel, rfl⟩
theorem e_X8_areRead_14 : Dc cX8_areRead 14 (.bipush 97) 2 16 := ⟨by decide +kernel, rfl⟩
theorem e_X8_areRead_16 : Dc cX8_areRead 16 (.iconst 3) 1 17 := ⟨by decide +kernel, rfl⟩
theorem e_X8_areRead_17 : Dc cX8_areRead 17 (.iload_n 2) 1 18 := ⟨by decide +kernel, rfl⟩
theorem e_X8_areRead_18 : Dc cX8_areRead 18 (.imul) 1 19 := ⟨by decide +kernel, rfl⟩
theorem e_X8_areRead_19 : Dc cX8_areRead 19 (.iadd) 1 20 := ⟨by decide +kernel, rfl⟩
theorem e_X8_areRead_20 : Dc cX8_areRead 20 (.istore_n 3) 1 21 := ⟨by decide +kernel, rfl⟩
theorem e_X8_areRead_21 : Dc cX8_areRead 21 (.iload_n 1) 1 22 := ⟨by decide +kernel, rfl⟩
theorem e_X8_areRead_22 : Dc cX8_areRead 22 (.ifCond .eq 41) 3 25 := ⟨by decide +kernel, rfl⟩
theorem e_X8_areRead_25 : Dc cX8_areRead 25 (.aload_n 0) 1 26 := ⟨by decide +kernel, rfl⟩
theorem e_X8_areRead_26 : Dc cX8_areRead 26 (.getfield 23) 3 29 := ⟨by decide +kernel, rfl⟩
theorem e_X8_areRead_29 : Dc cX8_areRead 29 (.bipush 7) 2 31 := ⟨by decide +kernel, rfl⟩
theorem e_X8_areRead_31 : Dc cX8_areRead 31 (.aload_n 0) 1 32 := ⟨by decide +kernel, rfl⟩
theorem e_X8_areRead_32 : Dc cX8_areRead 32 (.getfield 7) 3 35 := ⟨by decide +kernel, rfl⟩
theorem e_X8_areRead_35 : Dc cX8_areRead 35 (.iload_n 3) 1 36 := ⟨by decide +kernel, rfl⟩
theorem e_X8_areRead_36 : Dc cX8_areRead 36 (.iconst 1) 1 37 := ⟨by decide +kernel, rfl⟩
theorem e_X8_areRead_37 : Dc cX8_areRead 37 (.iadd) 1 38 := ⟨by decide +kernel, rfl⟩
theorem e_X8_areRead_38 : Dc cX8_areRead 38 (.iaload) 1 39 := ⟨by decide +kernel, rfl⟩
theorem e_X8_areRead_39 : Dc cX8_areRead 39 (.imul) 1 40 := ⟨by decide +kernel, rfl⟩
theorem e_X8_areRead_40 : Dc cX8_areRead 40 (.aload_n 0) 1 41 := ⟨by decide +kernel, rfl⟩
theorem e_X8_areRead_41 : Dc cX8_areRead 41 (.getfield 7) 3 44 := ⟨by decide +kernel, rfl⟩
theorem e_X8_areRead_44 : Dc cX8_areRead 44 (.iload_n 3) 1 45 := ⟨by decide +kernel, rfl⟩
theorem e_X8_areRead_45 : Dc cX8_areRead 45 (.iaload) 1 46 := ⟨by decide +kernel, rfl⟩
theorem e_X8_areRead_46 : Dc cX8_areRead 46 (.iadd) 1 47 := ⟨by decide +kernel, rfl⟩
theorem e_X8_areRead_47 : Dc cX8_areRead 47 (.iaload) 1 48 := ⟨by decide +kernel, rfl⟩
theorem e_X8_areRead_48 : Dc cX8_areRead 48 (.aload_n 0) 1 49 := ⟨by decide +kernel, rfl⟩
theorem e_X8_areRead_49 : Dc cX8_areRead 49 (.getfield 7) 3 52 := ⟨by decide +kernel, rfl⟩
theorem e_X8_areRead_52 : Dc cX8_areRead 52 (.iload_n 3) 1 53 := ⟨by decide +kernel, rfl⟩
theorem e_X8_areRead_53 : Dc cX8_areRead 53 (.iconst 2) 1 54 := ⟨by decide +kernel, rfl⟩
theorem e_X8_areRead_54 : Dc cX8_areRead 54 (.iadd) 1 55 := ⟨by decide +kernel, rfl⟩
theorem e_X8_areRead_55 : Dc cX8_areRead 55 (.iaload) 1 56 := ⟨by decide +kernel, rfl⟩
theorem e_X8_areRead_56 : Dc cX8_areRead 56 (.if_icmp .ne 7) 3 59 := ⟨by decide +kernel, rfl⟩
theorem e_X8_areRead_59 : Dc cX8_areRead 59 (.iconst 1) 1 60 := ⟨by decide +kernel, rfl⟩
theorem e_X8_areRead_60 : Dc cX8_areRead 60 (.goto 4) 3 63 := ⟨by decide +kernel, rfl⟩
theorem e_X8_areRead_63 : Dc cX8_areRead 63 (.iconst 0) 1 64 := ⟨by decide +kernel, rfl⟩
theorem e_X8_areRead_64 : Dc cX8_areRead 64 (.istore_n 1) 1 65 := ⟨by decide +kernel, rfl⟩
theorem e_X8_areRead_65 : Dc cX8_areRead 65 (.iinc 2 1) 3 68 := ⟨by decide +kernel, rfl⟩
theorem e_X8_areRead_68 : Dc cX8_areRead 68 (.goto (-64)) 3 71 := ⟨by decide +kernel, rfl⟩
theorem e_X8_areRead_71 : Dc cX8_areRead 71 (.iload_n 1) 1 72 := ⟨by decide +kernel, rfl⟩
theorem e_X8_areRead_72 : Dc cX8_areRead 72 (.ireturn) 1 73 := ⟨by decide +kernel, rfl⟩
set_option maxHeartbeats 4000000 in
set_option maxRecDepth 20000 in
theorem R_X8_areRead (hD : DD E) (s : Sg) : ∀ v, (f_X8_areRead s) = some v → RI l E 0 M_X8_areRead [.ref (ead E 70)] s v s := by
  refine ofP hD (by decide +kernel) (Nat.le_of_ble_eq_true rfl) (fun X C => ?_)
  show MF l E X (fun q : Int32 => QI E X q s) (f_X8_areRead s) s 0 [(0, .ref (ead E 70))] []
  unfold f_X8_areRead
  refine MF.iconst (v := (nI 1)) C e_X8_areRead_0 rfl ?_
  refine MF.istore_n (lv' := [(0, .ref (ead E 70)), (1, .int (nI 1))]) C e_X8_areRead_1 (by decide) rfl ?_
  refine MF.iconst (v := (nI 0)) C e_X8_areRead_2 rfl ?_
  refine MF.istore_n (lv' := [(0, .ref (ead E 70)), (1, .int (nI 1)), (2, .int (nI 0))]) C e_X8_areRead_3 (by decide) rfl ?_
  refine MF.loop2 (fun i1 i2 => s) (fun i1 i2 => [(0, .ref (ead E 70)), (1, .int i1), (2, .int i2)]) (fun self3 hself3 i1 i2 => ?_) fu (nI 1) (nI 0)
  unfold b_X8_areRead_4
  refine MF.iload_n C e_X8_areRead_4 2 rfl rfl ?_
  refine MF.aload_n C e_X8_areRead_5 0 rfl rfl ?_
  refine MF.getR (j := 71) C cf_X8 l_X8_7 e_X8_areRead_6 kF_70_0 ?_
  refine MF.iconst (v := (nI 3)) C e_X8_areRead_9 rfl ?_
  refine MF.iald C e_X8_areRead_10 kA_71 (fun v4 => ?_)
  refine MF.icmp_ge (tgt := 71) C e_X8_areRead_11 (by decide) (fun _ => ?_) (fun _ => ?_)
  · refine MF.iload_n C e_X8_areRead_71 1 rfl rfl ?_
    exact MF.nretp C e_X8_areRead_72 rfl
  · refine MF.bipush (v := (nI 97)) C e_X8_areRead_14 (by decide) ?_
    refine MF.iconst (v := (nI 3)) C e_X8_areRead_16 rfl ?_
    refine MF.iload_n C e_X8_areRead_17 2 rfl rfl ?_
    refine MF.imul C e_X8_areRead_18 ?_
    refine MF.iadd C e_X8_areRead_19 ?_
    refine MF.nmI (fun v5 => ?_)
    refine MF.istore_n (lv' := [(0, .ref (ead E 70)), (1, .int i1), (2, .int i2), (3, .int v5)]) C e_X8_areRead_20 (by decide) rfl ?_
    refine MF.iload_n C e_X8_areRead_21 1 rfl rfl ?_
    refine MF.join (fun j : Int32 → Option Int32 => ∀ (a6 : Int32), MF l E X (fun q : Int32 => QI E X q s) (j a6) s 64 [(0, .ref (ead E 70)), (2, .int i2)] [.int a6]) ?_ (fun j7 hj7 => ?_)
    · intro a6
      refine MF.istore_n (lv' := [(0, .ref (ead E 70)), (1, .int a6), (2, .int i2)]) C e_X8_areRead_64 (by decide) rfl ?_
      refine MF.iinc (v := (nI 1)) (lv' := [(0, .ref (ead E 70)), (1, .int a6), (2, .int (i2 + (nI 1)))]) C e_X8_areRead_65 2 rfl rfl (by decide) rfl ?_
      refine MF.goto (tgt := 4) C e_X8_areRead_68 (by decide) ?_
      exact hself3 a6 (i2 + (nI 1))
    refine MF.join (fun j : Unit → Option Int32 => ∀ (_u : Unit), MF l E X (fun q : Int32 => QI E X q s) (j _u) s 63 [(0, .ref (ead E 70)), (2, .int i2)] []) ?_ (fun j8 hj8 => ?_)
    · intro _
      refine MF.iconst (v := (nI 0)) C e_X8_areRead_63 rfl ?_
      exact hj7 (nI 0)
    refine MF.if_eq (tgt := 63) C e_X8_areRead_22 (by decide) (fun _ => ?_) (fun _ => ?_)
    · refine MF.sub [0, 2] rfl ?_
      exact hj8 ()
    · refine MF.aload_n C e_X8_areRead_25 0 rfl rfl ?_
      refine MF.getR (j := 75) C cf_X8 l_X8_23 e_X8_areRead_26 kF_70_4 ?_
      refine MF.bipush (v := (nI 7)) C e_X8_areRead_29 (by decide) ?_
      refine MF.aload_n C e_X8_areRead_31 0 rfl rfl ?_
      refine MF.getR (j := 71) C cf_X8 l_X8_7 e_X8_areRead_32 kF_70_0 ?_
      refine MF.iload_n C e_X8_areRead_35 3 rfl rfl ?_
      refine MF.iconst (v := (nI 1)) C e_X8_areRead_36 rfl ?_
      refine MF.iadd C e_X8_areRead_37 ?_
      refine MF.iald C e_X8_areRead_38 kA_71 (fun v9 => ?_)
      refine MF.imul C e_X8_areRead_39 ?_
      refine MF.aload_n C e_X8_areRead_40 0 rfl rfl ?_
      refine MF.getR (j := 71) C cf_X8 l_X8_7 e_X8_areRead_41 kF_70_0 ?_
      refine MF.iload_n C e_X8_areRead_44 3 rfl rfl ?_
      refine MF.iald C e_X8_areRead_45 kA_71 (fun v10 => ?_)
      refine MF.iadd C e_X8_areRead_46 ?_
      refine MF.iald C e_X8_areRead_47 kA_75 (fun v11 => ?_)
      refine MF.aload_n C e_X8_areRead_48 0 rfl rfl ?_
      refine MF.getR (j := 71) C cf_X8 l_X8_7 e_X8_areRead_49 kF_70_0 ?_
      refine MF.iload_n C e_X8_areRead_52 3 rfl rfl ?_
      refine MF.iconst (v := (nI 2)) C e_X8_areRead_53 rfl ?_
      refine MF.iadd C e_X8_areRead_54 ?_
      refine MF.iald C e_X8_areRead_55 kA_71 (fun v12 => ?_)
      refine MF.icmp_ne (tgt := 63) C e_X8_areRead_56 (by decide) (fun _ => ?_) (fun _ => ?_)
      · refine MF.sub [0, 2] rfl ?_
        exact hj8 ()
      · refine MF.iconst (v := (nI 1)) C e_X8_areRead_59 rfl ?_
        refine MF.goto (tgt := 64) C e_X8_areRead_60 (by decide) ?_
        refine MF.sub [0, 2] rfl ?_
        exact hj7 (nI 1)
theorem e_X8_truly_0 : Dc cX8_truly 0 (.iload_n 1) 1 1 := ⟨by decide +kernel, rfl⟩
theorem e_X8_truly_1 : Dc cX8_truly 1 (.i2l) 1 2 := ⟨by decide +kernel, rfl⟩
theorem e_X8_truly_2 : Dc cX8_truly 2 (.lconst 0) 1 3 := ⟨by decide +kernel, rfl⟩
theorem e_X8_truly_3 : Dc cX8_truly 3 (.lconst 1) 1 4 := ⟨by decide +kernel, rfl⟩
theorem e_X8_truly_4 : Dc cX8_truly 4 (.invokestatic 75) 3 7 := ⟨by decide +kernel, rfl⟩
theorem e_X8_truly_7 : Dc cX8_truly 7 (.ifCond .ne 10) 3 10 := ⟨by decide +kernel, rfl⟩
theorem e_X8_truly_10 : Dc cX8_truly 10 (.aload_n 0) 1 11 := ⟨by decide +kernel, rfl⟩
theorem e_X8_truly_11 : Dc cX8_truly 11 (.bipush (-10)) 2 13 := ⟨by decide +kernel, rfl⟩
theorem e_X8_truly_13 : Dc cX8_truly 13 (.invokevirtual 88) 3 16 := ⟨by decide +kernel, rfl⟩
theorem e_X8_truly_16 : Dc cX8_truly 16 (.ireturn) 1 17 := ⟨by decide +kernel, rfl⟩
theorem e_X8_truly_17 : Dc cX8_truly 17 (.iconst 0) 1 18 := ⟨by decide +kernel, rfl⟩
theorem e_X8_truly_18 : Dc cX8_truly 18 (.istore_n 2) 1 19 := ⟨by decide +kernel, rfl⟩
theorem e_X8_truly_19 : Dc cX8_truly 19 (.aload_n 0) 1 20 := ⟨by decide +kernel, rfl⟩
theorem e_X8_truly_20 : Dc cX8_truly 20 (.invokevirtual 169) 3 23 := ⟨by decide +kernel, rfl⟩
theorem e_X8_truly_23 : Dc cX8_truly 23 (.istore_n 3) 1 24 := ⟨by decide +kernel, rfl⟩
theorem e_X8_truly_24 : Dc cX8_truly 24 (.aload_n 0) 1 25 := ⟨by decide +kernel, rfl⟩
theorem e_X8_truly_25 : Dc cX8_truly 25 (.iconst 0) 1 26 := ⟨by decide +kernel, rfl⟩
theorem e_X8_truly_26 : Dc cX8_truly 26 (.putfield 165) 3 29 := ⟨by decide +kernel, rfl⟩
theorem e_X8_truly_29 : Dc cX8_truly 29 (.iconst 0) 1 30 := ⟨by decide +kernel, rfl⟩
theorem e_X8_truly_30 : Dc cX8_truly 30 (.istore 4) 2 32 := ⟨by decide +kernel, rfl⟩
theorem e_X8_truly_32 : Dc cX8_truly 32 (.iload 4) 2 34 := ⟨by decide +kernel, rfl⟩
theorem e_X8_truly_34 : Dc cX8_truly 34 (.iconst 1) 1 35 := ⟨by decide +kernel, rfl⟩
theorem e_X8_truly_35 : Dc cX8_truly 35 (.aload_n 0) 1 36 := ⟨by decide +kernel, rfl⟩
theorem e_X8_truly_36 : Dc cX8_truly 36 (.invokevirtual 79) 3 39 := ⟨by decide +kernel, rfl⟩
theorem e_X8_truly_39 : Dc cX8_truly 39 (.ishl) 1 40 := ⟨by decide +kernel, rfl⟩
theorem e_X8_truly_40 : Dc cX8_truly 40 (.if_icmp .ge 48) 3 43 := ⟨by decide +kernel, rfl⟩
theorem e_X8_truly_43 : Dc cX8_truly 43 (.aload_n 0) 1 44 := ⟨by decide +kernel, rfl⟩
theorem e_X8_truly_44 : Dc cX8_truly 44 (.iload 4) 2 46 := ⟨by decide +kernel, rfl⟩
theorem e_X8_truly_46 : Dc cX8_truly 46 (.invokevirtual 172) 3 49 := ⟨by decide +kernel, rfl⟩
theorem e_X8_truly_49 : Dc cX8_truly 49 (.aload_n 0) 1 50 := ⟨by decide +kernel, rfl⟩
theorem e_X8_truly_50 : Dc cX8_truly 50 (.invokevirtual 228) 3 53 := ⟨by decide +kernel, rfl⟩
theorem e_X8_truly_53 : Dc cX8_truly 53 (.istore 5) 2 55 := ⟨by decide +kernel, rfl⟩
theorem e_X8_truly_55 : Dc cX8_truly 55 (.iload_n 2) 1 56 := ⟨by decide +kernel, rfl⟩
theorem e_X8_truly_56 : Dc cX8_truly 56 (.iload 5) 2 58 := ⟨by decide +kernel, rfl⟩
theorem e_X8_truly_58 : Dc cX8_truly 58 (.ifCond .eq 7) 3 61 := ⟨by decide +kernel, rfl⟩
theorem e_X8_truly_61 : Dc cX8_truly 61 (.iconst 1) 1 62 := ⟨by decide +kernel, rfl⟩
theorem e_X8_truly_62 : Dc cX8_truly 62 (.goto 4) 3 65 := ⟨by decide +kernel, rfl⟩
theorem e_X8_truly_65 : Dc cX8_truly 65 (.iconst 0) 1 66 := ⟨by decide +kernel, rfl⟩
theorem e_X8_truly_66 : Dc cX8_truly 66 (.iadd) 1 67 := ⟨by decide +kernel, rfl⟩
theorem e_X8_truly_67 : Dc cX8_truly 67 (.istore_n 2) 1 68 := ⟨by decide +kernel, rfl⟩
theorem e_X8_truly_68 : Dc cX8_truly 68 (.iload_n 3) 1 69 := ⟨by decide +kernel, rfl⟩
theorem e_X8_truly_69 : Dc cX8_truly 69 (.iload 5) 2 71 := ⟨by decide +kernel, rfl⟩
theorem e_X8_truly_71 : Dc cX8_truly 71 (.ifCond .eq 8) 3 74 := ⟨by decide +kernel, rfl⟩
theorem e_X8_truly_74 : Dc cX8_truly 74 (.iload 4) 2 76 := ⟨by decide +kernel, rfl⟩
theorem e_X8_truly_76 : Dc cX8_truly 76 (.goto 4) 3 79 := ⟨by decide +kernel, rfl⟩
theorem e_X8_truly_79 : Dc cX8_truly 79 (.iconst (-1)) 1 80 := ⟨by decide +kernel, rfl⟩
theorem e_X8_truly_80 : Dc cX8_truly 80 (.iand) 1 81 := ⟨by decide +kernel, rfl⟩
theorem e_X8_truly_81 : Dc cX8_truly 81 (.istore_n 3) 1 82 := ⟨by decide +kernel, rfl⟩
theorem e_X8_truly_82 : Dc cX8_truly 82 (.iinc 4 1) 3 85 := ⟨by decide +kernel, rfl⟩
theorem e_X8_truly_85 : Dc cX8_truly 85 (.goto (-53)) 3 88 := ⟨by decide +kernel, rfl⟩
theorem e_X8_truly_88 : Dc cX8_truly 88 (.iload_n 1) 1 89 := ⟨by decide +kernel, rfl⟩
theorem e_X8_truly_89 : Dc cX8_truly 89 (.ifCond .ne 7) 3 92 := ⟨by decide +kernel, rfl⟩
theorem e_X8_truly_92 : Dc cX8_truly 92 (.iload_n 2) 1 93 := ⟨by decide +kernel, rfl⟩
theorem e_X8_truly_93 : Dc cX8_truly 93 (.goto 12) 3 96 := ⟨by decide +kernel, rfl⟩
theorem e_X8_truly_96 : Dc cX8_truly 96 (.iload_n 2) 1 97 := ⟨by decide +kernel, rfl⟩
theorem e_X8_truly_97 : Dc cX8_truly 97 (.ifCond .ne 7) 3 100 := ⟨by decide +kernel, rfl⟩
theorem e_X8_truly_100 : Dc cX8_truly 100 (.iconst (-1)) 1 101 := ⟨by decide +kernel, rfl⟩
theorem e_X8_truly_101 : Dc cX8_truly 101 (.goto 4) 3 104 := ⟨by decide +kernel, rfl⟩
theorem e_X8_truly_104 : Dc cX8_truly 104 (.iload_n 3) 1 105 := ⟨by decide +kernel, rfl⟩
theorem e_X8_truly_105 : Dc cX8_truly 105 (.ireturn) 1 106 := ⟨by decide +kernel, rfl⟩
set_option maxHeartbeats 4000000 in
set_option maxRecDepth 20000 in
theorem R_X8_truly (hD : DD E) (x1 : Int32) (s : Sg) : ∀ v τ, (f_X8_truly x1 s) = some (v, τ) → RI l E 5 M_X8_truly [.ref (ead E 70), .int x1] s v τ := by
  refine ofI hD (by decide +kernel) (Nat.le_of_ble_eq_true rfl) (fun X C => ?_)
  show MF l E X (fun q : Int32 × Sg => QI E X q.1 q.2) (f_X8_truly x1 s) s 0 [(0, .ref (ead E 70)), (1, .int x1)] []
  unfold f_X8_truly
  refine MF.iload_n C e_X8_truly_0 1 rfl rfl ?_
  refine MF.i2l C e_X8_truly_1 ?_
  refine MF.lconst (v := (0 : Int64)) C e_X8_truly_2 (by decide) ?_
  refine MF.lconst (v := (1 : Int64)) C e_X8_truly_3 (by decide) ?_
  refine MF.callSP (As := [.long (Int32.toInt64 x1), .long (0 : Int64), .long (1 : Int64)]) C (R_X8_in hD (Int32.toInt64 x1) (0 : Int64) (1 : Int64) s) m_X8_in k_X8_75 (by decide) e_X8_truly_4 rfl rfl (Nat.le_of_ble_eq_true rfl) (fun v1 => ?_)
  refine MF.if_ne (tgt := 17) C e_X8_truly_7 (by decide) (fun _ => ?_) (fun _ => ?_)
  · refine MF.iconst (v := (nI 0)) C e_X8_truly_17 rfl ?_
    refine MF.istore_n (lv' := [(0, .ref (ead E 70)), (1, .int x1), (2, .int (nI 0))]) C e_X8_truly_18 (by decide) rfl ?_
    refine MF.aload_n C e_X8_truly_19 0 rfl rfl ?_
    refine MF.callVP (As := []) C (R_X8_allEvents hD s) m_X8_allEvents k_X8_169 kO_70 rfl (by decide) e_X8_truly_20 rfl rfl (Nat.le_of_ble_eq_true rfl) (fun v2 => ?_)
    refine MF.istore_n (lv' := [(0, .ref (ead E 70)), (1, .int x1), (2, .int (nI 0)), (3, .int v2)]) C e_X8_truly_23 (by decide) rfl ?_
    refine MF.aload_n C e_X8_truly_24 0 rfl rfl ?_
    refine MF.iconst (v := (nI 0)) C e_X8_truly_25 rfl ?_
    refine MF.put C cf_X8 l_X8_165 p_X8_11 e_X8_truly_26 kF_70_11 rfl ?_
    refine MF.nmS (fun s3 => ?_)
    refine MF.iconst (v := (nI 0)) C e_X8_truly_29 rfl ?_
    refine MF.istore (lv' := [(0, .ref (ead E 70)), (1, .int x1), (2, .int (nI 0)), (3, .int v2), (4, .int (nI 0))]) C e_X8_truly_30 (by decide) rfl ?_
    refine MF.join (fun j : Int32 → Int32 → Sg → Option (Int32 × Sg) => ∀ (a4 : Int32) (a5 : Int32) (s6 : Sg), MF l E X (fun q : Int32 × Sg => QI E X q.1 q.2) (j a4 a5 s6) s6 88 [(1, .int x1), (2, .int a4), (3, .int a5)] []) ?_ (fun j7 hj7 => ?_)
    · intro a4 a5 s6
      refine MF.iload_n C e_X8_truly_88 0 rfl rfl ?_
      refine MF.if_ne (tgt := 96) C e_X8_truly_89 (by decide) (fun _ => ?_) (fun _ => ?_)
      · refine MF.iload_n C e_X8_truly_96 1 rfl rfl ?_
        refine MF.if_ne (tgt := 104) C e_X8_truly_97 (by decide) (fun _ => ?_) (fun _ => ?_)
        · refine MF.iload_n C e_X8_truly_104 2 rfl rfl ?_
          exact MF.iret C e_X8_truly_105
        · refine MF.iconst (v := (-1 : Int32)) C e_X8_truly_100 rfl ?_
          refine MF.goto (tgt := 105) C e_X8_truly_101 (by decide) ?_
          exact MF.iret C e_X8_truly_105
      · refine MF.iload_n C e_X8_truly_92 1 rfl rfl ?_
        refine MF.goto (tgt := 105) C e_X8_truly_93 (by decide) ?_
        exact MF.iret C e_X8_truly_105
    refine MF.loop4 (fun i8 i9 i10 s11 => s11) (fun i8 i9 i10 s11 => [(0, .ref (ead E 70)), (1, .int x1), (2, .int i8), (3, .int i9), (4, .int i10)]) (fun self12 hself12 i8 i9 i10 s11 => ?_) fu (nI 0) v2 (nI 0) s3
    unfold b_X8_truly_32
    refine MF.iload C e_X8_truly_32 4 rfl ?_
    refine MF.iconst (v := (nI 1)) C e_X8_truly_34 rfl ?_
    refine MF.aload_n C e_X8_truly_35 0 rfl rfl ?_
    refine MF.callVP (As := []) C (R_X8_events hD s11) m_X8_events k_X8_79 kO_70 rfl (by decide) e_X8_truly_36 rfl rfl (Nat.le_of_ble_eq_true rfl) (fun v13 => ?_)
    refine MF.ishl C e_X8_truly_39 ?_
    refine MF.icmp_ge (tgt := 88) C e_X8_truly_40 (by decide) (fun _ => ?_) (fun _ => ?_)
    · refine MF.sub [1, 2, 3] rfl ?_
      exact hj7 i8 i9 s11
    · refine MF.aload_n C e_X8_truly_43 0 rfl rfl ?_
      refine MF.iload C e_X8_truly_44 4 rfl ?_
      refine MF.callVU (As := [.int i10]) C (R_X8_run hD i10 s11) m_X8_run k_X8_172 kO_70 rfl (by decide) e_X8_truly_46 rfl rfl (Nat.le_of_ble_eq_true rfl) (fun s14 => ?_)
      refine MF.aload_n C e_X8_truly_49 0 rfl rfl ?_
      refine MF.callVP (As := []) C (R_X8_areRead hD s14) m_X8_areRead k_X8_228 kO_70 rfl (by decide) e_X8_truly_50 rfl rfl (Nat.le_of_ble_eq_true rfl) (fun v15 => ?_)
      refine MF.istore (lv' := [(0, .ref (ead E 70)), (1, .int x1), (2, .int i8), (3, .int i9), (4, .int i10), (5, .int v15)]) C e_X8_truly_53 (by decide) rfl ?_
      refine MF.iload_n C e_X8_truly_55 2 rfl rfl ?_
      refine MF.iload C e_X8_truly_56 5 rfl ?_
      refine MF.join (fun j : Int32 → Option (Int32 × Sg) => ∀ (a16 : Int32), MF l E X (fun q : Int32 × Sg => QI E X q.1 q.2) (j a16) s14 66 [(0, .ref (ead E 70)), (1, .int x1), (3, .int i9), (4, .int i10), (5, .int v15)] [.int a16, .int i8]) ?_ (fun j17 hj17 => ?_)
      · intro a16
        refine MF.iadd C e_X8_truly_66 ?_
        refine MF.nmI (fun v18 => ?_)
        refine MF.istore_n (lv' := [(0, .ref (ead E 70)), (1, .int x1), (2, .int v18), (3, .int i9), (4, .int i10), (5, .int v15)]) C e_X8_truly_67 (by decide) rfl ?_
        refine MF.iload_n C e_X8_truly_68 3 rfl rfl ?_
        refine MF.iload C e_X8_truly_69 5 rfl ?_
        refine MF.join (fun j : Int32 → Option (Int32 × Sg) => ∀ (a19 : Int32), MF l E X (fun q : Int32 × Sg => QI E X q.1 q.2) (j a19) s14 80 [(0, .ref (ead E 70)), (1, .int x1), (2, .int v18), (4, .int i10)] [.int a19, .int i9]) ?_ (fun j20 hj20 => ?_)
        · intro a19
          refine MF.iand C e_X8_truly_80 ?_
          refine MF.nmI (fun v21 => ?_)
          refine MF.istore_n (lv' := [(0, .ref (ead E 70)), (1, .int x1), (2, .int v18), (3, .int v21), (4, .int i10)]) C e_X8_truly_81 (by decide) rfl ?_
          refine MF.iinc (v := (nI 1)) (lv' := [(0, .ref (ead E 70)), (1, .int x1), (2, .int v18), (3, .int v21), (4, .int (i10 + (nI 1)))]) C e_X8_truly_82 4 rfl rfl (by decide) rfl ?_
          refine MF.goto (tgt := 32) C e_X8_truly_85 (by decide) ?_
          exact hself12 v18 v21 (i10 + (nI 1)) s14
        refine MF.if_eq (tgt := 79) C e_X8_truly_71 (by decide) (fun _ => ?_) (fun _ => ?_)
        · refine MF.iconst (v := (-1 : Int32)) C e_X8_truly_79 rfl ?_
          refine MF.sub [0, 1, 2, 4] rfl ?_
          exact hj20 (-1 : Int32)
        · refine MF.iload C e_X8_truly_74 4 rfl ?_
          refine MF.goto (tgt := 80) C e_X8_truly_76 (by decide) ?_
          refine MF.sub [0, 1, 2, 4] rfl ?_
          exact hj20 i10
      refine MF.if_eq (tgt := 65) C e_X8_truly_58 (by decide) (fun _ => ?_) (fun _ => ?_)
      · refine MF.iconst (v := (nI 0)) C e_X8_truly_65 rfl ?_
        refine MF.sub [0, 1, 3, 4, 5] rfl ?_
        exact hj17 (nI 0)
      · refine MF.iconst (v := (nI 1)) C e_X8_truly_61 rfl ?_
        refine MF.goto (tgt := 66) C e_X8_truly_62 (by decide) ?_
        refine MF.sub [0, 1, 3, 4, 5] rfl ?_
        exact hj17 (nI 1)
  · refine MF.aload_n C e_X8_truly_10 0 rfl rfl ?_
    refine MF.bipush (v := (-10 : Int32)) C e_X8_truly_11 (by decide) ?_
    refine MF.callVI (As := [.int (-10 : Int32)]) C (R_X8_bad hD (-10 : Int32) s) m_X8_bad k_X8_88 kO_70 rfl (by decide) e_X8_truly_13 rfl rfl (Nat.le_of_ble_eq_true rfl) (fun v22 s23 => ?_)
    exact MF.iret C e_X8_truly_16
theorem e_X8_drawn_0 : Dc cX8_drawn 0 (.iload_n 1) 1 1 := ⟨by decide +kernel, rfl⟩
theorem e_X8_drawn_1 : Dc cX8_drawn 1 (.i2l) 1 2 := ⟨by decide +kernel, rfl⟩
theorem e_X8_drawn_2 : Dc cX8_drawn 2 (.lconst 0) 1 3 := ⟨by decide +kernel, rfl⟩
theorem e_X8_drawn_3 : Dc cX8_drawn 3 (.ldc2_w 232) 3 6 := ⟨by decide +kernel, rfl⟩
theorem e_X8_drawn_6 : Dc cX8_drawn 6 (.invokestatic 75) 3 9 := ⟨by decide +kernel, rfl⟩
theorem e_X8_drawn_9 : Dc cX8_drawn 9 (.ifCond .eq 27) 3 12 := ⟨by decide +kernel, rfl⟩
theorem e_X8_drawn_12 : Dc cX8_drawn 12 (.iload_n 2) 1 13 := ⟨by decide +kernel, rfl⟩
theorem e_X8_drawn_13 : Dc cX8_drawn 13 (.i2l) 1 14 := ⟨by decide +kernel, rfl⟩
theorem e_X8_drawn_14 : Dc cX8_drawn 14 (.lconst 0) 1 15 := ⟨by decide +kernel, rfl⟩
theorem e_X8_drawn_15 : Dc cX8_drawn 15 (.ldc2_w 234) 3 18 := ⟨by decide +kernel, rfl⟩
theorem e_X8_drawn_18 : Dc cX8_drawn 18 (.invokestatic 75) 3 21 := ⟨by decide +kernel, rfl⟩
theorem e_X8_drawn_21 : Dc cX8_drawn 21 (.ifCond .eq 15) 3 24 := ⟨by decide +kernel, rfl⟩
theorem e_X8_drawn_24 : Dc cX8_drawn 24 (.iload_n 3) 1 25 := ⟨by decide +kernel, rfl⟩
theorem e_X8_drawn_25 : Dc cX8_drawn 25 (.i2l) 1 26 := ⟨by decide +kernel, rfl⟩
theorem e_X8_drawn_26 : Dc cX8_drawn 26 (.lconst 0) 1 27 := ⟨by decide +kernel, rfl⟩
theorem e_X8_drawn_27 : Dc cX8_drawn 27 (.ldc2_w 236) 3 30 := ⟨by decide +kernel, rfl⟩
theorem e_X8_drawn_30 : Dc cX8_drawn 30 (.invokestatic 75) 3 33 := ⟨by decide +kernel, rfl⟩
theorem e_X8_drawn_33 : Dc cX8_drawn 33 (.ifCond .ne 10) 3 36 := ⟨by decide +kernel, rfl⟩
theorem e_X8_drawn_36 : Dc cX8_drawn 36 (.aload_n 0) 1 37 := ⟨by decide +kernel, rfl⟩
theorem e_X8_drawn_37 : Dc cX8_drawn 37 (.bipush (-2)) 2 39 := ⟨by decide +kernel, rfl⟩
theorem e_X8_drawn_39 : Dc cX8_drawn 39 (.invokevirtual 88) 3 42 := ⟨by decide +kernel, rfl⟩
theorem e_X8_drawn_42 : Dc cX8_drawn 42 (.ireturn) 1 43 := ⟨by decide +kernel, rfl⟩
theorem e_X8_drawn_43 : Dc cX8_drawn 43 (.iload_n 1) 1 44 := ⟨by decide +kernel, rfl⟩
theorem e_X8_drawn_44 : Dc cX8_drawn 44 (.i2l) 1 45 := ⟨by decide +kernel, rfl⟩
theorem e_X8_drawn_45 : Dc cX8_drawn 45 (.lstore 4) 2 47 := ⟨by decide +kernel, rfl⟩
theorem e_X8_drawn_47 : Dc cX8_drawn 47 (.iconst 0) 1 48 := ⟨by decide +kernel, rfl⟩
theorem e_X8_drawn_48 : Dc cX8_drawn 48 (.istore 6) 2 50 := ⟨by decide +kernel, rfl⟩
theorem e_X8_drawn_50 : Dc cX8_drawn 50 (.aload_n 0) 1 51 := ⟨by decide +kernel, rfl⟩
theorem e_X8_drawn_51 : Dc cX8_drawn 51 (.iconst 0) 1 52 := ⟨by decide +kernel, rfl⟩
theorem e_X8_drawn_52 : Dc cX8_drawn 52 (.putfield 165) 3 55 := ⟨by decide +kernel, rfl⟩
theorem e_X8_drawn_55 : Dc cX8_drawn 55 (.iconst 0) 1 56 := ⟨by decide +kernel, rfl⟩
theorem e_X8_drawn_56 : Dc cX8_drawn 56 (.istore 7) 2 58 := ⟨by decide +kernel, rfl⟩
theorem e_X8_drawn_58 : Dc cX8_drawn 58 (.iload 7) 2 60 := ⟨by decide +kernel, rfl⟩
theorem e_X8_drawn_60 : Dc cX8_drawn 60 (.iload_n 2) 1 61 := ⟨by decide +kernel, rfl⟩
theorem e_X8_drawn_61 : Dc cX8_drawn 61 (.if_icmp .ge 111) 3 64 := ⟨by decide +kernel, rfl⟩
theorem e_X8_drawn_64 : Dc cX8_drawn 64 (.iconst 0) 1 65 := ⟨by decide +kernel, rfl⟩
theorem e_X8_drawn_65 : Dc cX8_drawn 65 (.istore 8) 2 67 := ⟨by decide +kernel, rfl⟩
theorem e_X8_drawn_67 : Dc cX8_drawn 67 (.iconst 0) 1 68 := ⟨by decide +kernel, rfl⟩
theorem e_X8_drawn_68 : Dc cX8_drawn 68 (.istore 9) 2 70 := ⟨by decide +kernel, rfl⟩
theorem e_X8_drawn_70 : Dc cX8_drawn 70 (.iload 9) 2 72 := ⟨by decide +kernel, rfl⟩
theorem e_X8_drawn_72 : Dc cX8_drawn 72 (.aload_n 0) 1 73 := ⟨by decide +kernel, rfl⟩
theorem e_X8_drawn_73 : Dc cX8_drawn 73 (.invokevirtual 79) 3 76 := ⟨by decide +kernel, rfl⟩
theorem e_X8_drawn_76 : Dc cX8_drawn 76 (.if_icmp .ge 54) 3 79 := ⟨by decide +kernel, rfl⟩
theorem e_X8_drawn_79 : Dc cX8_drawn 79 (.lload 4) 2 81 := ⟨by decide +kernel, rfl⟩
theorem e_X8_drawn_81 : Dc cX8_drawn 81 (.ldc2_w 238) 3 84 := ⟨by decide +kernel, rfl⟩
theorem e_X8_drawn_84 : Dc cX8_drawn 84 (.lmul) 1 85 := ⟨by decide +kernel, rfl⟩
theorem e_X8_drawn_85 : Dc cX8_drawn 85 (.ldc2_w 240) 3 88 := ⟨by decide +kernel, rfl⟩
theorem e_X8_drawn_88 : Dc cX8_drawn 88 (.ladd) 1 89 := ⟨by decide +kernel, rfl⟩
theorem e_X8_drawn_89 : Dc cX8_drawn 89 (.ldc2_w 242) 3 92 := ⟨by decide +kernel, rfl⟩
theorem e_X8_drawn_92 : Dc cX8_drawn 92 (.lrem) 1 93 := ⟨by decide +kernel, rfl⟩
theorem e_X8_drawn_93 : Dc cX8_drawn 93 (.lstore 4) 2 95 := ⟨by decide +kernel, rfl⟩
theorem e_X8_drawn_95 : Dc cX8_drawn 95 (.iload 8) 2 97 := ⟨by decide +kernel, rfl⟩
theorem e_X8_drawn_97 : Dc cX8_drawn 97 (.lload 4) 2 99 := ⟨by decide +kernel, rfl⟩
theorem e_X8_drawn_99 : Dc cX8_drawn 99 (.ldc2_w 244) 3 102 := ⟨by decide +kernel, rfl⟩
theorem e_X8_drawn_102 : Dc cX8_drawn 102 (.ldiv) 1 103 := ⟨by decide +kernel, rfl⟩
theorem e_X8_drawn_103 : Dc cX8_drawn 103 (.ldc2_w 236) 3 106 := ⟨by decide +kernel, rfl⟩
theorem e_X8_drawn_106 : Dc cX8_drawn 106 (.lrem) 1 107 := ⟨by decide +kernel, rfl⟩
theorem e_X8_drawn_107 : Dc cX8_drawn 107 (.iload_n 3) 1 108 := ⟨by decide +kernel, rfl⟩
theorem e_X8_drawn_108 : Dc cX8_drawn 108 (.i2l) 1 109 := ⟨by decide +kernel, rfl⟩
theorem e_X8_drawn_109 : Dc cX8_drawn 109 (.lcmp) 1 110 := ⟨by decide +kernel, rfl⟩
theorem e_X8_drawn_110 : Dc cX8_drawn 110 (.ifCond .ge 10) 3 113 := ⟨by decide +kernel, rfl⟩
theorem e_X8_drawn_113 : Dc cX8_drawn 113 (.iconst 1) 1 114 := ⟨by decide +kernel, rfl⟩
theorem e_X8_drawn_114 : Dc cX8_drawn 114 (.iload 9) 2 116 := ⟨by decide +kernel, rfl⟩
theorem e_X8_drawn_116 : Dc cX8_drawn 116 (.ishl) 1 117 := ⟨by decide +kernel, rfl⟩
theorem e_X8_drawn_117 : Dc cX8_drawn 117 (.goto 4) 3 120 := ⟨by decide +kernel, rfl⟩
theorem e_X8_drawn_120 : Dc cX8_drawn 120 (.iconst 0) 1 121 := ⟨by decide +kernel, rfl⟩
theorem e_X8_drawn_121 : Dc cX8_drawn 121 (.ior) 1 122 := ⟨by decide +kernel, rfl⟩
theorem e_X8_drawn_122 : Dc cX8_drawn 122 (.istore 8) 2 124 := ⟨by decide +kernel, rfl⟩
theorem e_X8_drawn_124 : Dc cX8_drawn 124 (.iinc 9 1) 3 127 := ⟨by decide +kernel, rfl⟩
theorem e_X8_drawn_127 : Dc cX8_drawn 127 (.goto (-57)) 3 130 := ⟨by decide +kernel, rfl⟩
theorem e_X8_drawn_130 : Dc cX8_drawn 130 (.aload_n 0) 1 131 := ⟨by decide +kernel, rfl⟩
theorem e_X8_drawn_131 : Dc cX8_drawn 131 (.iload 8) 2 133 := ⟨by decide +kernel, rfl⟩
theorem e_X8_drawn_133 : Dc cX8_drawn 133 (.invokevirtual 172) 3 136 := ⟨by decide +kernel, rfl⟩
theorem e_X8_drawn_136 : Dc cX8_drawn 136 (.iconst 0) 1 137 := ⟨by decide +kernel, rfl⟩
theorem e_X8_drawn_137 : Dc cX8_drawn 137 (.istore 9) 2 139 := ⟨by decide +kernel, rfl⟩
theorem e_X8_drawn_139 : Dc cX8_drawn 139 (.iload 9) 2 141 := ⟨by decide +kernel, rfl⟩
theorem e_X8_drawn_141 : Dc cX8_drawn 141 (.aload_n 0) 1 142 := ⟨by decide +kernel, rfl⟩
theorem e_X8_drawn_142 : Dc cX8_drawn 142 (.invokevirtual 71) 3 145 := ⟨by decide +kernel, rfl⟩
theorem e_X8_drawn_145 : Dc cX8_drawn 145 (.if_icmp .ge 21) 3 148 := ⟨by decide +kernel, rfl⟩
theorem e_X8_drawn_148 : Dc cX8_drawn 148 (.iload 6) 2 150 := ⟨by decide +kernel, rfl⟩
theorem e_X8_drawn_150 : Dc cX8_drawn 150 (.aload_n 0) 1 151 := ⟨by decide +kernel, rfl⟩
theorem e_X8_drawn_151 : Dc cX8_drawn 151 (.getfield 41) 3 154 := ⟨by decide +kernel, rfl⟩
theorem e_X8_drawn_154 : Dc cX8_drawn 154 (.iload 9) 2 156 := ⟨by decide +kernel, rfl⟩
theorem e_X8_drawn_156 : Dc cX8_drawn 156 (.iaload) 1 157 := ⟨by decide +kernel, rfl⟩
theorem e_X8_drawn_157 : Dc cX8_drawn 157 (.iadd) 1 158 := ⟨by decide +kernel, rfl⟩
theorem e_X8_drawn_158 : Dc cX8_drawn 158 (.istore 6) 2 160 := ⟨by decide +kernel, rfl⟩
theorem e_X8_drawn_160 : Dc cX8_drawn 160 (.iinc 9 1) 3 163 := ⟨by decide +kernel, rfl⟩
theorem e_X8_drawn_163 : Dc cX8_drawn 163 (.goto (-24)) 3 166 := ⟨by decide +kernel, rfl⟩
theorem e_X8_drawn_166 : Dc cX8_drawn 166 (.iinc 7 1) 3 169 := ⟨by decide +kernel, rfl⟩
theorem e_X8_drawn_169 : Dc cX8_drawn 169 (.goto (-111)) 3 172 := ⟨by decide +kernel, rfl⟩
theorem e_X8_drawn_172 : Dc cX8_drawn 172 (.iload 6) 2 174 := ⟨by decide +kernel, rfl⟩
theorem e_X8_drawn_174 : Dc cX8_drawn 174 (.ireturn) 1 175 := ⟨by decide +kernel, rfl⟩
set_option maxHeartbeats 4000000 in
set_option maxRecDepth 20000 in
theorem R_X8_drawn (hD : DD E) (x1 : Int32) (x2 : Int32) (x3 : Int32) (s : Sg) : ∀ v τ, (f_X8_drawn x1 x2 x3 s) = some (v, τ) → RI l E 5 M_X8_drawn [.ref (ead E 70), .int x1, .int x2, .int x3] s v τ := by
  refine ofI hD (by decide +kernel) (Nat.le_of_ble_eq_true rfl) (fun X C => ?_)
  show MF l E X (fun q : Int32 × Sg => QI E X q.1 q.2) (f_X8_drawn x1 x2 x3 s) s 0 [(0, .ref (ead E 70)), (1, .int x1), (2, .int x2), (3, .int x3)] []
  unfold f_X8_drawn
  refine MF.iload_n C e_X8_drawn_0 1 rfl rfl ?_
  refine MF.i2l C e_X8_drawn_1 ?_
  refine MF.lconst (v := (0 : Int64)) C e_X8_drawn_2 (by decide) ?_
  refine MF.ldc2 C e_X8_drawn_3 t_X8_232 ?_
  refine MF.callSP (As := [.long (Int32.toInt64 x1), .long (0 : Int64), .long (999999 : Int64)]) C (R_X8_in hD (Int32.toInt64 x1) (0 : Int64) (999999 : Int64) s) m_X8_in k_X8_75 (by decide) e_X8_drawn_6 rfl rfl (Nat.le_of_ble_eq_true rfl) (fun v1 => ?_)
  refine MF.if_eq (tgt := 36) C e_X8_drawn_9 (by decide) (fun _ => ?_) (fun _ => ?_)
  · refine MF.aload_n C e_X8_drawn_36 0 rfl rfl ?_
    refine MF.bipush (v := (-2 : Int32)) C e_X8_drawn_37 (by decide) ?_
    refine MF.callVI (As := [.int (-2 : Int32)]) C (R_X8_bad hD (-2 : Int32) s) m_X8_bad k_X8_88 kO_70 rfl (by decide) e_X8_drawn_39 rfl rfl (Nat.le_of_ble_eq_true rfl) (fun v2 s3 => ?_)
    exact MF.iret C e_X8_drawn_42
  · refine MF.iload_n C e_X8_drawn_12 2 rfl rfl ?_
    refine MF.i2l C e_X8_drawn_13 ?_
    refine MF.lconst (v := (0 : Int64)) C e_X8_drawn_14 (by decide) ?_
    refine MF.ldc2 C e_X8_drawn_15 t_X8_234 ?_
    refine MF.callSP (As := [.long (Int32.toInt64 x2), .long (0 : Int64), .long (30 : Int64)]) C (R_X8_in hD (Int32.toInt64 x2) (0 : Int64) (30 : Int64) s) m_X8_in k_X8_75 (by decide) e_X8_drawn_18 rfl rfl (Nat.le_of_ble_eq_true rfl) (fun v4 => ?_)
    refine MF.if_eq (tgt := 36) C e_X8_drawn_21 (by decide) (fun _ => ?_) (fun _ => ?_)
    · refine MF.aload_n C e_X8_drawn_36 0 rfl rfl ?_
      refine MF.bipush (v := (-2 : Int32)) C e_X8_drawn_37 (by decide) ?_
      refine MF.callVI (As := [.int (-2 : Int32)]) C (R_X8_bad hD (-2 : Int32) s) m_X8_bad k_X8_88 kO_70 rfl (by decide) e_X8_drawn_39 rfl rfl (Nat.le_of_ble_eq_true rfl) (fun v5 s6 => ?_)
      exact MF.iret C e_X8_drawn_42
    · refine MF.iload_n C e_X8_drawn_24 3 rfl rfl ?_
      refine MF.i2l C e_X8_drawn_25 ?_
      refine MF.lconst (v := (0 : Int64)) C e_X8_drawn_26 (by decide) ?_
      refine MF.ldc2 C e_X8_drawn_27 t_X8_236 ?_
      refine MF.callSP (As := [.long (Int32.toInt64 x3), .long (0 : Int64), .long (100 : Int64)]) C (R_X8_in hD (Int32.toInt64 x3) (0 : Int64) (100 : Int64) s) m_X8_in k_X8_75 (by decide) e_X8_drawn_30 rfl rfl (Nat.le_of_ble_eq_true rfl) (fun v7 => ?_)
      refine MF.if_ne (tgt := 43) C e_X8_drawn_33 (by decide) (fun _ => ?_) (fun _ => ?_)
      · refine MF.iload_n C e_X8_drawn_43 1 rfl rfl ?_
        refine MF.i2l C e_X8_drawn_44 ?_
        refine MF.nmL (fun v8 => ?_)
        refine MF.lstore (lv' := [(0, .ref (ead E 70)), (1, .int x1), (2, .int x2), (3, .int x3), (4, .long v8)]) C e_X8_drawn_45 (by decide) rfl ?_
        refine MF.iconst (v := (nI 0)) C e_X8_drawn_47 rfl ?_
        refine MF.istore (lv' := [(0, .ref (ead E 70)), (1, .int x1), (2, .int x2), (3, .int x3), (4, .long v8), (6, .int (nI 0))]) C e_X8_drawn_48 (by decide) rfl ?_
        refine MF.aload_n C e_X8_drawn_50 0 rfl rfl ?_
        refine MF.iconst (v := (nI 0)) C e_X8_drawn_51 rfl ?_
        refine MF.put C cf_X8 l_X8_165 p_X8_11 e_X8_drawn_52 kF_70_11 rfl ?_
        refine MF.nmS (fun s9 => ?_)
        refine MF.iconst (v := (nI 0)) C e_X8_drawn_55 rfl ?_
        refine MF.istore (lv' := [(0, .ref (ead E 70)), (1, .int x1), (2, .int x2), (3, .int x3), (4, .long v8), (6, .int (nI 0)), (7, .int (nI 0))]) C e_X8_drawn_56 (by decide) rfl ?_
        refine MF.sub [0, 2, 3, 4, 5, 6] rfl ?_
        refine MF.loop4 (fun i10 i11 i12 s13 => s13) (fun i10 i11 i12 s13 => [(0, .ref (ead E 70)), (2, .int x2), (3, .int x3), (4, .long i10), (6, .int i11), (7, .int i12)]) (fun self14 hself14 i10 i11 i12 s13 => ?_) fu v8 (nI 0) (nI 0) s9
        unfold b_X8_drawn_58
        refine MF.iload C e_X8_drawn_58 5 rfl ?_
        refine MF.iload_n C e_X8_drawn_60 1 rfl rfl ?_
        refine MF.icmp_ge (tgt := 172) C e_X8_drawn_61 (by decide) (fun _ => ?_) (fun _ => ?_)
        · refine MF.iload C e_X8_drawn_172 4 rfl ?_
          exact MF.iret C e_X8_drawn_174
        · refine MF.iconst (v := (nI 0)) C e_X8_drawn_64 rfl ?_
          refine MF.istore (lv' := [(0, .ref (ead E 70)), (2, .int x2), (3, .int x3), (4, .long i10), (6, .int i11), (7, .int i12), (8, .int (nI 0))]) C e_X8_drawn_65 (by decide) rfl ?_
          refine MF.iconst (v := (nI 0)) C e_X8_drawn_67 rfl ?_
          refine MF.istore (lv' := [(0, .ref (ead E 70)), (2, .int x2), (3, .int x3), (4, .long i10), (6, .int i11), (7, .int i12), (8, .int (nI 0)), (9, .int (nI 0))]) C e_X8_drawn_68 (by decide) rfl ?_
          refine MF.join (fun j : Int64 → Int32 → Option (Int32 × Sg) => ∀ (a15 : Int64) (a16 : Int32), MF l E X (fun q : Int32 × Sg => QI E X q.1 q.2) (j a15 a16) s13 130 [(0, .ref (ead E 70)), (2, .int x2), (3, .int x3), (4, .long a15), (6, .int i11), (7, .int i12), (8, .int a16)] []) ?_ (fun j17 hj17 => ?_)
          · intro a15 a16
            refine MF.aload_n C e_X8_drawn_130 0 rfl rfl ?_
            refine MF.iload C e_X8_drawn_131 6 rfl ?_
            refine MF.callVU (As := [.int a16]) C (R_X8_run hD a16 s13) m_X8_run k_X8_172 kO_70 rfl (by decide) e_X8_drawn_133 rfl rfl (Nat.le_of_ble_eq_true rfl) (fun s18 => ?_)
            refine MF.iconst (v := (nI 0)) C e_X8_drawn_136 rfl ?_
            refine MF.istore (lv' := [(0, .ref (ead E 70)), (2, .int x2), (3, .int x3), (4, .long a15), (6, .int i11), (7, .int i12), (8, .int a16), (9, .int (nI 0))]) C e_X8_drawn_137 (by decide) rfl ?_
            refine MF.sub [0, 1, 2, 3, 4, 5, 7] rfl ?_
            refine MF.join (fun j : Int32 → Option (Int32 × Sg) => ∀ (a19 : Int32), MF l E X (fun q : Int32 × Sg => QI E X q.1 q.2) (j a19) s18 166 [(0, .ref (ead E 70)), (2, .int x2), (3, .int x3), (4, .long a15), (6, .int a19), (7, .int i12)] []) ?_ (fun j20 hj20 => ?_)
            · intro a19
              refine MF.iinc (v := (nI 1)) (lv' := [(0, .ref (ead E 70)), (2, .int x2), (3, .int x3), (4, .long a15), (6, .int a19), (7, .int (i12 + (nI 1)))]) C e_X8_drawn_166 5 rfl rfl (by decide) rfl ?_
              refine MF.goto (tgt := 58) C e_X8_drawn_169 (by decide) ?_
              exact hself14 a15 a19 (i12 + (nI 1)) s18
            refine MF.loop2 (fun i21 i22 => s18) (fun i21 i22 => [(0, .ref (ead E 70)), (2, .int x2), (3, .int x3), (4, .long a15), (6, .int i21), (7, .int i12), (9, .int i22)]) (fun self23 hself23 i21 i22 => ?_) fu i11 (nI 0)
            unfold b_X8_drawn_139
            refine MF.iload C e_X8_drawn_139 6 rfl ?_
            refine MF.aload_n C e_X8_drawn_141 0 rfl rfl ?_
            refine MF.callVP (As := []) C (R_X8_streets hD s18) m_X8_streets k_X8_71 kO_70 rfl (by decide) e_X8_drawn_142 rfl rfl (Nat.le_of_ble_eq_true rfl) (fun v24 => ?_)
            refine MF.icmp_ge (tgt := 166) C e_X8_drawn_145 (by decide) (fun _ => ?_) (fun _ => ?_)
            · refine MF.sub [0, 1, 2, 3, 4, 5] rfl ?_
              exact hj20 i21
            · refine MF.iload C e_X8_drawn_148 4 rfl ?_
              refine MF.aload_n C e_X8_drawn_150 0 rfl rfl ?_
              refine MF.getR (j := 81) C cf_X8 l_X8_41 e_X8_drawn_151 kF_70_10 ?_
              refine MF.iload C e_X8_drawn_154 6 rfl ?_
              refine MF.iald C e_X8_drawn_156 kA_81 (fun v25 => ?_)
              refine MF.iadd C e_X8_drawn_157 ?_
              refine MF.nmI (fun v26 => ?_)
              refine MF.istore (lv' := [(0, .ref (ead E 70)), (2, .int x2), (3, .int x3), (4, .long a15), (6, .int v26), (7, .int i12), (9, .int i22)]) C e_X8_drawn_158 (by decide) rfl ?_
              refine MF.iinc (v := (nI 1)) (lv' := [(0, .ref (ead E 70)), (2, .int x2), (3, .int x3), (4, .long a15), (6, .int v26), (7, .int i12), (9, .int (i22 + (nI 1)))]) C e_X8_drawn_160 6 rfl rfl (by decide) rfl ?_
              refine MF.goto (tgt := 139) C e_X8_drawn_163 (by decide) ?_
              exact hself23 v26 (i22 + (nI 1))
          refine MF.loop3 (fun i27 i28 i29 => s13) (fun i27 i28 i29 => [(0, .ref (ead E 70)), (2, .int x2), (3, .int x3), (4, .long i27), (6, .int i11), (7, .int i12), (8, .int i28), (9, .int i29)]) (fun self30 hself30 i27 i28 i29 => ?_) fu i10 (nI 0) (nI 0)
          unfold b_X8_drawn_70
          refine MF.iload C e_X8_drawn_70 7 rfl ?_
          refine MF.aload_n C e_X8_drawn_72 0 rfl rfl ?_
          refine MF.callVP (As := []) C (R_X8_events hD s13) m_X8_events k_X8_79 kO_70 rfl (by decide) e_X8_drawn_73 rfl rfl (Nat.le_of_ble_eq_true rfl) (fun v31 => ?_)
          refine MF.icmp_ge (tgt := 130) C e_X8_drawn_76 (by decide) (fun _ => ?_) (fun _ => ?_)
          · refine MF.sub [0, 1, 2, 3, 4, 5, 6] rfl ?_
            exact hj17 i27 i28
          · refine MF.lload C e_X8_drawn_79 3 rfl ?_
            refine MF.ldc2 C e_X8_drawn_81 t_X8_238 ?_
            refine MF.lmul C e_X8_drawn_84 ?_
            refine MF.ldc2 C e_X8_drawn_85 t_X8_240 ?_
            refine MF.ladd C e_X8_drawn_88 ?_
            refine MF.ldc2 C e_X8_drawn_89 t_X8_242 ?_
            refine MF.lrem C e_X8_drawn_92 (by decide) ?_
            refine MF.nmL (fun v32 => ?_)
            refine MF.lstore (lv' := [(0, .ref (ead E 70)), (2, .int x2), (3, .int x3), (4, .long v32), (6, .int i11), (7, .int i12), (8, .int i28), (9, .int i29)]) C e_X8_drawn_93 (by decide) rfl ?_
            refine MF.iload C e_X8_drawn_95 6 rfl ?_
            refine MF.lload C e_X8_drawn_97 3 rfl ?_
            refine MF.ldc2 C e_X8_drawn_99 t_X8_244 ?_
            refine MF.ldiv C e_X8_drawn_102 (by decide) ?_
            refine MF.ldc2 C e_X8_drawn_103 t_X8_236 ?_
            refine MF.lrem C e_X8_drawn_106 (by decide) ?_
            refine MF.iload_n C e_X8_drawn_107 2 rfl rfl ?_
            refine MF.i2l C e_X8_drawn_108 ?_
            refine MF.lcmp C e_X8_drawn_109 ?_
            refine MF.join (fun j : Int32 → Option (Int32 × Sg) => ∀ (a33 : Int32), MF l E X (fun q : Int32 × Sg => QI E X q.1 q.2) (j a33) s13 121 [(0, .ref (ead E 70)), (2, .int x2), (3, .int x3), (4, .long v32), (6, .int i11), (7, .int i12), (9, .int i29)] [.int a33, .int i28]) ?_ (fun j34 hj34 => ?_)
            · intro a33
              refine MF.ior C e_X8_drawn_121 ?_
              refine MF.nmI (fun v35 => ?_)
              refine MF.istore (lv' := [(0, .ref (ead E 70)), (2, .int x2), (3, .int x3), (4, .long v32), (6, .int i11), (7, .int i12), (8, .int v35), (9, .int i29)]) C e_X8_drawn_122 (by decide) rfl ?_
              refine MF.iinc (v := (nI 1)) (lv' := [(0, .ref (ead E 70)), (2, .int x2), (3, .int x3), (4, .long v32), (6, .int i11), (7, .int i12), (8, .int v35), (9, .int (i29 + (nI 1)))]) C e_X8_drawn_124 7 rfl rfl (by decide) rfl ?_
              refine MF.goto (tgt := 70) C e_X8_drawn_127 (by decide) ?_
              exact hself30 v32 v35 (i29 + (nI 1))
            refine MF.if_ge (tgt := 120) C e_X8_drawn_110 (by decide) (fun _ => ?_) (fun _ => ?_)
            · refine MF.iconst (v := (nI 0)) C e_X8_drawn_120 rfl ?_
              refine MF.sub [0, 1, 2, 3, 4, 5, 7] rfl ?_
              exact hj34 (nI 0)
            · refine MF.iconst (v := (nI 1)) C e_X8_drawn_113 rfl ?_
              refine MF.iload C e_X8_drawn_114 7 rfl ?_
              refine MF.ishl C e_X8_drawn_116 ?_
              refine MF.goto (tgt := 121) C e_X8_drawn_117 (by decide) ?_
              refine MF.sub [0, 1, 2, 3, 4, 5, 7] rfl ?_
              exact hj34 ((nI 1) <<< (i29 &&& 31))
      · refine MF.aload_n C e_X8_drawn_36 0 rfl rfl ?_
        refine MF.bipush (v := (-2 : Int32)) C e_X8_drawn_37 (by decide) ?_
        refine MF.callVI (As := [.int (-2 : Int32)]) C (R_X8_bad hD (-2 : Int32) s) m_X8_bad k_X8_88 kO_70 rfl (by decide) e_X8_drawn_39 rfl rfl (Nat.le_of_ble_eq_true rfl) (fun v36 s37 => ?_)
        exact MF.iret C e_X8_drawn_42
theorem e_X8_type_0 : Dc cX8_type 0 (.iload_n 1) 1 1 := ⟨by decide +kernel, rfl⟩
theorem e_X8_type_1 : Dc cX8_type 1 (.i2l) 1 2 := ⟨by decide +kernel, rfl⟩
theorem e_X8_type_2 : Dc cX8_type 2 (.lconst 0) 1 3 := ⟨by decide +kernel, rfl⟩
theorem e_X8_type_3 : Dc cX8_type 3 (.ldc2_w 246) 3 6 := ⟨by decide +kernel, rfl⟩
theorem e_X8_type_6 : Dc cX8_type 6 (.invokestatic 75) 3 9 := ⟨by decide +kernel, rfl⟩
theorem e_X8_type_9 : Dc cX8_type 9 (.ifCond .ne 10) 3 12 := ⟨by decide +kernel, rfl⟩
theorem e_X8_type_12 : Dc cX8_type 12 (.aload_n 0) 1 13 := ⟨by decide +kernel, rfl⟩
theorem e_X8_type_13 : Dc cX8_type 13 (.bipush (-2)) 2 15 := ⟨by decide +kernel, rfl⟩
theorem e_X8_type_15 : Dc cX8_type 15 (.invokevirtual 88) 3 18 := ⟨by decide +kernel, rfl⟩
theorem e_X8_type_18 : Dc cX8_type 18 (.ireturn) 1 19 := ⟨by decide +kernel, rfl⟩
theorem e_X8_type_19 : Dc cX8_type 19 (.aload_n 0) 1 20 := ⟨by decide +kernel, rfl⟩
theorem e_X8_type_20 : Dc cX8_type 20 (.getfield 248) 3 23 := ⟨by decide +kernel, rfl⟩
theorem e_X8_type_23 : Dc cX8_type 23 (.sipush 150) 3 26 := ⟨by decide +kernel, rfl⟩
theorem e_X8_type_26 : Dc cX8_type 26 (.if_icmp .ne 8) 3 29 := ⟨by decide +kernel, rfl⟩
theorem e_X8_type_29 : Dc cX8_type 29 (.aload_n 0) 1 30 := ⟨by decide +kernel, rfl⟩
theorem e_X8_type_30 : Dc cX8_type 30 (.invokevirtual 104) 3 33 := ⟨by decide +kernel, rfl⟩
theorem e_X8_type_33 : Dc cX8_type 33 (.ireturn) 1 34 := ⟨by decide +kernel, rfl⟩
theorem e_X8_type_34 : Dc cX8_type 34 (.aload_n 0) 1 35 := ⟨by decide +kernel, rfl⟩
theorem e_X8_type_35 : Dc cX8_type 35 (.getfield 62) 3 38 := ⟨by decide +kernel, rfl⟩
theorem e_X8_type_38 : Dc cX8_type 38 (.aload_n 0) 1 39 := ⟨by decide +kernel, rfl⟩
theorem e_X8_type_39 : Dc cX8_type 39 (.getfield 248) 3 42 := ⟨by decide +kernel, rfl⟩
theorem e_X8_type_42 : Dc cX8_type 42 (.iload_n 1) 1 43 := ⟨by decide +kernel, rfl⟩
theorem e_X8_type_43 : Dc cX8_type 43 (.iastore) 1 44 := ⟨by decide +kernel, rfl⟩
theorem e_X8_type_44 : Dc cX8_type 44 (.aload_n 0) 1 45 := ⟨by decide +kernel, rfl⟩
theorem e_X8_type_45 : Dc cX8_type 45 (.dup) 1 46 := ⟨by decide +kernel, rfl⟩
theorem e_X8_type_46 : Dc cX8_type 46 (.getfield 248) 3 49 := ⟨by decide +kernel, rfl⟩
theorem e_X8_type_49 : Dc cX8_type 49 (.iconst 1) 1 50 := ⟨by decide +kernel, rfl⟩
theorem e_X8_type_50 : Dc cX8_type 50 (.iadd) 1 51 := ⟨by decide +kernel, rfl⟩
theorem e_X8_type_51 : Dc cX8_type 51 (.putfield 248) 3 54 := ⟨by decide +kernel, rfl⟩
theorem e_X8_type_54 : Dc cX8_type 54 (.aload_n 0) 1 55 := ⟨by decide +kernel, rfl⟩
theorem e_X8_type_55 : Dc cX8_type 55 (.getfield 248) 3 58 := ⟨by decide +kernel, rfl⟩
theorem e_X8_type_58 : Dc cX8_type 58 (.ireturn) 1 59 := ⟨by decide +kernel, rfl⟩
set_option maxHeartbeats 4000000 in
set_option maxRecDepth 20000 in
theorem R_X8_type (hD : DD E) (x1 : Int32) (s : Sg) : ∀ v τ, (f_X8_type x1 s) = some (v, τ) → RI l E 1 M_X8_type [.ref (ead E 70), .int x1] s v τ := by
  refine ofI hD (by decide +kernel) (Nat.le_of_ble_eq_true rfl) (fun X C => ?_)
  show MF l E X (fun q : Int32 × Sg => QI E X q.1 q.2) (f_X8_type x1 s) s 0 [(0, .ref (ead E 70)), (1, .int x1)] []
  unfold f_X8_type
  refine MF.iload_n C e_X8_type_0 1 rfl rfl ?_
  refine MF.i2l C e_X8_type_1 ?_
  refine MF.lconst (v := (0 : Int64)) C e_X8_type_2 (by decide) ?_
  refine MF.ldc2 C e_X8_type_3 t_X8_246 ?_
  refine MF.callSP (As := [.long (Int32.toInt64 x1), .long (0 : Int64), .long (127 : Int64)]) C (R_X8_in hD (Int32.toInt64 x1) (0 : Int64) (127 : Int64) s) m_X8_in k_X8_75 (by decide) e_X8_type_6 rfl rfl (Nat.le_of_ble_eq_true rfl) (fun v1 => ?_)
  refine MF.if_ne (tgt := 19) C e_X8_type_9 (by decide) (fun _ => ?_) (fun _ => ?_)
  · refine MF.aload_n C e_X8_type_19 0 rfl rfl ?_
    refine MF.get C cf_X8 l_X8_248 e_X8_type_20 kF_70_22 ?_
    refine MF.sipush (v := (nI 150)) C e_X8_type_23 (by decide) ?_
    refine MF.icmp_ne (tgt := 34) C e_X8_type_26 (by decide) (fun _ => ?_) (fun _ => ?_)
    · refine MF.aload_n C e_X8_type_34 0 rfl rfl ?_
      refine MF.getR (j := 88) C cf_X8 l_X8_62 e_X8_type_35 kF_70_21 ?_
      refine MF.aload_n C e_X8_type_38 0 rfl rfl ?_
      refine MF.get C cf_X8 l_X8_248 e_X8_type_39 kF_70_22 ?_
      refine MF.iload_n C e_X8_type_42 1 rfl rfl ?_
      refine MF.iast C e_X8_type_43 kA_88 (fun s2 => ?_)
      refine MF.aload_n C e_X8_type_44 0 rfl rfl ?_
      refine MF.dup C e_X8_type_45 rfl ?_
      refine MF.get C cf_X8 l_X8_248 e_X8_type_46 kF_70_22 ?_
      refine MF.iconst (v := (nI 1)) C e_X8_type_49 rfl ?_
      refine MF.iadd C e_X8_type_50 ?_
      refine MF.put C cf_X8 l_X8_248 p_X8_22 e_X8_type_51 kF_70_22 rfl ?_
      refine MF.nmS (fun s3 => ?_)
      refine MF.aload_n C e_X8_type_54 0 rfl rfl ?_
      refine MF.get C cf_X8 l_X8_248 e_X8_type_55 kF_70_22 ?_
      exact MF.iret C e_X8_type_58
    · refine MF.aload_n C e_X8_type_29 0 rfl rfl ?_
      refine MF.callVI (As := []) C (R_X8_full hD s) m_X8_full k_X8_104 kO_70 rfl (by decide) e_X8_type_30 rfl rfl (Nat.le_of_ble_eq_true rfl) (fun v4 s5 => ?_)
      exact MF.iret C e_X8_type_33
  · refine MF.aload_n C e_X8_type_12 0 rfl rfl ?_
    refine MF.bipush (v := (-2 : Int32)) C e_X8_type_13 (by decide) ?_
    refine MF.callVI (As := [.int (-2 : Int32)]) C (R_X8_bad hD (-2 : Int32) s) m_X8_bad k_X8_88 kO_70 rfl (by decide) e_X8_type_15 rfl rfl (Nat.le_of_ble_eq_true rfl) (fun v6 s7 => ?_)
    exact MF.iret C e_X8_type_18
theorem e_X8_clear_0 : Dc cX8_clear 0 (.aload_n 0) 1 1 := ⟨by decide +kernel, rfl⟩
theorem e_X8_clear_1 : Dc cX8_clear 1 (.getfield 248) 3 4 := ⟨by decide +kernel, rfl⟩
theorem e_X8_clear_4 : Dc cX8_clear 4 (.istore_n 1) 1 5 := ⟨by decide +kernel, rfl⟩
theorem e_X8_clear_5 : Dc cX8_clear 5 (.aload_n 0) 1 6 := ⟨by decide +kernel, rfl⟩
theorem e_X8_clear_6 : Dc cX8_clear 6 (.iconst 0) 1 7 := ⟨by decide +kernel, rfl⟩
theorem e_X8_clear_7 : Dc cX8_clear 7 (.putfield 248) 3 10 := ⟨by decide +kernel, rfl⟩
theorem e_X8_clear_10 : Dc cX8_clear 10 (.iload_n 1) 1 11 := ⟨by decide +kernel, rfl⟩
theorem e_X8_clear_11 : Dc cX8_clear 11 (.ireturn) 1 12 := ⟨by decide +kernel, rfl⟩
set_option maxHeartbeats 4000000 in
set_option maxRecDepth 20000 in
theorem R_X8_clear (hD : DD E) (s : Sg) : ∀ v τ, (f_X8_clear s) = some (v, τ) → RI l E 0 M_X8_clear [.ref (ead E 70)] s v τ := by
  refine ofI hD (by decide +kernel) (Nat.le_of_ble_eq_true rfl) (fun X C => ?_)
  show MF l E X (fun q : Int32 × Sg => QI E X q.1 q.2) (f_X8_clear s) s 0 [(0, .ref (ead E 70))] []
  unfold f_X8_clear
  refine MF.aload_n C e_X8_clear_0 0 rfl rfl ?_
  refine MF.get C cf_X8 l_X8_248 e_X8_clear_1 kF_70_22 ?_
  refine MF.nmI (fun v1 => ?_)
  refine MF.istore_n (lv' := [(0, .ref (ead E 70)), (1, .int v1)]) C e_X8_clear_4 (by decide) rfl ?_
  refine MF.aload_n C e_X8_clear_5 0 rfl rfl ?_
  refine MF.iconst (v := (nI 0)) C e_X8_clear_6 rfl ?_
  refine MF.put C cf_X8 l_X8_248 p_X8_22 e_X8_clear_7 kF_70_22 rfl ?_
  refine MF.nmS (fun s2 => ?_)
  refine MF.iload_n C e_X8_clear_10 1 rfl rfl ?_
  exact MF.iret C e_X8_clear_11
theorem e_X8_isSmall_0 : Dc cX8_isSmall 0 (.iload_n 0) 1 1 := ⟨by decide +kernel, rfl⟩
theorem e_X8_isSmall_1 : Dc cX8_isSmall 1 (.i2l) 1 2 := ⟨by decide +kernel, rfl⟩
theorem e_X8_isSmall_2 : Dc cX8_isSmall 2 (.ldc2_w 251) 3 5 := ⟨by decide +kernel, rfl⟩
theorem e_X8_isSmall_5 : Dc cX8_isSmall 5 (.ldc2_w 253) 3 8 := ⟨by decide +kernel, rfl⟩
theorem e_X8_isSmall_8 : Dc cX8_isSmall 8 (.invokestatic 75) 3 11 := ⟨by decide +kernel, rfl⟩
theorem e_X8_isSmall_11 : Dc cX8_isSmall 11 (.ireturn) 1 12 := ⟨by decide +kernel, rfl⟩
set_option maxHeartbeats 4000000 in
set_option maxRecDepth 20000 in
theorem R_X8_isSmall (hD : DD E) (x0 : Int32) (s : Sg) : ∀ v, (f_X8_isSmall x0 s) = some v → RI l E 1 M_X8_isSmall [.int x0] s v s := by
  refine ofP hD (by decide +kernel) (Nat.le_of_ble_eq_true rfl) (fun X C => ?_)
  show MF l E X (fun q : Int32 => QI E X q s) (f_X8_isSmall x0 s) s 0 [(0, .int x0)] []
  unfold f_X8_isSmall
  refine MF.iload_n C e_X8_isSmall_0 0 rfl rfl ?_
  refine MF.i2l C e_X8_isSmall_1 ?_
  refine MF.ldc2 C e_X8_isSmall_2 t_X8_251 ?_
  refine MF.ldc2 C e_X8_isSmall_5 t_X8_253 ?_
  refine MF.callSP (As := [.long (Int32.toInt64 x0), .long (97 : Int64), .long (122 : Int64)]) C (R_X8_in hD (Int32.toInt64 x0) (97 : Int64) (122 : Int64) s) m_X8_in k_X8_75 (by decide) e_X8_isSmall_8 rfl rfl (Nat.le_of_ble_eq_true rfl) (fun v1 => ?_)
  exact MF.nretp C e_X8_isSmall_11 rfl
theorem e_X8_isFigure_0 : Dc cX8_isFigure 0 (.iload_n 0) 1 1 := ⟨by decide +kernel, rfl⟩
theorem e_X8_isFigure_1 : Dc cX8_isFigure 1 (.i2l) 1 2 := ⟨by decide +kernel, rfl⟩
theorem e_X8_isFigure_2 : Dc cX8_isFigure 2 (.ldc2_w 255) 3 5 := ⟨by decide +kernel, rfl⟩
theorem e_X8_isFigure_5 : Dc cX8_isFigure 5 (.ldc2_w 257) 3 8 := ⟨by decide +kernel, rfl⟩
theorem e_X8_isFigure_8 : Dc cX8_isFigure 8 (.invokestatic 75) 3 11 := ⟨by decide +kernel, rfl⟩
theorem e_X8_isFigure_11 : Dc cX8_isFigure 11 (.ireturn) 1 12 := ⟨by decide +kernel, rfl⟩
set_option maxHeartbeats 4000000 in
set_option maxRecDepth 20000 in
theorem R_X8_isFigure (hD : DD E) (x0 : Int32) (s : Sg) : ∀ v, (f_X8_isFigure x0 s) = some v → RI l E 1 M_X8_isFigure [.int x0] s v s := by
  refine ofP hD (by decide +kernel) (Nat.le_of_ble_eq_true rfl) (fun X C => ?_)
  show MF l E X (fun q : Int32 => QI E X q s) (f_X8_isFigure x0 s) s 0 [(0, .int x0)] []
  unfold f_X8_isFigure
  refine MF.iload_n C e_X8_isFigure_0 0 rfl rfl ?_
  refine MF.i2l C e_X8_isFigure_1 ?_
  refine MF.ldc2 C e_X8_isFigure_2 t_X8_255 ?_
  refine MF.ldc2 C e_X8_isFigure_5 t_X8_257 ?_
  refine MF.callSP (As := [.long (Int32.toInt64 x0), .long (48 : Int64), .long (57 : Int64)]) C (R_X8_in hD (Int32.toInt64 x0) (48 : Int64) (57 : Int64) s) m_X8_in k_X8_75 (by decide) e_X8_isFigure_8 rfl rfl (Nat.le_of_ble_eq_true rfl) (fun v1 => ?_)
  exact MF.nretp C e_X8_isFigure_11 rfl
theorem e_X8_look_0 : Dc cX8_look 0 (.aload_n 0) 1 1 := ⟨by decide +kernel, rfl⟩
theorem e_X8_look_1 : Dc cX8_look 1 (.iload_n 1) 1 2 := ⟨by decide +kernel, rfl⟩
theorem e_X8_look_2 : Dc cX8_look 2 (.putfield 259) 3 5 := ⟨by decide +kernel, rfl⟩
theorem e_X8_look_5 : Dc cX8_look 5 (.aload_n 0) 1 6 := ⟨by decide +kernel, rfl⟩
theorem e_X8_look_6 : Dc cX8_look 6 (.getfield 259) 3 9 := ⟨by decide +kernel, rfl⟩
theorem e_X8_look_9 : Dc cX8_look 9 (.aload_n 0) 1 10 := ⟨by decide +kernel, rfl⟩
theorem e_X8_look_10 : Dc cX8_look 10 (.getfield 248) 3 13 := ⟨by decide +kernel, rfl⟩
theorem e_X8_look_13 : Dc cX8_look 13 (.if_icmp .ge 30) 3 16 := ⟨by decide +kernel, rfl⟩
theorem e_X8_look_16 : Dc cX8_look 16 (.aload_n 0) 1 17 := ⟨by decide +kernel, rfl⟩
theorem e_X8_look_17 : Dc cX8_look 17 (.getfield 62) 3 20 := ⟨by decide +kernel, rfl⟩
theorem e_X8_look_20 : Dc cX8_look 20 (.aload_n 0) 1 21 := ⟨by decide +kernel, rfl⟩
theorem e_X8_look_21 : Dc cX8_look 21 (.getfield 259) 3 24 := ⟨by decide +kernel, rfl⟩
theorem e_X8_look_24 : Dc cX8_look 24 (.iaload) 1 25 := ⟨by decide +kernel, rfl⟩
theorem e_X8_look_25 : Dc cX8_look 25 (.bipush 32) 2 27 := ⟨by decide +kernel, rfl⟩
theorem e_X8_look_27 : Dc cX8_look 27 (.if_icmp .ne 16) 3 30 := ⟨by decide +kernel, rfl⟩
theorem e_X8_look_30 : Dc cX8_look 30 (.aload_n 0) 1 31 := ⟨by decide +kernel, rfl⟩
theorem e_X8_look_31 : Dc cX8_look 31 (.dup) 1 32 := ⟨by decide +kernel, rfl⟩
theorem e_X8_look_32 : Dc cX8_look 32 (.getfield 259) 3 35 := ⟨by decide +kernel, rfl⟩
theorem e_X8_look_35 : Dc cX8_look 35 (.iconst 1) 1 36 := ⟨by decide +kernel, rfl⟩
theorem e_X8_look_36 : Dc cX8_look 36 (.iadd) 1 37 := ⟨by decide +kernel, rfl⟩
theorem e_X8_look_37 : Dc cX8_look 37 (.putfield 259) 3 40 := ⟨by decide +kernel, rfl⟩
theorem e_X8_look_40 : Dc cX8_look 40 (.goto (-35)) 3 43 := ⟨by decide +kernel, rfl⟩
theorem e_X8_look_43 : Dc cX8_look 43 (.aload_n 0) 1 44 := ⟨by decide +kernel, rfl⟩
theorem e_X8_look_44 : Dc cX8_look 44 (.iconst 0) 1 45 := ⟨by decide +kernel, rfl⟩
theorem e_X8_look_45 : Dc cX8_look 45 (.putfield 262) 3 48 := ⟨by decide +kernel, rfl⟩
theorem e_X8_look_48 : Dc cX8_look 48 (.aload_n 0) 1 49 := ⟨by decide +kernel, rfl⟩
theorem e_X8_look_49 : Dc cX8_look 49 (.iconst 0) 1 50 := ⟨by decide +kernel, rfl⟩
theorem e_X8_look_50 : Dc cX8_look 50 (.putfield 265) 3 53 := ⟨by decide +kernel, rfl⟩
theorem e_X8_look_53 : Dc cX8_look 53 (.aload_n 0) 1 54 := ⟨by decide +kernel, rfl⟩
theorem e_X8_look_54 : Dc cX8_look 54 (.iconst 0) 1 55 := ⟨by decide +kernel, rfl⟩
theorem e_X8_look_55 : Dc cX8_look 55 (.putfield 268) 3 58 := ⟨by decide +kernel, rfl⟩
theorem e_X8_look_58 : Dc cX8_look 58 (.aload_n 0) 1 59 := ⟨by decide +kernel, rfl⟩
theorem e_X8_look_59 : Dc cX8_look 59 (.getfield 259) 3 62 := ⟨by decide +kernel, rfl⟩
theorem e_X8_look_62 : Dc cX8_look 62 (.aload_n 0) 1 63 := ⟨by decide +kernel, rfl⟩
theorem e_X8_look_63 : Dc cX8_look 63 (.getfield 248) 3 66 := ⟨by decide +kernel, rfl⟩
theorem e_X8_look_66 : Dc cX8_look 66 (.if_icmp .ne 4) 3 69 := ⟨by decide +kernel, rfl⟩
theorem e_X8_look_69 : Dc cX8_look 69 (.return_) 1 70 := ⟨by decide +kernel, rfl⟩
theorem e_X8_look_70 : Dc cX8_look 70 (.aload_n 0) 1 71 := ⟨by decide +kernel, rfl⟩
theorem e_X8_look_71 : Dc cX8_look 71 (.getfield 62) 3 74 := ⟨by decide +kernel, rfl⟩
theorem e_X8_look_74 : Dc cX8_look 74 (.aload_n 0) 1 75 := ⟨by decide +kernel, rfl⟩
theorem e_X8_look_75 : Dc cX8_look 75 (.getfield 259) 3 78 := ⟨by decide +kernel, rfl⟩
theorem e_X8_look_78 : Dc cX8_look 78 (.iaload) 1 79 := ⟨by decide +kernel, rfl⟩
theorem e_X8_look_79 : Dc cX8_look 79 (.istore_n 2) 1 80 := ⟨by decide +kernel, rfl⟩
theorem e_X8_look_80 : Dc cX8_look 80 (.aload_n 0) 1 81 := ⟨by decide +kernel, rfl⟩
theorem e_X8_look_81 : Dc cX8_look 81 (.iload_n 2) 1 82 := ⟨by decide +kernel, rfl⟩
theorem e_X8_look_82 : Dc cX8_look 82 (.invokestatic 271) 3 85 := ⟨by decide +kernel, rfl⟩
theorem e_X8_look_85 : Dc cX8_look 85 (.ifCond .eq 7) 3 88 := ⟨by decide +kernel, rfl⟩
theorem e_X8_look_88 : Dc cX8_look 88 (.iconst 1) 1 89 := ⟨by decide +kernel, rfl⟩
theorem e_X8_look_89 : Dc cX8_look 89 (.goto 25) 3 92 := ⟨by decide +kernel, rfl⟩
theorem e_X8_look_92 : Dc cX8_look 92 (.iload_n 2) 1 93 := ⟨by decide +kernel, rfl⟩
theorem e_X8_look_93 : Dc cX8_look 93 (.invokestatic 274) 3 96 := ⟨by decide +kernel, rfl⟩
theorem e_X8_look_96 : Dc cX8_look 96 (.ifCond .eq 7) 3 99 := ⟨by decide +kernel, rfl⟩
theorem e_X8_look_99 : Dc cX8_look 99 (.iconst 2) 1 100 := ⟨by decide +kernel, rfl⟩
theorem e_X8_look_100 : Dc cX8_look 100 (.goto 14) 3 103 := ⟨by decide +kernel, rfl⟩
theorem e_X8_look_103 : Dc cX8_look 103 (.iload_n 2) 1 104 := ⟨by decide +kernel, rfl⟩
theorem e_X8_look_104 : Dc cX8_look 104 (.bipush 59) 2 106 := ⟨by decide +kernel, rfl⟩
theorem e_X8_look_106 : Dc cX8_look 106 (.if_icmp .ne 7) 3 109 := ⟨by decide +kernel, rfl⟩
theorem e_X8_look_109 : Dc cX8_look 109 (.iconst 3) 1 110 := ⟨by decide +kernel, rfl⟩
theorem e_X8_look_110 : Dc cX8_look 110 (.goto 4) 3 113 := ⟨by decide +kernel, rfl⟩
theorem e_X8_look_113 : Dc cX8_look 113 (.iconst 4) 1 114 := ⟨by decide +kernel, rfl⟩
theorem e_X8_look_114 : Dc cX8_look 114 (.putfield 265) 3 117 := ⟨by decide +kernel, rfl⟩
theorem e_X8_look_117 : Dc cX8_look 117 (.aload_n 0) 1 118 := ⟨by decide +kernel, rfl⟩
theorem e_X8_look_118 : Dc cX8_look 118 (.iconst 1) 1 119 := ⟨by decide +kernel, rfl⟩
theorem e_X8_look_119 : Dc cX8_look 119 (.putfield 262) 3 122 := ⟨by decide +kernel, rfl⟩
theorem e_X8_look_122 : Dc cX8_look 122 (.aload_n 0) 1 123 := ⟨by decide +kernel, rfl⟩
theorem e_X8_look_123 : Dc cX8_look 123 (.getfield 265) 3 126 := ⟨by decide +kernel, rfl⟩
theorem e_X8_look_126 : Dc cX8_look 126 (.iconst 3) 1 127 := ⟨by decide +kernel, rfl⟩
theorem e_X8_look_127 : Dc cX8_look 127 (.if_icmp .ge 7) 3 130 := ⟨by decide +kernel, rfl⟩
theorem e_X8_look_130 : Dc cX8_look 130 (.iconst 1) 1 131 := ⟨by decide +kernel, rfl⟩
theorem e_X8_look_131 : Dc cX8_look 131 (.goto 4) 3 134 := ⟨by decide +kernel, rfl⟩
theorem e_X8_look_134 : Dc cX8_look 134 (.iconst 0) 1 135 := ⟨by decide +kernel, rfl⟩
theorem e_X8_look_135 : Dc cX8_look 135 (.istore_n 3) 1 136 := ⟨by decide +kernel, rfl⟩
theorem e_X8_look_136 : Dc cX8_look 136 (.iload_n 3) 1 137 := ⟨by decide +kernel, rfl⟩
theorem e_X8_look_137 : Dc cX8_look 137 (.ifCond .eq 78) 3 140 := ⟨by decide +kernel, rfl⟩
theorem e_X8_look_140 : Dc cX8_look 140 (.aload_n 0) 1 141 := ⟨by decide +kernel, rfl⟩
theorem e_X8_look_141 : Dc cX8_look 141 (.getfield 259) 3 144 := ⟨by decide +kernel, rfl⟩
theorem e_X8_look_144 : Dc cX8_look 144 (.aload_n 0) 1 145 := ⟨by decide +kernel, rfl⟩
theorem e_X8_look_145 : Dc cX8_look 145 (.getfield 262) 3 148 := ⟨by decide +kernel, rfl⟩
theorem e_X8_look_148 : Dc cX8_look 148 (.iadd) 1 149 := ⟨by decide +kernel, rfl⟩
theorem e_X8_look_149 : Dc cX8_look 149 (.aload_n 0) 1 150 := ⟨by decide +kernel, rfl⟩
theorem e_X8_look_150 : Dc cX8_look 150 (.getfield 248) 3 153 := ⟨by decide +kernel, rfl⟩
theorem e_X8_look_153 : Dc cX8_look 153 (.if_icmp .ge 62) 3 156 := ⟨by decide +kernel, rfl⟩
theorem e_X8_look_156 : Dc cX8_look 156 (.aload_n 0) 1 157 := ⟨by decide +kernel, rfl⟩
theorem e_X8_look_157 : Dc cX8_look 157 (.getfield 62) 3 160 := ⟨by decide +kernel, rfl⟩
theorem e_X8_look_160 : Dc cX8_look 160 (.aload_n 0) 1 161 := ⟨by decide +kernel, rfl⟩
theorem e_X8_look_161 : Dc cX8_look 161 (.getfield 259) 3 164 := ⟨by decide +kernel, rfl⟩
theorem e_X8_look_164 : Dc cX8_look 164 (.aload_n 0) 1 165 := ⟨by decide +kernel, rfl⟩
theorem e_X8_look_165 : Dc cX8_look 165 (.getfield 262) 3 168 := ⟨by decide +kernel, rfl⟩
theorem e_X8_look_168 : Dc cX8_look 168 (.iadd) 1 169 := ⟨by decide +kernel, rfl⟩
theorem e_X8_look_169 : Dc cX8_look 169 (.iaload) 1 170 := ⟨by decide +kernel, rfl⟩
theorem e_X8_look_170 : Dc cX8_look 170 (.istore 4) 2 172 := ⟨by decide +kernel, rfl⟩
theorem e_X8_look_172 : Dc cX8_look 172 (.aload_n 0) 1 173 := ⟨by decide +kernel, rfl⟩
theorem e_X8_look_173 : Dc cX8_look 173 (.getfield 265) 3 176 := ⟨by decide +kernel, rfl⟩
theorem e_X8_look_176 : Dc cX8_look 176 (.iconst 1) 1 177 := ⟨by decide +kernel, rfl⟩
theorem e_X8_look_177 : Dc cX8_look 177 (.if_icmp .ne 11) 3 180 := ⟨by decide +kernel, rfl⟩
theorem e_X8_look_180 : Dc cX8_look 180 (.iload 4) 2 182 := ⟨by decide +kernel, rfl⟩
theorem e_X8_look_182 : Dc cX8_look 182 (.invokestatic 271) 3 185 := ⟨by decide +kernel, rfl⟩
theorem e_X8_look_185 : Dc cX8_look 185 (.goto 8) 3 188 := ⟨by decide +kernel, rfl⟩
theorem e_X8_look_188 : Dc cX8_look 188 (.iload 4) 2 190 := ⟨by decide +kernel, rfl⟩
theorem e_X8_look_190 : Dc cX8_look 190 (.invokestatic 274) 3 193 := ⟨by decide +kernel, rfl⟩
theorem e_X8_look_193 : Dc cX8_look 193 (.istore_n 3) 1 194 := ⟨by decide +kernel, rfl⟩
theorem e_X8_look_194 : Dc cX8_look 194 (.aload_n 0) 1 195 := ⟨by decide +kernel, rfl⟩
theorem e_X8_look_195 : Dc cX8_look 195 (.dup) 1 196 := ⟨by decide +kernel, rfl⟩
theorem e_X8_look_196 : Dc cX8_look 196 (.getfield 262) 3 199 := ⟨by decide +kernel, rfl⟩
theorem e_X8_look_199 : Dc cX8_look 199 (.iload_n 3) 1 200 := ⟨by decide +kernel, rfl⟩
theorem e_X8_look_200 : Dc cX8_look 200 (.ifCond .eq 7) 3 203 := ⟨by decide +kernel, rfl⟩
theorem e_X8_look_203 : Dc cX8_look 203 (.iconst 1) 1 204 := ⟨by decide +kernel, rfl⟩
theorem e_X8_look_204 : Dc cX8_look 204 (.goto 4) 3 207 := ⟨by decide +kernel, rfl⟩
theorem e_X8_look_207 : Dc cX8_look 207 (.iconst 0) 1 208 := ⟨by decide +kernel, rfl⟩
theorem e_X8_look_208 : Dc cX8_look 208 (.iadd) 1 209 := ⟨by decide +kernel, rfl⟩
theorem e_X8_look_209 : Dc cX8_look 209 (.putfield 262) 3 212 := ⟨by decide +kernel, rfl⟩
theorem e_X8_look_212 : Dc cX8_look 212 (.goto (-76)) 3 215 := ⟨by decide +kernel, rfl⟩
theorem e_X8_look_215 : Dc cX8_look 215 (.iconst 0) 1 216 := ⟨by decide +kernel, rfl⟩
theorem e_X8_look_216 : Dc cX8_look 216 (.istore 4) 2 218 := ⟨by decide +kernel, rfl⟩
theorem e_X8_look_218 : Dc cX8_look 218 (.iload 4) 2 220 := ⟨by decide +kernel, rfl⟩
theorem e_X8_look_220 : Dc cX8_look 220 (.aload_n 0) 1 221 := ⟨by decide +kernel, rfl⟩
theorem e_X8_look_221 : Dc cX8_look 221 (.getfield 262) 3 224 := ⟨by decide +kernel, rfl⟩
theorem e_X8_look_224 : Dc cX8_look 224 (.if_icmp .ge 50) 3 227 := ⟨by decide +kernel, rfl⟩
theorem e_X8_look_227 : Dc cX8_look 227 (.iload 4) 2 229 := ⟨by decide +kernel, rfl⟩
theorem e_X8_look_229 : Dc cX8_look 229 (.iconst 2) 1 230 := ⟨by decide +kernel, rfl⟩
theorem e_X8_look_230 : Dc cX8_look 230 (.if_icmp .ge 44) 3 233 := ⟨by decide +kernel, rfl⟩
theorem e_X8_look_233 : Dc cX8_look 233 (.aload_n 0) 1 234 := ⟨by decide +kernel, rfl⟩
theorem e_X8_look_234 : Dc cX8_look 234 (.getfield 265) 3 237 := ⟨by decide +kernel, rfl⟩
theorem e_X8_look_237 : Dc cX8_look 237 (.iconst 2) 1 238 := ⟨by decide +kernel, rfl⟩
theorem e_X8_look_238 : Dc cX8_look 238 (.if_icmp .ne 36) 3 241 := ⟨by decide +kernel, rfl⟩
theorem e_X8_look_241 : Dc cX8_look 241 (.aload_n 0) 1 242 := ⟨by decide +kernel, rfl⟩
theorem e_X8_look_242 : Dc cX8_look 242 (.bipush 10) 2 244 := ⟨by decide +kernel, rfl⟩
theorem e_X8_look_244 : Dc cX8_look 244 (.aload_n 0) 1 245 := ⟨by decide +kernel, rfl⟩
theorem e_X8_look_245 : Dc cX8_look 245 (.getfield 268) 3 248 := ⟨by decide +kernel, rfl⟩
theorem e_X8_look_248 : Dc cX8_look 248 (.imul) 1 249 := ⟨by decide +kernel, rfl⟩
theorem e_X8_look_249 : Dc cX8_look 249 (.aload_n 0) 1 250 := ⟨by decide +kernel, rfl⟩
theorem e_X8_look_250 : Dc cX8_look 250 (.getfield 62) 3 253 := ⟨by decide +kernel, rfl⟩
theorem e_X8_look_253 : Dc cX8_look 253 (.aload_n 0) 1 254 := ⟨by decide +kernel, rfl⟩
theorem e_X8_look_254 : Dc cX8_look 254 (.getfield 259) 3 257 := ⟨by decide +kernel, rfl⟩
theorem e_X8_look_257 : Dc cX8_look 257 (.iload 4) 2 259 := ⟨by decide +kernel, rfl⟩
theorem e_X8_look_259 : Dc cX8_look 259 (.iadd) 1 260 := ⟨by decide +kernel, rfl⟩
theorem e_X8_look_260 : Dc cX8_look 260 (.iaload) 1 261 := ⟨by decide +kernel, rfl⟩
theorem e_X8_look_261 : Dc cX8_look 261 (.iadd) 1 262 := ⟨by decide +kernel, rfl⟩
theorem e_X8_look_262 : Dc cX8_look 262 (.bipush 48) 2 264 := ⟨by decide +kernel, rfl⟩
theorem e_X8_look_264 : Dc cX8_look 264 (.isub) 1 265 := ⟨by decide +kernel, rfl⟩
theorem e_X8_look_265 : Dc cX8_look 265 (.putfield 268) 3 268 := ⟨by decide +kernel, rfl⟩
theorem e_X8_look_268 : Dc cX8_look 268 (.iinc 4 1) 3 271 := ⟨by decide +kernel, rfl⟩
theorem e_X8_look_271 : Dc cX8_look 271 (.goto (-53)) 3 274 := ⟨by decide +kernel, rfl⟩
theorem e_X8_look_274 : Dc cX8_look 274 (.aload_n 0) 1 275 := ⟨by decide +kernel, rfl⟩
theorem e_X8_look_275 : Dc cX8_look 275 (.aload_n 0) 1 276 := ⟨by decide +kernel, rfl⟩
theorem e_X8_look_276 : Dc cX8_look 276 (.getfield 265) 3 279 := ⟨by decide +kernel, rfl⟩
theorem e_X8_look_279 : Dc cX8_look 279 (.iconst 2) 1 280 := ⟨by decide +kernel, rfl⟩
theorem e_X8_look_280 : Dc cX8_look 280 (.if_icmp .ne 15) 3 283 := ⟨by decide +kernel, rfl⟩
theorem e_X8_look_283 : Dc cX8_look 283 (.aload_n 0) 1 284 := ⟨by decide +kernel, rfl⟩
theorem e_X8_look_284 : Dc cX8_look 284 (.getfield 262) 3 287 := ⟨by decide +kernel, rfl⟩
theorem e_X8_look_287 : Dc cX8_look 287 (.iconst 2) 1 288 := ⟨by decide +kernel, rfl⟩
theorem e_X8_look_288 : Dc cX8_look 288 (.if_icmp .le 7) 3 291 := ⟨by decide +kernel, rfl⟩
theorem e_X8_look_291 : Dc cX8_look 291 (.iconst 4) 1 292 := ⟨by decide +kernel, rfl⟩
theorem e_X8_look_292 : Dc cX8_look 292 (.goto 7) 3 295 := ⟨by decide +kernel, rfl⟩
theorem e_X8_look_295 : Dc cX8_look 295 (.aload_n 0) 1 296 := ⟨by decide +kernel, rfl⟩
theorem e_X8_look_296 : Dc cX8_look 296 (.getfield 265) 3 299 := ⟨by decide +kernel, rfl⟩
theorem e_X8_look_299 : Dc cX8_look 299 (.putfield 265) 3 302 := ⟨by decide +kernel, rfl⟩
theorem e_X8_look_302 : Dc cX8_look 302 (.return_) 1 303 := ⟨by decide +kernel, rfl⟩
set_option maxHeartbeats 4000000 in
set_option maxRecDepth 20000 in
theorem R_X8_look (hD : DD E) (x1 : Int32) (s : Sg) : ∀ τ, (f_X8_look x1 s) = some τ → RV l E 2 M_X8_look [.ref (ead E 70), .int x1] s τ := by
  refine ofU hD (by decide +kernel) (Nat.le_of_ble_eq_true rfl) (fun X C => ?_)
  show MF l E X (fun q : Sg => QV E X q) (f_X8_look x1 s) s 0 [(0, .ref (ead E 70)), (1, .int x1)] []
  unfold f_X8_look
  refine MF.aload_n C e_X8_look_0 0 rfl rfl ?_
  refine MF.iload_n C e_X8_look_1 1 rfl rfl ?_
  refine MF.put C cf_X8 l_X8_259 p_X8_23 e_X8_look_2 kF_70_23 rfl ?_
  refine MF.nmS (fun s1 => ?_)
  refine MF.sub [0] rfl ?_
  refine MF.join (fun j : Sg → Option Sg => ∀ (s2 : Sg), MF l E X (fun q : Sg => QV E X q) (j s2) s2 43 [(0, .ref (ead E 70))] []) ?_ (fun j3 hj3 => ?_)
  · intro s2
    refine MF.aload_n C e_X8_look_43 0 rfl rfl ?_
    refine MF.iconst (v := (nI 0)) C e_X8_look_44 rfl ?_
    refine MF.put C cf_X8 l_X8_262 p_X8_24 e_X8_look_45 kF_70_24 rfl ?_
    refine MF.nmS (fun s4 => ?_)
    refine MF.aload_n C e_X8_look_48 0 rfl rfl ?_
    refine MF.iconst (v := (nI 0)) C e_X8_look_49 rfl ?_
    refine MF.put C cf_X8 l_X8_265 p_X8_25 e_X8_look_50 kF_70_25 rfl ?_
    refine MF.nmS (fun s5 => ?_)
    refine MF.aload_n C e_X8_look_53 0 rfl rfl ?_
    refine MF.iconst (v := (nI 0)) C e_X8_look_54 rfl ?_
    refine MF.put C cf_X8 l_X8_268 p_X8_26 e_X8_look_55 kF_70_26 rfl ?_
    refine MF.nmS (fun s6 => ?_)
    refine MF.aload_n C e_X8_look_58 0 rfl rfl ?_
    refine MF.get C cf_X8 l_X8_259 e_X8_look_59 kF_70_23 ?_
    refine MF.aload_n C e_X8_look_62 0 rfl rfl ?_
    refine MF.get C cf_X8 l_X8_248 e_X8_look_63 kF_70_22 ?_
    refine MF.icmp_ne (tgt := 70) C e_X8_look_66 (by decide) (fun _ => ?_) (fun _ => ?_)
    · refine MF.aload_n C e_X8_look_70 0 rfl rfl ?_
      refine MF.getR (j := 88) C cf_X8 l_X8_62 e_X8_look_71 kF_70_21 ?_
      refine MF.aload_n C e_X8_look_74 0 rfl rfl ?_
      refine MF.get C cf_X8 l_X8_259 e_X8_look_75 kF_70_23 ?_
      refine MF.iald C e_X8_look_78 kA_88 (fun v7 => ?_)
      refine MF.istore_n (lv' := [(0, .ref (ead E 70)), (2, .int v7)]) C e_X8_look_79 (by decide) rfl ?_
      refine MF.aload_n C e_X8_look_80 0 rfl rfl ?_
      refine MF.iload_n C e_X8_look_81 1 rfl rfl ?_
      refine MF.callSP (As := [.int v7]) C (R_X8_isSmall hD v7 s6) m_X8_isSmall k_X8_271 (by decide) e_X8_look_82 rfl rfl (Nat.le_of_ble_eq_true rfl) (fun v8 => ?_)
      refine MF.join (fun j : Int32 → Option Sg => ∀ (a9 : Int32), MF l E X (fun q : Sg => QV E X q) (j a9) s6 114 [(0, .ref (ead E 70))] [.int a9, .ref (ead E 70)]) ?_ (fun j10 hj10 => ?_)
      · intro a9
        refine MF.put C cf_X8 l_X8_265 p_X8_25 e_X8_look_114 kF_70_25 rfl ?_
        refine MF.nmS (fun s11 => ?_)
        refine MF.aload_n C e_X8_look_117 0 rfl rfl ?_
        refine MF.iconst (v := (nI 1)) C e_X8_look_118 rfl ?_
        refine MF.put C cf_X8 l_X8_262 p_X8_24 e_X8_look_119 kF_70_24 rfl ?_
        refine MF.nmS (fun s12 => ?_)
        refine MF.aload_n C e_X8_look_122 0 rfl rfl ?_
        refine MF.get C cf_X8 l_X8_265 e_X8_look_123 kF_70_25 ?_
        refine MF.iconst (v := (nI 3)) C e_X8_look_126 rfl ?_
        refine MF.join (fun j : Int32 → Option Sg => ∀ (a13 : Int32), MF l E X (fun q : Sg => QV E X q) (j a13) s12 135 [(0, .ref (ead E 70))] [.int a13]) ?_ (fun j14 hj14 => ?_)
        · intro a13
          refine MF.istore_n (lv' := [(0, .ref (ead E 70)), (3, .int a13)]) C e_X8_look_135 (by decide) rfl ?_
          refine MF.join (fun j : Sg → Option Sg => ∀ (s15 : Sg), MF l E X (fun q : Sg => QV E X q) (j s15) s15 215 [(0, .ref (ead E 70))] []) ?_ (fun j16 hj16 => ?_)
          · intro s15
            refine MF.iconst (v := (nI 0)) C e_X8_look_215 rfl ?_
            refine MF.istore (lv' := [(0, .ref (ead E 70)), (4, .int (nI 0))]) C e_X8_look_216 (by decide) rfl ?_
            refine MF.join (fun j : Sg → Option Sg => ∀ (s17 : Sg), MF l E X (fun q : Sg => QV E X q) (j s17) s17 274 [(0, .ref (ead E 70))] []) ?_ (fun j18 hj18 => ?_)
            · intro s17
              refine MF.aload_n C e_X8_look_274 0 rfl rfl ?_
              refine MF.aload_n C e_X8_look_275 0 rfl rfl ?_
              refine MF.get C cf_X8 l_X8_265 e_X8_look_276 kF_70_25 ?_
              refine MF.iconst (v := (nI 2)) C e_X8_look_279 rfl ?_
              refine MF.icmp_ne (tgt := 295) C e_X8_look_280 (by decide) (fun _ => ?_) (fun _ => ?_)
              · refine MF.aload_n C e_X8_look_295 0 rfl rfl ?_
                refine MF.get C cf_X8 l_X8_265 e_X8_look_296 kF_70_25 ?_
                refine MF.put C cf_X8 l_X8_265 p_X8_25 e_X8_look_299 kF_70_25 rfl ?_
                refine MF.nmS (fun s19 => ?_)
                exact MF.vret C e_X8_look_302
              · refine MF.aload_n C e_X8_look_283 0 rfl rfl ?_
                refine MF.get C cf_X8 l_X8_262 e_X8_look_284 kF_70_24 ?_
                refine MF.iconst (v := (nI 2)) C e_X8_look_287 rfl ?_
                refine MF.icmp_le (tgt := 295) C e_X8_look_288 (by decide) (fun _ => ?_) (fun _ => ?_)
                · refine MF.aload_n C e_X8_look_295 0 rfl rfl ?_
                  refine MF.get C cf_X8 l_X8_265 e_X8_look_296 kF_70_25 ?_
                  refine MF.put C cf_X8 l_X8_265 p_X8_25 e_X8_look_299 kF_70_25 rfl ?_
                  refine MF.nmS (fun s20 => ?_)
                  exact MF.vret C e_X8_look_302
                · refine MF.iconst (v := (nI 4)) C e_X8_look_291 rfl ?_
                  refine MF.goto (tgt := 299) C e_X8_look_292 (by decide) ?_
                  refine MF.put C cf_X8 l_X8_265 p_X8_25 e_X8_look_299 kF_70_25 rfl ?_
                  refine MF.nmS (fun s21 => ?_)
                  exact MF.vret C e_X8_look_302
            refine MF.loop2 (fun i22 s23 => s23) (fun i22 s23 => [(0, .ref (ead E 70)), (4, .int i22)]) (fun self24 hself24 i22 s23 => ?_) fu (nI 0) s15
            unfold b_X8_look_218
            refine MF.iload C e_X8_look_218 1 rfl ?_
            refine MF.aload_n C e_X8_look_220 0 rfl rfl ?_
            refine MF.get C cf_X8 l_X8_262 e_X8_look_221 kF_70_24 ?_
            refine MF.icmp_ge (tgt := 274) C e_X8_look_224 (by decide) (fun _ => ?_) (fun _ => ?_)
            · refine MF.sub [0] rfl ?_
              exact hj18 s23
            · refine MF.iload C e_X8_look_227 1 rfl ?_
              refine MF.iconst (v := (nI 2)) C e_X8_look_229 rfl ?_
              refine MF.icmp_ge (tgt := 274) C e_X8_look_230 (by decide) (fun _ => ?_) (fun _ => ?_)
              · refine MF.sub [0] rfl ?_
                exact hj18 s23
              · refine MF.aload_n C e_X8_look_233 0 rfl rfl ?_
                refine MF.get C cf_X8 l_X8_265 e_X8_look_234 kF_70_25 ?_
                refine MF.iconst (v := (nI 2)) C e_X8_look_237 rfl ?_
                refine MF.icmp_ne (tgt := 274) C e_X8_look_238 (by decide) (fun _ => ?_) (fun _ => ?_)
                · refine MF.sub [0] rfl ?_
                  exact hj18 s23
                · refine MF.aload_n C e_X8_look_241 0 rfl rfl ?_
                  refine MF.bipush (v := (nI 10)) C e_X8_look_242 (by decide) ?_
                  refine MF.aload_n C e_X8_look_244 0 rfl rfl ?_
                  refine MF.get C cf_X8 l_X8_268 e_X8_look_245 kF_70_26 ?_
                  refine MF.imul C e_X8_look_248 ?_
                  refine MF.aload_n C e_X8_look_249 0 rfl rfl ?_
                  refine MF.getR (j := 88) C cf_X8 l_X8_62 e_X8_look_250 kF_70_21 ?_
                  refine MF.aload_n C e_X8_look_253 0 rfl rfl ?_
                  refine MF.get C cf_X8 l_X8_259 e_X8_look_254 kF_70_23 ?_
                  refine MF.iload C e_X8_look_257 1 rfl ?_
                  refine MF.iadd C e_X8_look_259 ?_
                  refine MF.iald C e_X8_look_260 kA_88 (fun v25 => ?_)
                  refine MF.iadd C e_X8_look_261 ?_
                  refine MF.bipush (v := (nI 48)) C e_X8_look_262 (by decide) ?_
                  refine MF.isub C e_X8_look_264 ?_
                  refine MF.put C cf_X8 l_X8_268 p_X8_26 e_X8_look_265 kF_70_26 rfl ?_
                  refine MF.nmS (fun s26 => ?_)
                  refine MF.iinc (v := (nI 1)) (lv' := [(0, .ref (ead E 70)), (4, .int (i22 + (nI 1)))]) C e_X8_look_268 1 rfl rfl (by decide) rfl ?_
                  refine MF.goto (tgt := 218) C e_X8_look_271 (by decide) ?_
                  exact hself24 (i22 + (nI 1)) s26
          refine MF.loop2 (fun i27 s28 => s28) (fun i27 s28 => [(0, .ref (ead E 70)), (3, .int i27)]) (fun self29 hself29 i27 s28 => ?_) fu a13 s12
          unfold b_X8_look_136
          refine MF.iload_n C e_X8_look_136 1 rfl rfl ?_
          refine MF.if_eq (tgt := 215) C e_X8_look_137 (by decide) (fun _ => ?_) (fun _ => ?_)
          · refine MF.sub [0] rfl ?_
            exact hj16 s28
          · refine MF.aload_n C e_X8_look_140 0 rfl rfl ?_
            refine MF.get C cf_X8 l_X8_259 e_X8_look_141 kF_70_23 ?_
            refine MF.aload_n C e_X8_look_144 0 rfl rfl ?_
            refine MF.get C cf_X8 l_X8_262 e_X8_look_145 kF_70_24 ?_
            refine MF.iadd C e_X8_look_148 ?_
            refine MF.aload_n C e_X8_look_149 0 rfl rfl ?_
            refine MF.get C cf_X8 l_X8_248 e_X8_look_150 kF_70_22 ?_
            refine MF.icmp_ge (tgt := 215) C e_X8_look_153 (by decide) (fun _ => ?_) (fun _ => ?_)
            · refine MF.sub [0] rfl ?_
              exact hj16 s28
            · refine MF.aload_n C e_X8_look_156 0 rfl rfl ?_
              refine MF.getR (j := 88) C cf_X8 l_X8_62 e_X8_look_157 kF_70_21 ?_
              refine MF.aload_n C e_X8_look_160 0 rfl rfl ?_
              refine MF.get C cf_X8 l_X8_259 e_X8_look_161 kF_70_23 ?_
              refine MF.aload_n C e_X8_look_164 0 rfl rfl ?_
              refine MF.get C cf_X8 l_X8_262 e_X8_look_165 kF_70_24 ?_
              refine MF.iadd C e_X8_look_168 ?_
              refine MF.iald C e_X8_look_169 kA_88 (fun v30 => ?_)
              refine MF.istore (lv' := [(0, .ref (ead E 70)), (3, .int i27), (4, .int v30)]) C e_X8_look_170 (by decide) rfl ?_
              refine MF.aload_n C e_X8_look_172 0 rfl rfl ?_
              refine MF.get C cf_X8 l_X8_265 e_X8_look_173 kF_70_25 ?_
              refine MF.iconst (v := (nI 1)) C e_X8_look_176 rfl ?_
              refine MF.join (fun j : Int32 → Option Sg => ∀ (a31 : Int32), MF l E X (fun q : Sg => QV E X q) (j a31) s28 193 [(0, .ref (ead E 70))] [.int a31]) ?_ (fun j32 hj32 => ?_)
              · intro a31
                refine MF.istore_n (lv' := [(0, .ref (ead E 70)), (3, .int a31)]) C e_X8_look_193 (by decide) rfl ?_
                refine MF.aload_n C e_X8_look_194 0 rfl rfl ?_
                refine MF.dup C e_X8_look_195 rfl ?_
                refine MF.get C cf_X8 l_X8_262 e_X8_look_196 kF_70_24 ?_
                refine MF.iload_n C e_X8_look_199 1 rfl rfl ?_
                refine MF.join (fun j : Int32 → Option Sg => ∀ (a33 : Int32), MF l E X (fun q : Sg => QV E X q) (j a33) s28 208 [(0, .ref (ead E 70)), (3, .int a31)] [.int a33, .int (s28 70 24), .ref (ead E 70)]) ?_ (fun j34 hj34 => ?_)
                · intro a33
                  refine MF.iadd C e_X8_look_208 ?_
                  refine MF.put C cf_X8 l_X8_262 p_X8_24 e_X8_look_209 kF_70_24 rfl ?_
                  refine MF.nmS (fun s35 => ?_)
                  refine MF.goto (tgt := 136) C e_X8_look_212 (by decide) ?_
                  exact hself29 a31 s35
                refine MF.if_eq (tgt := 207) C e_X8_look_200 (by decide) (fun _ => ?_) (fun _ => ?_)
                · refine MF.iconst (v := (nI 0)) C e_X8_look_207 rfl ?_
                  exact hj34 (nI 0)
                · refine MF.iconst (v := (nI 1)) C e_X8_look_203 rfl ?_
                  refine MF.goto (tgt := 208) C e_X8_look_204 (by decide) ?_
                  exact hj34 (nI 1)
              refine MF.icmp_ne (tgt := 188) C e_X8_look_177 (by decide) (fun _ => ?_) (fun _ => ?_)
              · refine MF.iload C e_X8_look_188 2 rfl ?_
                refine MF.callSP (As := [.int v30]) C (R_X8_isFigure hD v30 s28) m_X8_isFigure k_X8_274 (by decide) e_X8_look_190 rfl rfl (Nat.le_of_ble_eq_true rfl) (fun v36 => ?_)
                refine MF.sub [0] rfl ?_
                exact hj32 v36
              · refine MF.iload C e_X8_look_180 2 rfl ?_
                refine MF.callSP (As := [.int v30]) C (R_X8_isSmall hD v30 s28) m_X8_isSmall k_X8_271 (by decide) e_X8_look_182 rfl rfl (Nat.le_of_ble_eq_true rfl) (fun v37 => ?_)
                refine MF.goto (tgt := 193) C e_X8_look_185 (by decide) ?_
                refine MF.sub [0] rfl ?_
                exact hj32 v37
        refine MF.icmp_ge (tgt := 134) C e_X8_look_127 (by decide) (fun _ => ?_) (fun _ => ?_)
        · refine MF.iconst (v := (nI 0)) C e_X8_look_134 rfl ?_
          exact hj14 (nI 0)
        · refine MF.iconst (v := (nI 1)) C e_X8_look_130 rfl ?_
          refine MF.goto (tgt := 135) C e_X8_look_131 (by decide) ?_
          exact hj14 (nI 1)
      refine MF.if_eq (tgt := 92) C e_X8_look_85 (by decide) (fun _ => ?_) (fun _ => ?_)
      · refine MF.iload_n C e_X8_look_92 1 rfl rfl ?_
        refine MF.callSP (As := [.int v7]) C (R_X8_isFigure hD v7 s6) m_X8_isFigure k_X8_274 (by decide) e_X8_look_93 rfl rfl (Nat.le_of_ble_eq_true rfl) (fun v38 => ?_)
        refine MF.if_eq (tgt := 103) C e_X8_look_96 (by decide) (fun _ => ?_) (fun _ => ?_)
        · refine MF.iload_n C e_X8_look_103 1 rfl rfl ?_
          refine MF.bipush (v := (nI 59)) C e_X8_look_104 (by decide) ?_
          refine MF.icmp_ne (tgt := 113) C e_X8_look_106 (by decide) (fun _ => ?_) (fun _ => ?_)
          · refine MF.iconst (v := (nI 4)) C e_X8_look_113 rfl ?_
            refine MF.sub [0] rfl ?_
            exact hj10 (nI 4)
          · refine MF.iconst (v := (nI 3)) C e_X8_look_109 rfl ?_
            refine MF.goto (tgt := 114) C e_X8_look_110 (by decide) ?_
            refine MF.sub [0] rfl ?_
            exact hj10 (nI 3)
        · refine MF.iconst (v := (nI 2)) C e_X8_look_99 rfl ?_
          refine MF.goto (tgt := 114) C e_X8_look_100 (by decide) ?_
          refine MF.sub [0] rfl ?_
          exact hj10 (nI 2)
      · refine MF.iconst (v := (nI 1)) C e_X8_look_88 rfl ?_
        refine MF.goto (tgt := 114) C e_X8_look_89 (by decide) ?_
        refine MF.sub [0] rfl ?_
        exact hj10 (nI 1)
    · exact MF.vret C e_X8_look_69
  refine MF.loop1 (fun s39 => s39) (fun s39 => [(0, .ref (ead E 70))]) (fun self40 hself40 s39 => ?_) fu s1
  unfold b_X8_look_5
  refine MF.aload_n C e_X8_look_5 0 rfl rfl ?_
  refine MF.get C cf_X8 l_X8_259 e_X8_look_6 kF_70_23 ?_
  refine MF.aload_n C e_X8_look_9 0 rfl rfl ?_
  refine MF.get C cf_X8 l_X8_248 e_X8_look_10 kF_70_22 ?_
  refine MF.icmp_ge (tgt := 43) C e_X8_look_13 (by decide) (fun _ => ?_) (fun _ => ?_)
  · exact hj3 s39
  · refine MF.aload_n C e_X8_look_16 0 rfl rfl ?_
    refine MF.getR (j := 88) C cf_X8 l_X8_62 e_X8_look_17 kF_70_21 ?_
    refine MF.aload_n C e_X8_look_20 0 rfl rfl ?_
    refine MF.get C cf_X8 l_X8_259 e_X8_look_21 kF_70_23 ?_
    refine MF.iald C e_X8_look_24 kA_88 (fun v41 => ?_)
    refine MF.bipush (v := (nI 32)) C e_X8_look_25 (by decide) ?_
    refine MF.icmp_ne (tgt := 43) C e_X8_look_27 (by decide) (fun _ => ?_) (fun _ => ?_)
    · exact hj3 s39
    · refine MF.aload_n C e_X8_look_30 0 rfl rfl ?_
      refine MF.dup C e_X8_look_31 rfl ?_
      refine MF.get C cf_X8 l_X8_259 e_X8_look_32 kF_70_23 ?_
      refine MF.iconst (v := (nI 1)) C e_X8_look_35 rfl ?_
      refine MF.iadd C e_X8_look_36 ?_
      refine MF.put C cf_X8 l_X8_259 p_X8_23 e_X8_look_37 kF_70_23 rfl ?_
      refine MF.nmS (fun s42 => ?_)
      refine MF.goto (tgt := 5) C e_X8_look_40 (by decide) ?_
      exact hself40 s42
end WK
