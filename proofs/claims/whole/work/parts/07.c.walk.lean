section WK
variable {l : Launch} {E : EX}
theorem e_X3_weighPairs_0 : Dc cX3_weighPairs 0 (.aload 5) 2 2 := ⟨by decide +kernel, rfl⟩
theorem e_X3_weighPairs_2 : Dc cX3_weighPairs 2 (.invokevirtual 81) 3 5 := ⟨by decide +kernel, rfl⟩
theorem e_X3_weighPairs_5 : Dc cX3_weighPairs 5 (.istore 6) 2 7 := ⟨by decide +kernel, rfl⟩
theorem e_X3_weighPairs_7 : Dc cX3_weighPairs 7 (.iconst 0) 1 8 := ⟨by decide +kernel, rfl⟩
theorem e_X3_weighPairs_8 : Dc cX3_weighPairs 8 (.istore 7) 2 10 := ⟨by decide +kernel, rfl⟩
theorem e_X3_weighPairs_10 : Dc cX3_weighPairs 10 (.iload 7) 2 12 := ⟨by decide +kernel, rfl⟩
theorem e_X3_weighPairs_12 : Dc cX3_weighPairs 12 (.iconst 4) 1 13 := ⟨by decide +kernel, rfl⟩
theorem e_X3_weighPairs_13 : Dc cX3_weighPairs 13 (.if_icmp .ge 118) 3 16 := ⟨by decide +kernel, rfl⟩
theorem e_X3_weighPairs_16 : Dc cX3_weighPairs 16 (.aload_n 0) 1 17 := ⟨by decide +kernel, rfl⟩
theorem e_X3_weighPairs_17 : Dc cX3_weighPairs 17 (.getfield 28) 3 20 := ⟨by decide +kernel, rfl⟩
theorem e_X3_weighPairs_20 : Dc cX3_weighPairs 20 (.aload 5) 2 22 := ⟨by decide +kernel, rfl⟩
theorem e_X3_weighPairs_22 : Dc cX3_weighPairs 22 (.invokevirtual 84) 3 25 := ⟨by decide +kernel, rfl⟩
theorem e_X3_weighPairs_25 : Dc cX3_weighPairs 25 (.iload 7) 2 27 := ⟨by decide +kernel, rfl⟩
theorem e_X3_weighPairs_27 : Dc cX3_weighPairs 27 (.iconst 1) 1 28 := ⟨by decide +kernel, rfl⟩
theorem e_X3_weighPairs_28 : Dc cX3_weighPairs 28 (.iand) 1 29 := ⟨by decide +kernel, rfl⟩
theorem e_X3_weighPairs_29 : Dc cX3_weighPairs 29 (.ifCond .eq 15) 3 32 := ⟨by decide +kernel, rfl⟩
theorem e_X3_weighPairs_32 : Dc cX3_weighPairs 32 (.aload_n 0) 1 33 := ⟨by decide +kernel, rfl⟩
theorem e_X3_weighPairs_33 : Dc cX3_weighPairs 33 (.getfield 28) 3 36 := ⟨by decide +kernel, rfl⟩
theorem e_X3_weighPairs_36 : Dc cX3_weighPairs 36 (.iload_n 1) 1 37 := ⟨by decide +kernel, rfl⟩
theorem e_X3_weighPairs_37 : Dc cX3_weighPairs 37 (.iload 6) 2 39 := ⟨by decide +kernel, rfl⟩
theorem e_X3_weighPairs_39 : Dc cX3_weighPairs 39 (.iload_n 3) 1 40 := ⟨by decide +kernel, rfl⟩
theorem e_X3_weighPairs_40 : Dc cX3_weighPairs 40 (.invokevirtual 42) 3 43 := ⟨by decide +kernel, rfl⟩
theorem e_X3_weighPairs_43 : Dc cX3_weighPairs 43 (.pop) 1 44 := ⟨by decide +kernel, rfl⟩
theorem e_X3_weighPairs_44 : Dc cX3_weighPairs 44 (.iload 7) 2 46 := ⟨by decide +kernel, rfl⟩
theorem e_X3_weighPairs_46 : Dc cX3_weighPairs 46 (.iconst 2) 1 47 := ⟨by decide +kernel, rfl⟩
theorem e_X3_weighPairs_47 : Dc cX3_weighPairs 47 (.iand) 1 48 := ⟨by decide +kernel, rfl⟩
theorem e_X3_weighPairs_48 : Dc cX3_weighPairs 48 (.ifCond .eq 15) 3 51 := ⟨by decide +kernel, rfl⟩
theorem e_X3_weighPairs_51 : Dc cX3_weighPairs 51 (.aload_n 0) 1 52 := ⟨by decide +kernel, rfl⟩
theorem e_X3_weighPairs_52 : Dc cX3_weighPairs 52 (.getfield 28) 3 55 := ⟨by decide +kernel, rfl⟩
theorem e_X3_weighPairs_55 : Dc cX3_weighPairs 55 (.iload_n 2) 1 56 := ⟨by decide +kernel, rfl⟩
theorem e_X3_weighPairs_56 : Dc cX3_weighPairs 56 (.iload 6) 2 58 := ⟨by decide +kernel, rfl⟩
theorem e_X3_weighPairs_58 : Dc cX3_weighPairs 58 (.iload_n 3) 1 59 := ⟨by decide +kernel, rfl⟩
theorem e_X3_weighPairs_59 : Dc cX3_weighPairs 59 (.invokevirtual 42) 3 62 := ⟨by decide +kernel, rfl⟩
theorem e_X3_weighPairs_62 : Dc cX3_weighPairs 62 (.pop) 1 63 := ⟨by decide +kernel, rfl⟩
theorem e_X3_weighPairs_63 : Dc cX3_weighPairs 63 (.aload_n 0) 1 64 := ⟨by decide +kernel, rfl⟩
theorem e_X3_weighPairs_64 : Dc cX3_weighPairs 64 (.getfield 11) 3 67 := ⟨by decide +kernel, rfl⟩
theorem e_X3_weighPairs_67 : Dc cX3_weighPairs 67 (.iload 7) 2 69 := ⟨by decide +kernel, rfl⟩
theorem e_X3_weighPairs_69 : Dc cX3_weighPairs 69 (.aload_n 0) 1 70 := ⟨by decide +kernel, rfl⟩
theorem e_X3_weighPairs_70 : Dc cX3_weighPairs 70 (.getfield 28) 3 73 := ⟨by decide +kernel, rfl⟩
theorem e_X3_weighPairs_73 : Dc cX3_weighPairs 73 (.iload_n 1) 1 74 := ⟨by decide +kernel, rfl⟩
theorem e_X3_weighPairs_74 : Dc cX3_weighPairs 74 (.aload 5) 2 76 := ⟨by decide +kernel, rfl⟩
theorem e_X3_weighPairs_76 : Dc cX3_weighPairs 76 (.invokevirtual 88) 3 79 := ⟨by decide +kernel, rfl⟩
theorem e_X3_weighPairs_79 : Dc cX3_weighPairs 79 (.iload 7) 2 81 := ⟨by decide +kernel, rfl⟩
theorem e_X3_weighPairs_81 : Dc cX3_weighPairs 81 (.iconst 1) 1 82 := ⟨by decide +kernel, rfl⟩
theorem e_X3_weighPairs_82 : Dc cX3_weighPairs 82 (.iand) 1 83 := ⟨by decide +kernel, rfl⟩
theorem e_X3_weighPairs_83 : Dc cX3_weighPairs 83 (.ifCond .eq 8) 3 86 := ⟨by decide +kernel, rfl⟩
theorem e_X3_weighPairs_86 : Dc cX3_weighPairs 86 (.iload 4) 2 88 := ⟨by decide +kernel, rfl⟩
theorem e_X3_weighPairs_88 : Dc cX3_weighPairs 88 (.goto 4) 3 91 := ⟨by decide +kernel, rfl⟩
theorem e_X3_weighPairs_91 : Dc cX3_weighPairs 91 (.iconst 0) 1 92 := ⟨by decide +kernel, rfl⟩
theorem e_X3_weighPairs_92 : Dc cX3_weighPairs 92 (.isub) 1 93 := ⟨by decide +kernel, rfl⟩
theorem e_X3_weighPairs_93 : Dc cX3_weighPairs 93 (.iastore) 1 94 := ⟨by decide +kernel, rfl⟩
theorem e_X3_weighPairs_94 : Dc cX3_weighPairs 94 (.aload_n 0) 1 95 := ⟨by decide +kernel, rfl⟩
theorem e_X3_weighPairs_95 : Dc cX3_weighPairs 95 (.getfield 15) 3 98 := ⟨by decide +kernel, rfl⟩
theorem e_X3_weighPairs_98 : Dc cX3_weighPairs 98 (.iload 7) 2 100 := ⟨by decide +kernel, rfl⟩
theorem e_X3_weighPairs_100 : Dc cX3_weighPairs 100 (.aload_n 0) 1 101 := ⟨by decide +kernel, rfl⟩
theorem e_X3_weighPairs_101 : Dc cX3_weighPairs 101 (.getfield 28) 3 104 := ⟨by decide +kernel, rfl⟩
theorem e_X3_weighPairs_104 : Dc cX3_weighPairs 104 (.iload_n 2) 1 105 := ⟨by decide +kernel, rfl⟩
theorem e_X3_weighPairs_105 : Dc cX3_weighPairs 105 (.aload 5) 2 107 := ⟨by decide +kernel, rfl⟩
theorem e_X3_weighPairs_107 : Dc cX3_weighPairs 107 (.invokevirtual 88) 3 110 := ⟨by decide +kernel, rfl⟩
theorem e_X3_weighPairs_110 : Dc cX3_weighPairs 110 (.iload 7) 2 112 := ⟨by decide +kernel, rfl⟩
theorem e_X3_weighPairs_112 : Dc cX3_weighPairs 112 (.iconst 2) 1 113 := ⟨by decide +kernel, rfl⟩
theorem e_X3_weighPairs_113 : Dc cX3_weighPairs 113 (.iand) 1 114 := ⟨by decide +kernel, rfl⟩
theorem e_X3_weighPairs_114 : Dc cX3_weighPairs 114 (.ifCond .eq 8) 3 117 := ⟨by decide +kernel, rfl⟩
theorem e_X3_weighPairs_117 : Dc cX3_weighPairs 117 (.iload 4) 2 119 := ⟨by decide +kernel, rfl⟩
theorem e_X3_weighPairs_119 : Dc cX3_weighPairs 119 (.goto 4) 3 122 := ⟨by decide +kernel, rfl⟩
theorem e_X3_weighPairs_122 : Dc cX3_weighPairs 122 (.iconst 0) 1 123 := ⟨by decide +kernel, rfl⟩
theorem e_X3_weighPairs_123 : Dc cX3_weighPairs 123 (.isub) 1 124 := ⟨by decide +kernel, rfl⟩
theorem e_X3_weighPairs_124 : Dc cX3_weighPairs 124 (.iastore) 1 125 := ⟨by decide +kernel, rfl⟩
theorem e_X3_weighPairs_125 : Dc cX3_weighPairs 125 (.iinc 7 1) 3 128 := ⟨by decide +kernel, rfl⟩
theorem e_X3_weighPairs_128 : Dc cX3_weighPairs 128 (.goto (-118)) 3 131 := ⟨by decide +kernel, rfl⟩
theorem e_X3_weighPairs_131 : Dc cX3_weighPairs 131 (.return_) 1 132 := ⟨by decide +kernel, rfl⟩
set_option maxHeartbeats 4000000 in
set_option maxRecDepth 20000 in
theorem R_X3_weighPairs (hD : DD E) (x1 : Int32) (x2 : Int32) (x3 : Int32) (x4 : Int32) (t5 : Nat) (ht5 : iTo t5) (s : Sg) : ∀ τ, (f_X3_weighPairs x1 x2 x3 x4 t5 s) = some τ → RV l E 5 M_X3_weighPairs [.ref (ead E 63), .int x1, .int x2, .int x3, .int x4, .ref (ead E t5)] s τ := by
  refine ofU hD (by decide +kernel) (Nat.le_of_ble_eq_true rfl) (fun X C => ?_)
  show MF l E X (fun q : Sg => QV E X q) (f_X3_weighPairs x1 x2 x3 x4 t5 s) s 0 [(0, .ref (ead E 63)), (1, .int x1), (2, .int x2), (3, .int x3), (4, .int x4), (5, .ref (ead E t5))] []
  unfold f_X3_weighPairs
  refine MF.aload C e_X3_weighPairs_0 5 rfl ?_
  refine MF.callVP (As := []) C (R_X5_dearestWord hD t5 ht5 s) m_X5_dearestWord k_X3_81 (iTo.o ht5) rfl (by decide) e_X3_weighPairs_2 rfl rfl (Nat.le_of_ble_eq_true rfl) (fun v1 => ?_)
  refine MF.istore (lv' := [(0, .ref (ead E 63)), (1, .int x1), (2, .int x2), (3, .int x3), (4, .int x4), (5, .ref (ead E t5)), (6, .int v1)]) C e_X3_weighPairs_5 (by decide) rfl ?_
  refine MF.iconst (v := (nI 0)) C e_X3_weighPairs_7 rfl ?_
  refine MF.istore (lv' := [(0, .ref (ead E 63)), (1, .int x1), (2, .int x2), (3, .int x3), (4, .int x4), (5, .ref (ead E t5)), (6, .int v1), (7, .int (nI 0))]) C e_X3_weighPairs_8 (by decide) rfl ?_
  refine MF.loop2 (fun i2 s3 => s3) (fun i2 s3 => [(0, .ref (ead E 63)), (1, .int x1), (2, .int x2), (3, .int x3), (4, .int x4), (5, .ref (ead E t5)), (6, .int v1), (7, .int i2)]) (fun self4 hself4 i2 s3 => ?_) fu (nI 0) s
  unfold b_X3_weighPairs_10
  refine MF.iload C e_X3_weighPairs_10 7 rfl ?_
  refine MF.iconst (v := (nI 4)) C e_X3_weighPairs_12 rfl ?_
  refine MF.icmp_ge (tgt := 131) C e_X3_weighPairs_13 (by decide) (fun _ => ?_) (fun _ => ?_)
  · exact MF.vret C e_X3_weighPairs_131
  · refine MF.aload_n C e_X3_weighPairs_16 0 rfl rfl ?_
    refine MF.getR (j := 52) C cf_X3 l_X3_28 e_X3_weighPairs_17 kF_63_0 ?_
    refine MF.aload C e_X3_weighPairs_20 5 rfl ?_
    refine MF.callVU (As := [.ref (ead E t5)]) C (R_X0_plan hD t5 ht5 s3) m_X0_plan k_X3_84 kO_52 rfl (by decide) e_X3_weighPairs_22 rfl rfl (Nat.le_of_ble_eq_true rfl) (fun s5 => ?_)
    refine MF.iload C e_X3_weighPairs_25 7 rfl ?_
    refine MF.iconst (v := (nI 1)) C e_X3_weighPairs_27 rfl ?_
    refine MF.iand C e_X3_weighPairs_28 ?_
    refine MF.join (fun j : Sg → Option Sg => ∀ (s6 : Sg), MF l E X (fun q : Sg => QV E X q) (j s6) s6 44 [(0, .ref (ead E 63)), (1, .int x1), (2, .int x2), (3, .int x3), (4, .int x4), (5, .ref (ead E t5)), (6, .int v1), (7, .int i2)] []) ?_ (fun j7 hj7 => ?_)
    · intro s6
      refine MF.iload C e_X3_weighPairs_44 7 rfl ?_
      refine MF.iconst (v := (nI 2)) C e_X3_weighPairs_46 rfl ?_
      refine MF.iand C e_X3_weighPairs_47 ?_
      refine MF.join (fun j : Sg → Option Sg => ∀ (s8 : Sg), MF l E X (fun q : Sg => QV E X q) (j s8) s8 63 [(0, .ref (ead E 63)), (1, .int x1), (2, .int x2), (3, .int x3), (4, .int x4), (5, .ref (ead E t5)), (6, .int v1), (7, .int i2)] []) ?_ (fun j9 hj9 => ?_)
      · intro s8
        refine MF.aload_n C e_X3_weighPairs_63 0 rfl rfl ?_
        refine MF.getR (j := 64) C cf_X3 l_X3_11 e_X3_weighPairs_64 kF_63_1 ?_
        refine MF.iload C e_X3_weighPairs_67 7 rfl ?_
        refine MF.aload_n C e_X3_weighPairs_69 0 rfl rfl ?_
        refine MF.getR (j := 52) C cf_X3 l_X3_28 e_X3_weighPairs_70 kF_63_0 ?_
        refine MF.iload_n C e_X3_weighPairs_73 1 rfl rfl ?_
        refine MF.aload C e_X3_weighPairs_74 5 rfl ?_
        refine MF.callVI (As := [.int x1, .ref (ead E t5)]) C (R_X0_rentOf hD x1 t5 ht5 s8) m_X0_rentOf k_X3_88 kO_52 rfl (by decide) e_X3_weighPairs_76 rfl rfl (Nat.le_of_ble_eq_true rfl) (fun v10 s11 => ?_)
        refine MF.iload C e_X3_weighPairs_79 7 rfl ?_
        refine MF.iconst (v := (nI 1)) C e_X3_weighPairs_81 rfl ?_
        refine MF.iand C e_X3_weighPairs_82 ?_
        refine MF.join (fun j : Int32 → Option Sg => ∀ (a12 : Int32), MF l E X (fun q : Sg => QV E X q) (j a12) s11 92 [(0, .ref (ead E 63)), (1, .int x1), (2, .int x2), (3, .int x3), (4, .int x4), (5, .ref (ead E t5)), (6, .int v1), (7, .int i2)] [.int a12, .int v10, .int i2, .ref (ead E 64)]) ?_ (fun j13 hj13 => ?_)
        · intro a12
          refine MF.isub C e_X3_weighPairs_92 ?_
          refine MF.iast C e_X3_weighPairs_93 kA_64 (fun s14 => ?_)
          refine MF.aload_n C e_X3_weighPairs_94 0 rfl rfl ?_
          refine MF.getR (j := 65) C cf_X3 l_X3_15 e_X3_weighPairs_95 kF_63_2 ?_
          refine MF.iload C e_X3_weighPairs_98 7 rfl ?_
          refine MF.aload_n C e_X3_weighPairs_100 0 rfl rfl ?_
          refine MF.getR (j := 52) C cf_X3 l_X3_28 e_X3_weighPairs_101 kF_63_0 ?_
          refine MF.iload_n C e_X3_weighPairs_104 2 rfl rfl ?_
          refine MF.aload C e_X3_weighPairs_105 5 rfl ?_
          refine MF.callVI (As := [.int x2, .ref (ead E t5)]) C (R_X0_rentOf hD x2 t5 ht5 s14) m_X0_rentOf k_X3_88 kO_52 rfl (by decide) e_X3_weighPairs_107 rfl rfl (Nat.le_of_ble_eq_true rfl) (fun v15 s16 => ?_)
          refine MF.iload C e_X3_weighPairs_110 7 rfl ?_
          refine MF.iconst (v := (nI 2)) C e_X3_weighPairs_112 rfl ?_
          refine MF.iand C e_X3_weighPairs_113 ?_
          refine MF.join (fun j : Int32 → Option Sg => ∀ (a17 : Int32), MF l E X (fun q : Sg => QV E X q) (j a17) s16 123 [(0, .ref (ead E 63)), (1, .int x1), (2, .int x2), (3, .int x3), (4, .int x4), (5, .ref (ead E t5)), (6, .int v1), (7, .int i2)] [.int a17, .int v15, .int i2, .ref (ead E 65)]) ?_ (fun j18 hj18 => ?_)
          · intro a17
            refine MF.isub C e_X3_weighPairs_123 ?_
            refine MF.iast C e_X3_weighPairs_124 kA_65 (fun s19 => ?_)
            refine MF.iinc (v := (nI 1)) (lv' := [(0, .ref (ead E 63)), (1, .int x1), (2, .int x2), (3, .int x3), (4, .int x4), (5, .ref (ead E t5)), (6, .int v1), (7, .int (i2 + (nI 1)))]) C e_X3_weighPairs_125 7 rfl rfl (by decide) rfl ?_
            refine MF.goto (tgt := 10) C e_X3_weighPairs_128 (by decide) ?_
            exact hself4 (i2 + (nI 1)) s19
          refine MF.if_eq (tgt := 122) C e_X3_weighPairs_114 (by decide) (fun _ => ?_) (fun _ => ?_)
          · refine MF.iconst (v := (nI 0)) C e_X3_weighPairs_122 rfl ?_
            exact hj18 (nI 0)
          · refine MF.iload C e_X3_weighPairs_117 4 rfl ?_
            refine MF.goto (tgt := 123) C e_X3_weighPairs_119 (by decide) ?_
            exact hj18 x4
        refine MF.if_eq (tgt := 91) C e_X3_weighPairs_83 (by decide) (fun _ => ?_) (fun _ => ?_)
        · refine MF.iconst (v := (nI 0)) C e_X3_weighPairs_91 rfl ?_
          exact hj13 (nI 0)
        · refine MF.iload C e_X3_weighPairs_86 4 rfl ?_
          refine MF.goto (tgt := 92) C e_X3_weighPairs_88 (by decide) ?_
          exact hj13 x4
      refine MF.if_eq (tgt := 63) C e_X3_weighPairs_48 (by decide) (fun _ => ?_) (fun _ => ?_)
      · exact hj9 s6
      · refine MF.aload_n C e_X3_weighPairs_51 0 rfl rfl ?_
        refine MF.getR (j := 52) C cf_X3 l_X3_28 e_X3_weighPairs_52 kF_63_0 ?_
        refine MF.iload_n C e_X3_weighPairs_55 2 rfl rfl ?_
        refine MF.iload C e_X3_weighPairs_56 6 rfl ?_
        refine MF.iload_n C e_X3_weighPairs_58 3 rfl rfl ?_
        refine MF.callVI (As := [.int x2, .int v1, .int x3]) C (R_X0_addStaged hD x2 v1 x3 s6) m_X0_addStaged k_X3_42 kO_52 rfl (by decide) e_X3_weighPairs_59 rfl rfl (Nat.le_of_ble_eq_true rfl) (fun v20 s21 => ?_)
        refine MF.pop C e_X3_weighPairs_62 rfl ?_
        exact hj9 s21
    refine MF.if_eq (tgt := 44) C e_X3_weighPairs_29 (by decide) (fun _ => ?_) (fun _ => ?_)
    · exact hj7 s5
    · refine MF.aload_n C e_X3_weighPairs_32 0 rfl rfl ?_
      refine MF.getR (j := 52) C cf_X3 l_X3_28 e_X3_weighPairs_33 kF_63_0 ?_
      refine MF.iload_n C e_X3_weighPairs_36 1 rfl rfl ?_
      refine MF.iload C e_X3_weighPairs_37 6 rfl ?_
      refine MF.iload_n C e_X3_weighPairs_39 3 rfl rfl ?_
      refine MF.callVI (As := [.int x1, .int v1, .int x3]) C (R_X0_addStaged hD x1 v1 x3 s5) m_X0_addStaged k_X3_42 kO_52 rfl (by decide) e_X3_weighPairs_40 rfl rfl (Nat.le_of_ble_eq_true rfl) (fun v22 s23 => ?_)
      refine MF.pop C e_X3_weighPairs_43 rfl ?_
      exact hj7 s23
theorem e_X3_pairsThatRest_0 : Dc cX3_pairsThatRest 0 (.iconst 0) 1 1 := ⟨by decide +kernel, rfl⟩
theorem e_X3_pairsThatRest_1 : Dc cX3_pairsThatRest 1 (.istore_n 1) 1 2 := ⟨by decide +kernel, rfl⟩
theorem e_X3_pairsThatRest_2 : Dc cX3_pairsThatRest 2 (.iconst 0) 1 3 := ⟨by decide +kernel, rfl⟩
theorem e_X3_pairsThatRest_3 : Dc cX3_pairsThatRest 3 (.istore_n 2) 1 4 := ⟨by decide +kernel, rfl⟩
theorem e_X3_pairsThatRest_4 : Dc cX3_pairsThatRest 4 (.iload_n 2) 1 5 := ⟨by decide +kernel, rfl⟩
theorem e_X3_pairsThatRest_5 : Dc cX3_pairsThatRest 5 (.iconst 4) 1 6 := ⟨by decide +kernel, rfl⟩
theorem e_X3_pairsThatRest_6 : Dc cX3_pairsThatRest 6 (.if_icmp .ge 49) 3 9 := ⟨by decide +kernel, rfl⟩
theorem e_X3_pairsThatRest_9 : Dc cX3_pairsThatRest 9 (.aload_n 0) 1 10 := ⟨by decide +kernel, rfl⟩
theorem e_X3_pairsThatRest_10 : Dc cX3_pairsThatRest 10 (.getfield 11) 3 13 := ⟨by decide +kernel, rfl⟩
theorem e_X3_pairsThatRest_13 : Dc cX3_pairsThatRest 13 (.iload_n 2) 1 14 := ⟨by decide +kernel, rfl⟩
theorem e_X3_pairsThatRest_14 : Dc cX3_pairsThatRest 14 (.iaload) 1 15 := ⟨by decide +kernel, rfl⟩
theorem e_X3_pairsThatRest_15 : Dc cX3_pairsThatRest 15 (.aload_n 0) 1 16 := ⟨by decide +kernel, rfl⟩
theorem e_X3_pairsThatRest_16 : Dc cX3_pairsThatRest 16 (.getfield 11) 3 19 := ⟨by decide +kernel, rfl⟩
theorem e_X3_pairsThatRest_19 : Dc cX3_pairsThatRest 19 (.iload_n 2) 1 20 := ⟨by decide +kernel, rfl⟩
theorem e_X3_pairsThatRest_20 : Dc cX3_pairsThatRest 20 (.iconst 1) 1 21 := ⟨by decide +kernel, rfl⟩
theorem e_X3_pairsThatRest_21 : Dc cX3_pairsThatRest 21 (.ixor) 1 22 := ⟨by decide +kernel, rfl⟩
theorem e_X3_pairsThatRest_22 : Dc cX3_pairsThatRest 22 (.iaload) 1 23 := ⟨by decide +kernel, rfl⟩
theorem e_X3_pairsThatRest_23 : Dc cX3_pairsThatRest 23 (.if_icmp .lt 26) 3 26 := ⟨by decide +kernel, rfl⟩
theorem e_X3_pairsThatRest_26 : Dc cX3_pairsThatRest 26 (.aload_n 0) 1 27 := ⟨by decide +kernel, rfl⟩
theorem e_X3_pairsThatRest_27 : Dc cX3_pairsThatRest 27 (.getfield 15) 3 30 := ⟨by decide +kernel, rfl⟩
theorem e_X3_pairsThatRest_30 : Dc cX3_pairsThatRest 30 (.iload_n 2) 1 31 := ⟨by decide +kernel, rfl⟩
theorem e_X3_pairsThatRest_31 : Dc cX3_pairsThatRest 31 (.iaload) 1 32 := ⟨by decide +kernel, rfl⟩
theorem e_X3_pairsThatRest_32 : Dc cX3_pairsThatRest 32 (.aload_n 0) 1 33 := ⟨by decide +kernel, rfl⟩
theorem e_X3_pairsThatRest_33 : Dc cX3_pairsThatRest 33 (.getfield 15) 3 36 := ⟨by decide +kernel, rfl⟩
theorem e_X3_pairsThatRest_36 : Dc cX3_pairsThatRest 36 (.iload_n 2) 1 37 := ⟨by decide +kernel, rfl⟩
theorem e_X3_pairsThatRest_37 : Dc cX3_pairsThatRest 37 (.iconst 2) 1 38 := ⟨by decide +kernel, rfl⟩
theorem e_X3_pairsThatRest_38 : Dc cX3_pairsThatRest 38 (.ixor) 1 39 := ⟨by decide +kernel, rfl⟩
theorem e_X3_pairsThatRest_39 : Dc cX3_pairsThatRest 39 (.iaload) 1 40 := ⟨by decide +kernel, rfl⟩
theorem e_X3_pairsThatRest_40 : Dc cX3_pairsThatRest 40 (.if_icmp .lt 9) 3 43 := ⟨by decide +kernel, rfl⟩
theorem e_X3_pairsThatRest_43 : Dc cX3_pairsThatRest 43 (.iload_n 1) 1 44 := ⟨by decide +kernel, rfl⟩
theorem e_X3_pairsThatRest_44 : Dc cX3_pairsThatRest 44 (.iconst 1) 1 45 := ⟨by decide +kernel, rfl⟩
theorem e_X3_pairsThatRest_45 : Dc cX3_pairsThatRest 45 (.iload_n 2) 1 46 := ⟨by decide +kernel, rfl⟩
theorem e_X3_pairsThatRest_46 : Dc cX3_pairsThatRest 46 (.ishl) 1 47 := ⟨by decide +kernel, rfl⟩
theorem e_X3_pairsThatRest_47 : Dc cX3_pairsThatRest 47 (.ior) 1 48 := ⟨by decide +kernel, rfl⟩
theorem e_X3_pairsThatRest_48 : Dc cX3_pairsThatRest 48 (.istore_n 1) 1 49 := ⟨by decide +kernel, rfl⟩
theorem e_X3_pairsThatRest_49 : Dc cX3_pairsThatRest 49 (.iinc 2 1) 3 52 := ⟨by decide +kernel, rfl⟩
theorem e_X3_pairsThatRest_52 : Dc cX3_pairsThatRest 52 (.goto (-48)) 3 55 := ⟨by decide +kernel, rfl⟩
theorem e_X3_pairsThatRest_55 : Dc cX3_pairsThatRest 55 (.iload_n 1) 1 56 := ⟨by decide +kernel, rfl⟩
theorem e_X3_pairsThatRest_56 : Dc cX3_pairsThatRest 56 (.ireturn) 1 57 := ⟨by decide +kernel, rfl⟩
set_option maxHeartbeats 4000000 in
set_option maxRecDepth 20000 in
theorem R_X3_pairsThatRest (hD : DD E) (s : Sg) : ∀ v, (f_X3_pairsThatRest s) = some v → RI l E 0 M_X3_pairsThatRest [.ref (ead E 63)] s v s := by
  refine ofP hD (by decide +kernel) (Nat.le_of_ble_eq_true rfl) (fun X C => ?_)
  show MF l E X (fun q : Int32 => QI E X q s) (f_X3_pairsThatRest s) s 0 [(0, .ref (ead E 63))] []
  unfold f_X3_pairsThatRest
  refine MF.iconst (v := (nI 0)) C e_X3_pairsThatRest_0 rfl ?_
  refine MF.istore_n (lv' := [(0, .ref (ead E 63)), (1, .int (nI 0))]) C e_X3_pairsThatRest_1 (by decide) rfl ?_
  refine MF.iconst (v := (nI 0)) C e_X3_pairsThatRest_2 rfl ?_
  refine MF.istore_n (lv' := [(0, .ref (ead E 63)), (1, .int (nI 0)), (2, .int (nI 0))]) C e_X3_pairsThatRest_3 (by decide) rfl ?_
  refine MF.loop2 (fun i1 i2 => s) (fun i1 i2 => [(0, .ref (ead E 63)), (1, .int i1), (2, .int i2)]) (fun self3 hself3 i1 i2 => ?_) fu (nI 0) (nI 0)
  unfold b_X3_pairsThatRest_4
  refine MF.iload_n C e_X3_pairsThatRest_4 2 rfl rfl ?_
  refine MF.iconst (v := (nI 4)) C e_X3_pairsThatRest_5 rfl ?_
  refine MF.icmp_ge (tgt := 55) C e_X3_pairsThatRest_6 (by decide) (fun _ => ?_) (fun _ => ?_)
  · refine MF.iload_n C e_X3_pairsThatRest_55 1 rfl rfl ?_
    exact MF.iretp C e_X3_pairsThatRest_56
  · refine MF.aload_n C e_X3_pairsThatRest_9 0 rfl rfl ?_
    refine MF.getR (j := 64) C cf_X3 l_X3_11 e_X3_pairsThatRest_10 kF_63_1 ?_
    refine MF.iload_n C e_X3_pairsThatRest_13 2 rfl rfl ?_
    refine MF.iald C e_X3_pairsThatRest_14 kA_64 (fun v4 => ?_)
    refine MF.aload_n C e_X3_pairsThatRest_15 0 rfl rfl ?_
    refine MF.getR (j := 64) C cf_X3 l_X3_11 e_X3_pairsThatRest_16 kF_63_1 ?_
    refine MF.iload_n C e_X3_pairsThatRest_19 2 rfl rfl ?_
    refine MF.iconst (v := (nI 1)) C e_X3_pairsThatRest_20 rfl ?_
    refine MF.ixor C e_X3_pairsThatRest_21 ?_
    refine MF.iald C e_X3_pairsThatRest_22 kA_64 (fun v5 => ?_)
    refine MF.join (fun j : Int32 → Option Int32 => ∀ (a6 : Int32), MF l E X (fun q : Int32 => QI E X q s) (j a6) s 49 [(0, .ref (ead E 63)), (1, .int a6), (2, .int i2)] []) ?_ (fun j7 hj7 => ?_)
    · intro a6
      refine MF.iinc (v := (nI 1)) (lv' := [(0, .ref (ead E 63)), (1, .int a6), (2, .int (i2 + (nI 1)))]) C e_X3_pairsThatRest_49 2 rfl rfl (by decide) rfl ?_
      refine MF.goto (tgt := 4) C e_X3_pairsThatRest_52 (by decide) ?_
      exact hself3 a6 (i2 + (nI 1))
    refine MF.icmp_lt (tgt := 49) C e_X3_pairsThatRest_23 (by decide) (fun _ => ?_) (fun _ => ?_)
    · exact hj7 i1
    · refine MF.aload_n C e_X3_pairsThatRest_26 0 rfl rfl ?_
      refine MF.getR (j := 65) C cf_X3 l_X3_15 e_X3_pairsThatRest_27 kF_63_2 ?_
      refine MF.iload_n C e_X3_pairsThatRest_30 2 rfl rfl ?_
      refine MF.iald C e_X3_pairsThatRest_31 kA_65 (fun v8 => ?_)
      refine MF.aload_n C e_X3_pairsThatRest_32 0 rfl rfl ?_
      refine MF.getR (j := 65) C cf_X3 l_X3_15 e_X3_pairsThatRest_33 kF_63_2 ?_
      refine MF.iload_n C e_X3_pairsThatRest_36 2 rfl rfl ?_
      refine MF.iconst (v := (nI 2)) C e_X3_pairsThatRest_37 rfl ?_
      refine MF.ixor C e_X3_pairsThatRest_38 ?_
      refine MF.iald C e_X3_pairsThatRest_39 kA_65 (fun v9 => ?_)
      refine MF.icmp_lt (tgt := 49) C e_X3_pairsThatRest_40 (by decide) (fun _ => ?_) (fun _ => ?_)
      · exact hj7 i1
      · refine MF.iload_n C e_X3_pairsThatRest_43 1 rfl rfl ?_
        refine MF.iconst (v := (nI 1)) C e_X3_pairsThatRest_44 rfl ?_
        refine MF.iload_n C e_X3_pairsThatRest_45 2 rfl rfl ?_
        refine MF.ishl C e_X3_pairsThatRest_46 ?_
        refine MF.ior C e_X3_pairsThatRest_47 ?_
        refine MF.nmI (fun v10 => ?_)
        refine MF.istore_n (lv' := [(0, .ref (ead E 63)), (1, .int v10), (2, .int i2)]) C e_X3_pairsThatRest_48 (by decide) rfl ?_
        exact hj7 v10
theorem e_X3_renamingsOfDays_0 : Dc cX3_renamingsOfDays 0 (.iload_n 1) 1 1 := ⟨by decide +kernel, rfl⟩
theorem e_X3_renamingsOfDays_1 : Dc cX3_renamingsOfDays 1 (.i2l) 1 2 := ⟨by decide +kernel, rfl⟩
theorem e_X3_renamingsOfDays_2 : Dc cX3_renamingsOfDays 2 (.lstore 5) 2 4 := ⟨by decide +kernel, rfl⟩
theorem e_X3_renamingsOfDays_4 : Dc cX3_renamingsOfDays 4 (.iconst 0) 1 5 := ⟨by decide +kernel, rfl⟩
theorem e_X3_renamingsOfDays_5 : Dc cX3_renamingsOfDays 5 (.istore 7) 2 7 := ⟨by decide +kernel, rfl⟩
theorem e_X3_renamingsOfDays_7 : Dc cX3_renamingsOfDays 7 (.iconst 0) 1 8 := ⟨by decide +kernel, rfl⟩
theorem e_X3_renamingsOfDays_8 : Dc cX3_renamingsOfDays 8 (.istore 8) 2 10 := ⟨by decide +kernel, rfl⟩
theorem e_X3_renamingsOfDays_10 : Dc cX3_renamingsOfDays 10 (.iload 8) 2 12 := ⟨by decide +kernel, rfl⟩
theorem e_X3_renamingsOfDays_12 : Dc cX3_renamingsOfDays 12 (.iload_n 2) 1 13 := ⟨by decide +kernel, rfl⟩
theorem e_X3_renamingsOfDays_13 : Dc cX3_renamingsOfDays 13 (.if_icmp .ge 112) 3 16 := ⟨by decide +kernel, rfl⟩
theorem e_X3_renamingsOfDays_16 : Dc cX3_renamingsOfDays 16 (.iconst 0) 1 17 := ⟨by decide +kernel, rfl⟩
theorem e_X3_renamingsOfDays_17 : Dc cX3_renamingsOfDays 17 (.istore 9) 2 19 := ⟨by decide +kernel, rfl⟩
theorem e_X3_renamingsOfDays_19 : Dc cX3_renamingsOfDays 19 (.iconst 0) 1 20 := ⟨by decide +kernel, rfl⟩
theorem e_X3_renamingsOfDays_20 : Dc cX3_renamingsOfDays 20 (.istore 10) 2 22 := ⟨by decide +kernel, rfl⟩
theorem e_X3_renamingsOfDays_22 : Dc cX3_renamingsOfDays 22 (.iload 10) 2 24 := ⟨by decide +kernel, rfl⟩
theorem e_X3_renamingsOfDays_24 : Dc cX3_renamingsOfDays 24 (.aload 4) 2 26 := ⟨by decide +kernel, rfl⟩
theorem e_X3_renamingsOfDays_26 : Dc cX3_renamingsOfDays 26 (.getfield 49) 3 29 := ⟨by decide +kernel, rfl⟩
theorem e_X3_renamingsOfDays_29 : Dc cX3_renamingsOfDays 29 (.invokevirtual 55) 3 32 := ⟨by decide +kernel, rfl⟩
theorem e_X3_renamingsOfDays_32 : Dc cX3_renamingsOfDays 32 (.if_icmp .ge 50) 3 35 := ⟨by decide +kernel, rfl⟩
theorem e_X3_renamingsOfDays_35 : Dc cX3_renamingsOfDays 35 (.lload 5) 2 37 := ⟨by decide +kernel, rfl⟩
theorem e_X3_renamingsOfDays_37 : Dc cX3_renamingsOfDays 37 (.ldc2_w 92) 3 40 := ⟨by decide +kernel, rfl⟩
theorem e_X3_renamingsOfDays_40 : Dc cX3_renamingsOfDays 40 (.lmul) 1 41 := ⟨by decide +kernel, rfl⟩
theorem e_X3_renamingsOfDays_41 : Dc cX3_renamingsOfDays 41 (.ldc2_w 94) 3 44 := ⟨by decide +kernel, rfl⟩
theorem e_X3_renamingsOfDays_44 : Dc cX3_renamingsOfDays 44 (.ladd) 1 45 := ⟨by decide +kernel, rfl⟩
theorem e_X3_renamingsOfDays_45 : Dc cX3_renamingsOfDays 45 (.ldc2_w 96) 3 48 := ⟨by decide +kernel, rfl⟩
theorem e_X3_renamingsOfDays_48 : Dc cX3_renamingsOfDays 48 (.lrem) 1 49 := ⟨by decide +kernel, rfl⟩
theorem e_X3_renamingsOfDays_49 : Dc cX3_renamingsOfDays 49 (.lstore 5) 2 51 := ⟨by decide +kernel, rfl⟩
theorem e_X3_renamingsOfDays_51 : Dc cX3_renamingsOfDays 51 (.lload 5) 2 53 := ⟨by decide +kernel, rfl⟩
theorem e_X3_renamingsOfDays_53 : Dc cX3_renamingsOfDays 53 (.ldc2_w 98) 3 56 := ⟨by decide +kernel, rfl⟩
theorem e_X3_renamingsOfDays_56 : Dc cX3_renamingsOfDays 56 (.ldiv) 1 57 := ⟨by decide +kernel, rfl⟩
theorem e_X3_renamingsOfDays_57 : Dc cX3_renamingsOfDays 57 (.ldc2_w 100) 3 60 := ⟨by decide +kernel, rfl⟩
theorem e_X3_renamingsOfDays_60 : Dc cX3_renamingsOfDays 60 (.lrem) 1 61 := ⟨by decide +kernel, rfl⟩
theorem e_X3_renamingsOfDays_61 : Dc cX3_renamingsOfDays 61 (.iload_n 3) 1 62 := ⟨by decide +kernel, rfl⟩
theorem e_X3_renamingsOfDays_62 : Dc cX3_renamingsOfDays 62 (.i2l) 1 63 := ⟨by decide +kernel, rfl⟩
theorem e_X3_renamingsOfDays_63 : Dc cX3_renamingsOfDays 63 (.lcmp) 1 64 := ⟨by decide +kernel, rfl⟩
theorem e_X3_renamingsOfDays_64 : Dc cX3_renamingsOfDays 64 (.ifCond .ge 12) 3 67 := ⟨by decide +kernel, rfl⟩
theorem e_X3_renamingsOfDays_67 : Dc cX3_renamingsOfDays 67 (.iload 9) 2 69 := ⟨by decide +kernel, rfl⟩
theorem e_X3_renamingsOfDays_69 : Dc cX3_renamingsOfDays 69 (.iconst 1) 1 70 := ⟨by decide +kernel, rfl⟩
theorem e_X3_renamingsOfDays_70 : Dc cX3_renamingsOfDays 70 (.iload 10) 2 72 := ⟨by decide +kernel, rfl⟩
theorem e_X3_renamingsOfDays_72 : Dc cX3_renamingsOfDays 72 (.ishl) 1 73 := ⟨by decide +kernel, rfl⟩
theorem e_X3_renamingsOfDays_73 : Dc cX3_renamingsOfDays 73 (.ior) 1 74 := ⟨by decide +kernel, rfl⟩
theorem e_X3_renamingsOfDays_74 : Dc cX3_renamingsOfDays 74 (.istore 9) 2 76 := ⟨by decide +kernel, rfl⟩
theorem e_X3_renamingsOfDays_76 : Dc cX3_renamingsOfDays 76 (.iinc 10 1) 3 79 := ⟨by decide +kernel, rfl⟩
theorem e_X3_renamingsOfDays_79 : Dc cX3_renamingsOfDays 79 (.goto (-57)) 3 82 := ⟨by decide +kernel, rfl⟩
theorem e_X3_renamingsOfDays_82 : Dc cX3_renamingsOfDays 82 (.iconst 0) 1 83 := ⟨by decide +kernel, rfl⟩
theorem e_X3_renamingsOfDays_83 : Dc cX3_renamingsOfDays 83 (.istore 10) 2 85 := ⟨by decide +kernel, rfl⟩
theorem e_X3_renamingsOfDays_85 : Dc cX3_renamingsOfDays 85 (.iload 10) 2 87 := ⟨by decide +kernel, rfl⟩
theorem e_X3_renamingsOfDays_87 : Dc cX3_renamingsOfDays 87 (.aload_n 0) 1 88 := ⟨by decide +kernel, rfl⟩
theorem e_X3_renamingsOfDays_88 : Dc cX3_renamingsOfDays 88 (.getfield 28) 3 91 := ⟨by decide +kernel, rfl⟩
theorem e_X3_renamingsOfDays_91 : Dc cX3_renamingsOfDays 91 (.invokevirtual 102) 3 94 := ⟨by decide +kernel, rfl⟩
theorem e_X3_renamingsOfDays_94 : Dc cX3_renamingsOfDays 94 (.if_icmp .ge 25) 3 97 := ⟨by decide +kernel, rfl⟩
theorem e_X3_renamingsOfDays_97 : Dc cX3_renamingsOfDays 97 (.iload 7) 2 99 := ⟨by decide +kernel, rfl⟩
theorem e_X3_renamingsOfDays_99 : Dc cX3_renamingsOfDays 99 (.aload_n 0) 1 100 := ⟨by decide +kernel, rfl⟩
theorem e_X3_renamingsOfDays_100 : Dc cX3_renamingsOfDays 100 (.getfield 28) 3 103 := ⟨by decide +kernel, rfl⟩
theorem e_X3_renamingsOfDays_103 : Dc cX3_renamingsOfDays 103 (.iload 10) 2 105 := ⟨by decide +kernel, rfl⟩
theorem e_X3_renamingsOfDays_105 : Dc cX3_renamingsOfDays 105 (.iload 9) 2 107 := ⟨by decide +kernel, rfl⟩
theorem e_X3_renamingsOfDays_107 : Dc cX3_renamingsOfDays 107 (.invokevirtual 105) 3 110 := ⟨by decide +kernel, rfl⟩
theorem e_X3_renamingsOfDays_110 : Dc cX3_renamingsOfDays 110 (.iadd) 1 111 := ⟨by decide +kernel, rfl⟩
theorem e_X3_renamingsOfDays_111 : Dc cX3_renamingsOfDays 111 (.istore 7) 2 113 := ⟨by decide +kernel, rfl⟩
theorem e_X3_renamingsOfDays_113 : Dc cX3_renamingsOfDays 113 (.iinc 10 1) 3 116 := ⟨by decide +kernel, rfl⟩
theorem e_X3_renamingsOfDays_116 : Dc cX3_renamingsOfDays 116 (.goto (-31)) 3 119 := ⟨by decide +kernel, rfl⟩
theorem e_X3_renamingsOfDays_119 : Dc cX3_renamingsOfDays 119 (.iinc 8 1) 3 122 := ⟨by decide +kernel, rfl⟩
theorem e_X3_renamingsOfDays_122 : Dc cX3_renamingsOfDays 122 (.goto (-112)) 3 125 := ⟨by decide +kernel, rfl⟩
theorem e_X3_renamingsOfDays_125 : Dc cX3_renamingsOfDays 125 (.iload 7) 2 127 := ⟨by decide +kernel, rfl⟩
theorem e_X3_renamingsOfDays_127 : Dc cX3_renamingsOfDays 127 (.ireturn) 1 128 := ⟨by decide +kernel, rfl⟩
set_option maxHeartbeats 4000000 in
set_option maxRecDepth 20000 in
theorem R_X3_renamingsOfDays (hD : DD E) (x1 : Int32) (x2 : Int32) (x3 : Int32) (t4 : Nat) (ht4 : iTo t4) (s : Sg) : ∀ v τ, (f_X3_renamingsOfDays x1 x2 x3 t4 s) = some (v, τ) → RI l E 4 M_X3_renamingsOfDays [.ref (ead E 63), .int x1, .int x2, .int x3, .ref (ead E t4)] s v τ := by
  refine ofI hD (by decide +kernel) (Nat.le_of_ble_eq_true rfl) (fun X C => ?_)
  show MF l E X (fun q : Int32 × Sg => QI E X q.1 q.2) (f_X3_renamingsOfDays x1 x2 x3 t4 s) s 0 [(0, .ref (ead E 63)), (1, .int x1), (2, .int x2), (3, .int x3), (4, .ref (ead E t4))] []
  unfold f_X3_renamingsOfDays
  refine MF.iload_n C e_X3_renamingsOfDays_0 1 rfl rfl ?_
  refine MF.i2l C e_X3_renamingsOfDays_1 ?_
  refine MF.nmL (fun v1 => ?_)
  refine MF.lstore (lv' := [(0, .ref (ead E 63)), (1, .int x1), (2, .int x2), (3, .int x3), (4, .ref (ead E t4)), (5, .long v1)]) C e_X3_renamingsOfDays_2 (by decide) rfl ?_
  refine MF.iconst (v := (nI 0)) C e_X3_renamingsOfDays_4 rfl ?_
  refine MF.istore (lv' := [(0, .ref (ead E 63)), (1, .int x1), (2, .int x2), (3, .int x3), (4, .ref (ead E t4)), (5, .long v1), (7, .int (nI 0))]) C e_X3_renamingsOfDays_5 (by decide) rfl ?_
  refine MF.iconst (v := (nI 0)) C e_X3_renamingsOfDays_7 rfl ?_
  refine MF.istore (lv' := [(0, .ref (ead E 63)), (1, .int x1), (2, .int x2), (3, .int x3), (4, .ref (ead E t4)), (5, .long v1), (7, .int (nI 0)), (8, .int (nI 0))]) C e_X3_renamingsOfDays_8 (by decide) rfl ?_
  refine MF.sub [0, 2, 3, 4, 5, 6, 7] rfl ?_
  refine MF.loop4 (fun i2 i3 i4 s5 => s5) (fun i2 i3 i4 s5 => [(0, .ref (ead E 63)), (2, .int x2), (3, .int x3), (4, .ref (ead E t4)), (5, .long i2), (7, .int i3), (8, .int i4)]) (fun self6 hself6 i2 i3 i4 s5 => ?_) fu v1 (nI 0) (nI 0) s
  unfold b_X3_renamingsOfDays_10
  refine MF.iload C e_X3_renamingsOfDays_10 6 rfl ?_
  refine MF.iload_n C e_X3_renamingsOfDays_12 1 rfl rfl ?_
  refine MF.icmp_ge (tgt := 125) C e_X3_renamingsOfDays_13 (by decide) (fun _ => ?_) (fun _ => ?_)
  · refine MF.iload C e_X3_renamingsOfDays_125 5 rfl ?_
    exact MF.iret C e_X3_renamingsOfDays_127
  · refine MF.iconst (v := (nI 0)) C e_X3_renamingsOfDays_16 rfl ?_
    refine MF.istore (lv' := [(0, .ref (ead E 63)), (2, .int x2), (3, .int x3), (4, .ref (ead E t4)), (5, .long i2), (7, .int i3), (8, .int i4), (9, .int (nI 0))]) C e_X3_renamingsOfDays_17 (by decide) rfl ?_
    refine MF.iconst (v := (nI 0)) C e_X3_renamingsOfDays_19 rfl ?_
    refine MF.istore (lv' := [(0, .ref (ead E 63)), (2, .int x2), (3, .int x3), (4, .ref (ead E t4)), (5, .long i2), (7, .int i3), (8, .int i4), (9, .int (nI 0)), (10, .int (nI 0))]) C e_X3_renamingsOfDays_20 (by decide) rfl ?_
    refine MF.join (fun j : Int64 → Int32 → Option (Int32 × Sg) => ∀ (a7 : Int64) (a8 : Int32), MF l E X (fun q : Int32 × Sg => QI E X q.1 q.2) (j a7 a8) s5 82 [(0, .ref (ead E 63)), (2, .int x2), (3, .int x3), (4, .ref (ead E t4)), (5, .long a7), (7, .int i3), (8, .int i4), (9, .int a8)] []) ?_ (fun j9 hj9 => ?_)
    · intro a7 a8
      refine MF.iconst (v := (nI 0)) C e_X3_renamingsOfDays_82 rfl ?_
      refine MF.istore (lv' := [(0, .ref (ead E 63)), (2, .int x2), (3, .int x3), (4, .ref (ead E t4)), (5, .long a7), (7, .int i3), (8, .int i4), (9, .int a8), (10, .int (nI 0))]) C e_X3_renamingsOfDays_83 (by decide) rfl ?_
      refine MF.join (fun j : Int32 → Sg → Option (Int32 × Sg) => ∀ (a10 : Int32) (s11 : Sg), MF l E X (fun q : Int32 × Sg => QI E X q.1 q.2) (j a10 s11) s11 119 [(0, .ref (ead E 63)), (2, .int x2), (3, .int x3), (4, .ref (ead E t4)), (5, .long a7), (7, .int a10), (8, .int i4)] []) ?_ (fun j12 hj12 => ?_)
      · intro a10 s11
        refine MF.iinc (v := (nI 1)) (lv' := [(0, .ref (ead E 63)), (2, .int x2), (3, .int x3), (4, .ref (ead E t4)), (5, .long a7), (7, .int a10), (8, .int (i4 + (nI 1)))]) C e_X3_renamingsOfDays_119 6 rfl rfl (by decide) rfl ?_
        refine MF.goto (tgt := 10) C e_X3_renamingsOfDays_122 (by decide) ?_
        exact hself6 a7 a10 (i4 + (nI 1)) s11
      refine MF.loop3 (fun i13 i14 s15 => s15) (fun i13 i14 s15 => [(0, .ref (ead E 63)), (2, .int x2), (3, .int x3), (4, .ref (ead E t4)), (5, .long a7), (7, .int i13), (8, .int i4), (9, .int a8), (10, .int i14)]) (fun self16 hself16 i13 i14 s15 => ?_) fu i3 (nI 0) s5
      unfold b_X3_renamingsOfDays_85
      refine MF.iload C e_X3_renamingsOfDays_85 8 rfl ?_
      refine MF.aload_n C e_X3_renamingsOfDays_87 0 rfl rfl ?_
      refine MF.getR (j := 52) C cf_X3 l_X3_28 e_X3_renamingsOfDays_88 kF_63_0 ?_
      refine MF.callVP (As := []) C (R_X0_streets hD s15) m_X0_streets k_X3_102 kO_52 rfl (by decide) e_X3_renamingsOfDays_91 rfl rfl (Nat.le_of_ble_eq_true rfl) (fun v17 => ?_)
      refine MF.icmp_ge (tgt := 119) C e_X3_renamingsOfDays_94 (by decide) (fun _ => ?_) (fun _ => ?_)
      · refine MF.sub [0, 1, 2, 3, 4, 5, 6] rfl ?_
        exact hj12 i13 s15
      · refine MF.iload C e_X3_renamingsOfDays_97 5 rfl ?_
        refine MF.aload_n C e_X3_renamingsOfDays_99 0 rfl rfl ?_
        refine MF.getR (j := 52) C cf_X3 l_X3_28 e_X3_renamingsOfDays_100 kF_63_0 ?_
        refine MF.iload C e_X3_renamingsOfDays_103 8 rfl ?_
        refine MF.iload C e_X3_renamingsOfDays_105 7 rfl ?_
        refine MF.callVI (As := [.int i14, .int a8]) C (R_X0_renamings hD i14 a8 s15) m_X0_renamings k_X3_105 kO_52 rfl (by decide) e_X3_renamingsOfDays_107 rfl rfl (Nat.le_of_ble_eq_true rfl) (fun v18 s19 => ?_)
        refine MF.iadd C e_X3_renamingsOfDays_110 ?_
        refine MF.nmI (fun v20 => ?_)
        refine MF.istore (lv' := [(0, .ref (ead E 63)), (2, .int x2), (3, .int x3), (4, .ref (ead E t4)), (5, .long a7), (7, .int v20), (8, .int i4), (9, .int a8), (10, .int i14)]) C e_X3_renamingsOfDays_111 (by decide) rfl ?_
        refine MF.iinc (v := (nI 1)) (lv' := [(0, .ref (ead E 63)), (2, .int x2), (3, .int x3), (4, .ref (ead E t4)), (5, .long a7), (7, .int v20), (8, .int i4), (9, .int a8), (10, .int (i14 + (nI 1)))]) C e_X3_renamingsOfDays_113 8 rfl rfl (by decide) rfl ?_
        refine MF.goto (tgt := 85) C e_X3_renamingsOfDays_116 (by decide) ?_
        exact hself16 v20 (i14 + (nI 1)) s19
    refine MF.loop3 (fun i21 i22 i23 => s5) (fun i21 i22 i23 => [(0, .ref (ead E 63)), (2, .int x2), (3, .int x3), (4, .ref (ead E t4)), (5, .long i21), (7, .int i3), (8, .int i4), (9, .int i22), (10, .int i23)]) (fun self24 hself24 i21 i22 i23 => ?_) fu i2 (nI 0) (nI 0)
    unfold b_X3_renamingsOfDays_22
    refine MF.iload C e_X3_renamingsOfDays_22 8 rfl ?_
    refine MF.aload C e_X3_renamingsOfDays_24 3 rfl ?_
    refine MF.getRN (j := (t4 + 3)) C cf_X5 l_X3_49 e_X3_renamingsOfDays_26 (iTo.f1 ht4) ?_
    refine MF.callVP (As := []) C (R_X2_size hD (t4 + 3) (iTo.o1 ht4) s5) m_X2_size k_X3_55 (iRo.o (iTo.o1 ht4)) rfl (by decide) e_X3_renamingsOfDays_29 rfl rfl (Nat.le_of_ble_eq_true rfl) (fun v25 => ?_)
    refine MF.icmp_ge (tgt := 82) C e_X3_renamingsOfDays_32 (by decide) (fun _ => ?_) (fun _ => ?_)
    · refine MF.sub [0, 1, 2, 3, 4, 5, 6, 7] rfl ?_
      exact hj9 i21 i22
    · refine MF.lload C e_X3_renamingsOfDays_35 4 rfl ?_
      refine MF.ldc2 C e_X3_renamingsOfDays_37 t_X3_92 ?_
      refine MF.lmul C e_X3_renamingsOfDays_40 ?_
      refine MF.ldc2 C e_X3_renamingsOfDays_41 t_X3_94 ?_
      refine MF.ladd C e_X3_renamingsOfDays_44 ?_
      refine MF.ldc2 C e_X3_renamingsOfDays_45 t_X3_96 ?_
      refine MF.lrem C e_X3_renamingsOfDays_48 (by decide) ?_
      refine MF.nmL (fun v26 => ?_)
      refine MF.lstore (lv' := [(0, .ref (ead E 63)), (2, .int x2), (3, .int x3), (4, .ref (ead E t4)), (5, .long v26), (7, .int i3), (8, .int i4), (9, .int i22), (10, .int i23)]) C e_X3_renamingsOfDays_49 (by decide) rfl ?_
      refine MF.lload C e_X3_renamingsOfDays_51 4 rfl ?_
      refine MF.ldc2 C e_X3_renamingsOfDays_53 t_X3_98 ?_
      refine MF.ldiv C e_X3_renamingsOfDays_56 (by decide) ?_
      refine MF.ldc2 C e_X3_renamingsOfDays_57 t_X3_100 ?_
      refine MF.lrem C e_X3_renamingsOfDays_60 (by decide) ?_
      refine MF.iload_n C e_X3_renamingsOfDays_61 2 rfl rfl ?_
      refine MF.i2l C e_X3_renamingsOfDays_62 ?_
      refine MF.lcmp C e_X3_renamingsOfDays_63 ?_
      refine MF.join (fun j : Int32 → Option (Int32 × Sg) => ∀ (a27 : Int32), MF l E X (fun q : Int32 × Sg => QI E X q.1 q.2) (j a27) s5 76 [(0, .ref (ead E 63)), (2, .int x2), (3, .int x3), (4, .ref (ead E t4)), (5, .long v26), (7, .int i3), (8, .int i4), (9, .int a27), (10, .int i23)] []) ?_ (fun j28 hj28 => ?_)
      · intro a27
        refine MF.iinc (v := (nI 1)) (lv' := [(0, .ref (ead E 63)), (2, .int x2), (3, .int x3), (4, .ref (ead E t4)), (5, .long v26), (7, .int i3), (8, .int i4), (9, .int a27), (10, .int (i23 + (nI 1)))]) C e_X3_renamingsOfDays_76 8 rfl rfl (by decide) rfl ?_
        refine MF.goto (tgt := 22) C e_X3_renamingsOfDays_79 (by decide) ?_
        exact hself24 v26 a27 (i23 + (nI 1))
      refine MF.if_ge (tgt := 76) C e_X3_renamingsOfDays_64 (by decide) (fun _ => ?_) (fun _ => ?_)
      · exact hj28 i22
      · refine MF.iload C e_X3_renamingsOfDays_67 7 rfl ?_
        refine MF.iconst (v := (nI 1)) C e_X3_renamingsOfDays_69 rfl ?_
        refine MF.iload C e_X3_renamingsOfDays_70 8 rfl ?_
        refine MF.ishl C e_X3_renamingsOfDays_72 ?_
        refine MF.ior C e_X3_renamingsOfDays_73 ?_
        refine MF.nmI (fun v29 => ?_)
        refine MF.istore (lv' := [(0, .ref (ead E 63)), (2, .int x2), (3, .int x3), (4, .ref (ead E t4)), (5, .long v26), (7, .int i3), (8, .int i4), (9, .int v29), (10, .int i23)]) C e_X3_renamingsOfDays_74 (by decide) rfl ?_
        exact hj28 v29
theorem e_X4_size_0 : Dc cX4_size 0 (.aload_n 0) 1 1 := ⟨by decide +kernel, rfl⟩
theorem e_X4_size_1 : Dc cX4_size 1 (.getfield 18) 3 4 := ⟨by decide +kernel, rfl⟩
theorem e_X4_size_4 : Dc cX4_size 4 (.ireturn) 1 5 := ⟨by decide +kernel, rfl⟩
set_option maxHeartbeats 4000000 in
set_option maxRecDepth 20000 in
theorem R_X4_size (hD : DD E) (s : Sg) : ∀ v, (f_X4_size s) = some v → RI l E 0 M_X4_size [.ref (ead E 49)] s v s := by
  refine ofP hD (by decide +kernel) (Nat.le_of_ble_eq_true rfl) (fun X C => ?_)
  show MF l E X (fun q : Int32 => QI E X q s) (f_X4_size s) s 0 [(0, .ref (ead E 49))] []
  unfold f_X4_size
  refine MF.aload_n C e_X4_size_0 0 rfl rfl ?_
  refine MF.get C cf_X4 l_X4_18 e_X4_size_1 kF_49_2 ?_
  exact MF.iretp C e_X4_size_4
theorem e_X4_isFull_0 : Dc cX4_isFull 0 (.aload_n 0) 1 1 := ⟨by decide +kernel, rfl⟩
theorem e_X4_isFull_1 : Dc cX4_isFull 1 (.getfield 18) 3 4 := ⟨by decide +kernel, rfl⟩
theorem e_X4_isFull_4 : Dc cX4_isFull 4 (.sipush 150) 3 7 := ⟨by decide +kernel, rfl⟩
theorem e_X4_isFull_7 : Dc cX4_isFull 7 (.if_icmp .lt 7) 3 10 := ⟨by decide +kernel, rfl⟩
theorem e_X4_isFull_10 : Dc cX4_isFull 10 (.iconst 1) 1 11 := ⟨by decide +kernel, rfl⟩
theorem e_X4_isFull_11 : Dc cX4_isFull 11 (.goto 4) 3 14 := ⟨by decide +kernel, rfl⟩
theorem e_X4_isFull_14 : Dc cX4_isFull 14 (.iconst 0) 1 15 := ⟨by decide +kernel, rfl⟩
theorem e_X4_isFull_15 : Dc cX4_isFull 15 (.ireturn) 1 16 := ⟨by decide +kernel, rfl⟩
set_option maxHeartbeats 4000000 in
set_option maxRecDepth 20000 in
theorem R_X4_isFull (hD : DD E) (s : Sg) : ∀ v, (f_X4_isFull s) = some v → RI l E 0 M_X4_isFull [.ref (ead E 49)] s v s := by
  refine ofP hD (by decide +kernel) (Nat.le_of_ble_eq_true rfl) (fun X C => ?_)
  show MF l E X (fun q : Int32 => QI E X q s) (f_X4_isFull s) s 0 [(0, .ref (ead E 49))] []
  unfold f_X4_isFull
  refine MF.aload_n C e_X4_isFull_0 0 rfl rfl ?_
  refine MF.get C cf_X4 l_X4_18 e_X4_isFull_1 kF_49_2 ?_
  refine MF.sipush (v := (nI 150)) C e_X4_isFull_4 (by decide) ?_
  refine MF.icmp_lt (tgt := 14) C e_X4_isFull_7 (by decide) (fun _ => ?_) (fun _ => ?_)
  · refine MF.iconst (v := (nI 0)) C e_X4_isFull_14 rfl ?_
    exact MF.nretp C e_X4_isFull_15 rfl
  · refine MF.iconst (v := (nI 1)) C e_X4_isFull_10 rfl ?_
    refine MF.goto (tgt := 15) C e_X4_isFull_11 (by decide) ?_
    exact MF.nretp C e_X4_isFull_15 rfl
theorem e_X4_add_0 : Dc cX4_add 0 (.aload_n 0) 1 1 := ⟨by decide +kernel, rfl⟩
theorem e_X4_add_1 : Dc cX4_add 1 (.invokevirtual 31) 3 4 := ⟨by decide +kernel, rfl⟩
theorem e_X4_add_4 : Dc cX4_add 4 (.ifCond .eq 4) 3 7 := ⟨by decide +kernel, rfl⟩
theorem e_X4_add_7 : Dc cX4_add 7 (.return_) 1 8 := ⟨by decide +kernel, rfl⟩
theorem e_X4_add_8 : Dc cX4_add 8 (.aload_n 0) 1 9 := ⟨by decide +kernel, rfl⟩
theorem e_X4_add_9 : Dc cX4_add 9 (.getfield 9) 3 12 := ⟨by decide +kernel, rfl⟩
theorem e_X4_add_12 : Dc cX4_add 12 (.aload_n 0) 1 13 := ⟨by decide +kernel, rfl⟩
theorem e_X4_add_13 : Dc cX4_add 13 (.getfield 18) 3 16 := ⟨by decide +kernel, rfl⟩
theorem e_X4_add_16 : Dc cX4_add 16 (.iload_n 1) 1 17 := ⟨by decide +kernel, rfl⟩
theorem e_X4_add_17 : Dc cX4_add 17 (.iastore) 1 18 := ⟨by decide +kernel, rfl⟩
theorem e_X4_add_18 : Dc cX4_add 18 (.aload_n 0) 1 19 := ⟨by decide +kernel, rfl⟩
theorem e_X4_add_19 : Dc cX4_add 19 (.dup) 1 20 := ⟨by decide +kernel, rfl⟩
theorem e_X4_add_20 : Dc cX4_add 20 (.getfield 18) 3 23 := ⟨by decide +kernel, rfl⟩
theorem e_X4_add_23 : Dc cX4_add 23 (.iconst 1) 1 24 := ⟨by decide +kernel, rfl⟩
theorem e_X4_add_24 : Dc cX4_add 24 (.iadd) 1 25 := ⟨by decide +kernel, rfl⟩
theorem e_X4_add_25 : Dc cX4_add 25 (.putfield 18) 3 28 := ⟨by decide +kernel, rfl⟩
theorem e_X4_add_28 : Dc cX4_add 28 (.return_) 1 29 := ⟨by decide +kernel, rfl⟩
set_option maxHeartbeats 4000000 in
set_option maxRecDepth 20000 in
theorem R_X4_add (hD : DD E) (x1 : Int32) (s : Sg) : ∀ τ, (f_X4_add x1 s) = some τ → RV l E 1 M_X4_add [.ref (ead E 49), .int x1] s τ := by
  refine ofU hD (by decide +kernel) (Nat.le_of_ble_eq_true rfl) (fun X C => ?_)
  show MF l E X (fun q : Sg => QV E X q) (f_X4_add x1 s) s 0 [(0, .ref (ead E 49)), (1, .int x1)] []
  unfold f_X4_add
  refine MF.aload_n C e_X4_add_0 0 rfl rfl ?_
  refine MF.callVP (As := []) C (R_X4_isFull hD s) m_X4_isFull k_X4_31 kO_49 rfl (by decide) e_X4_add_1 rfl rfl (Nat.le_of_ble_eq_true rfl) (fun v1 => ?_)
  refine MF.if_eq (tgt := 8) C e_X4_add_4 (by decide) (fun _ => ?_) (fun _ => ?_)
  · refine MF.aload_n C e_X4_add_8 0 rfl rfl ?_
    refine MF.getR (j := 50) C cf_X4 l_X4_9 e_X4_add_9 kF_49_0 ?_
    refine MF.aload_n C e_X4_add_12 0 rfl rfl ?_
    refine MF.get C cf_X4 l_X4_18 e_X4_add_13 kF_49_2 ?_
    refine MF.iload_n C e_X4_add_16 1 rfl rfl ?_
    refine MF.iast C e_X4_add_17 kA_50 (fun s2 => ?_)
    refine MF.aload_n C e_X4_add_18 0 rfl rfl ?_
    refine MF.dup C e_X4_add_19 rfl ?_
    refine MF.get C cf_X4 l_X4_18 e_X4_add_20 kF_49_2 ?_
    refine MF.iconst (v := (nI 1)) C e_X4_add_23 rfl ?_
    refine MF.iadd C e_X4_add_24 ?_
    refine MF.put C cf_X4 l_X4_18 p_X4_2 e_X4_add_25 kF_49_2 rfl ?_
    refine MF.nmS (fun s3 => ?_)
    exact MF.vret C e_X4_add_28
  · exact MF.vret C e_X4_add_7
theorem e_X4_empty_0 : Dc cX4_empty 0 (.aload_n 0) 1 1 := ⟨by decide +kernel, rfl⟩
theorem e_X4_empty_1 : Dc cX4_empty 1 (.iconst 0) 1 2 := ⟨by decide +kernel, rfl⟩
theorem e_X4_empty_2 : Dc cX4_empty 2 (.putfield 18) 3 5 := ⟨by decide +kernel, rfl⟩
theorem e_X4_empty_5 : Dc cX4_empty 5 (.return_) 1 6 := ⟨by decide +kernel, rfl⟩
set_option maxHeartbeats 4000000 in
set_option maxRecDepth 20000 in
theorem R_X4_empty (hD : DD E) (s : Sg) : ∀ τ, (f_X4_empty s) = some τ → RV l E 0 M_X4_empty [.ref (ead E 49)] s τ := by
  refine ofU hD (by decide +kernel) (Nat.le_of_ble_eq_true rfl) (fun X C => ?_)
  show MF l E X (fun q : Sg => QV E X q) (f_X4_empty s) s 0 [(0, .ref (ead E 49))] []
  unfold f_X4_empty
  refine MF.aload_n C e_X4_empty_0 0 rfl rfl ?_
  refine MF.iconst (v := (nI 0)) C e_X4_empty_1 rfl ?_
  refine MF.put C cf_X4 l_X4_18 p_X4_2 e_X4_empty_2 kF_49_2 rfl ?_
  refine MF.nmS (fun s1 => ?_)
  exact MF.vret C e_X4_empty_5
theorem e_X4_byteAt_0 : Dc cX4_byteAt 0 (.iload_n 1) 1 1 := ⟨by decide +kernel, rfl⟩
theorem e_X4_byteAt_1 : Dc cX4_byteAt 1 (.aload_n 0) 1 2 := ⟨by decide +kernel, rfl⟩
theorem e_X4_byteAt_2 : Dc cX4_byteAt 2 (.getfield 18) 3 5 := ⟨by decide +kernel, rfl⟩
theorem e_X4_byteAt_5 : Dc cX4_byteAt 5 (.invokestatic 100) 3 8 := ⟨by decide +kernel, rfl⟩
theorem e_X4_byteAt_8 : Dc cX4_byteAt 8 (.ifCond .eq 12) 3 11 := ⟨by decide +kernel, rfl⟩
theorem e_X4_byteAt_11 : Dc cX4_byteAt 11 (.aload_n 0) 1 12 := ⟨by decide +kernel, rfl⟩
theorem e_X4_byteAt_12 : Dc cX4_byteAt 12 (.getfield 9) 3 15 := ⟨by decide +kernel, rfl⟩
theorem e_X4_byteAt_15 : Dc cX4_byteAt 15 (.iload_n 1) 1 16 := ⟨by decide +kernel, rfl⟩
theorem e_X4_byteAt_16 : Dc cX4_byteAt 16 (.iaload) 1 17 := ⟨by decide +kernel, rfl⟩
theorem e_X4_byteAt_17 : Dc cX4_byteAt 17 (.goto 4) 3 20 := ⟨by decide +kernel, rfl⟩
theorem e_X4_byteAt_20 : Dc cX4_byteAt 20 (.iconst (-1)) 1 21 := ⟨by decide +kernel, rfl⟩
theorem e_X4_byteAt_21 : Dc cX4_byteAt 21 (.ireturn) 1 22 := ⟨by decide +kernel, rfl⟩
set_option maxHeartbeats 4000000 in
set_option maxRecDepth 20000 in
theorem R_X4_byteAt (hD : DD E) (x1 : Int32) (s : Sg) : ∀ v, (f_X4_byteAt x1 s) = some v → RI l E 1 M_X4_byteAt [.ref (ead E 49), .int x1] s v s := by
  refine ofP hD (by decide +kernel) (Nat.le_of_ble_eq_true rfl) (fun X C => ?_)
  show MF l E X (fun q : Int32 => QI E X q s) (f_X4_byteAt x1 s) s 0 [(0, .ref (ead E 49)), (1, .int x1)] []
  unfold f_X4_byteAt
  refine MF.iload_n C e_X4_byteAt_0 1 rfl rfl ?_
  refine MF.aload_n C e_X4_byteAt_1 0 rfl rfl ?_
  refine MF.get C cf_X4 l_X4_18 e_X4_byteAt_2 kF_49_2 ?_
  refine MF.callSNP (As := [.int x1, .int (s 49 2)]) C (R_X7_isBelow hD x1 (s 49 2) s) m_X7_isBelow k_X4_100 (by decide) e_X4_byteAt_5 rfl rfl (Nat.le_of_ble_eq_true rfl) (fun v1 => ?_)
  refine MF.if_eq (tgt := 20) C e_X4_byteAt_8 (by decide) (fun _ => ?_) (fun _ => ?_)
  · refine MF.iconst (v := (-1 : Int32)) C e_X4_byteAt_20 rfl ?_
    exact MF.iretp C e_X4_byteAt_21
  · refine MF.aload_n C e_X4_byteAt_11 0 rfl rfl ?_
    refine MF.getR (j := 50) C cf_X4 l_X4_9 e_X4_byteAt_12 kF_49_0 ?_
    refine MF.iload_n C e_X4_byteAt_15 1 rfl rfl ?_
    refine MF.iald C e_X4_byteAt_16 kA_50 (fun v2 => ?_)
    refine MF.goto (tgt := 21) C e_X4_byteAt_17 (by decide) ?_
    exact MF.iretp C e_X4_byteAt_21
theorem e_X4_isLetter_0 : Dc cX4_isLetter 0 (.aload_n 0) 1 1 := ⟨by decide +kernel, rfl⟩
theorem e_X4_isLetter_1 : Dc cX4_isLetter 1 (.iload_n 1) 1 2 := ⟨by decide +kernel, rfl⟩
theorem e_X4_isLetter_2 : Dc cX4_isLetter 2 (.invokevirtual 86) 3 5 := ⟨by decide +kernel, rfl⟩
theorem e_X4_isLetter_5 : Dc cX4_isLetter 5 (.bipush 97) 2 7 := ⟨by decide +kernel, rfl⟩
theorem e_X4_isLetter_7 : Dc cX4_isLetter 7 (.if_icmp .lt 17) 3 10 := ⟨by decide +kernel, rfl⟩
theorem e_X4_isLetter_10 : Dc cX4_isLetter 10 (.aload_n 0) 1 11 := ⟨by decide +kernel, rfl⟩
theorem e_X4_isLetter_11 : Dc cX4_isLetter 11 (.iload_n 1) 1 12 := ⟨by decide +kernel, rfl⟩
theorem e_X4_isLetter_12 : Dc cX4_isLetter 12 (.invokevirtual 86) 3 15 := ⟨by decide +kernel, rfl⟩
theorem e_X4_isLetter_15 : Dc cX4_isLetter 15 (.bipush 122) 2 17 := ⟨by decide +kernel, rfl⟩
theorem e_X4_isLetter_17 : Dc cX4_isLetter 17 (.if_icmp .gt 7) 3 20 := ⟨by decide +kernel, rfl⟩
theorem e_X4_isLetter_20 : Dc cX4_isLetter 20 (.iconst 1) 1 21 := ⟨by decide +kernel, rfl⟩
theorem e_X4_isLetter_21 : Dc cX4_isLetter 21 (.goto 4) 3 24 := ⟨by decide +kernel, rfl⟩
theorem e_X4_isLetter_24 : Dc cX4_isLetter 24 (.iconst 0) 1 25 := ⟨by decide +kernel, rfl⟩
theorem e_X4_isLetter_25 : Dc cX4_isLetter 25 (.ireturn) 1 26 := ⟨by decide +kernel, rfl⟩
set_option maxHeartbeats 4000000 in
set_option maxRecDepth 20000 in
theorem R_X4_isLetter (hD : DD E) (x1 : Int32) (s : Sg) : ∀ v, (f_X4_isLetter x1 s) = some v → RI l E 2 M_X4_isLetter [.ref (ead E 49), .int x1] s v s := by
  refine ofP hD (by decide +kernel) (Nat.le_of_ble_eq_true rfl) (fun X C => ?_)
  show MF l E X (fun q : Int32 => QI E X q s) (f_X4_isLetter x1 s) s 0 [(0, .ref (ead E 49)), (1, .int x1)] []
  unfold f_X4_isLetter
  refine MF.aload_n C e_X4_isLetter_0 0 rfl rfl ?_
  refine MF.iload_n C e_X4_isLetter_1 1 rfl rfl ?_
  refine MF.callVP (As := [.int x1]) C (R_X4_byteAt hD x1 s) m_X4_byteAt k_X4_86 kO_49 rfl (by decide) e_X4_isLetter_2 rfl rfl (Nat.le_of_ble_eq_true rfl) (fun v1 => ?_)
  refine MF.bipush (v := (nI 97)) C e_X4_isLetter_5 (by decide) ?_
  refine MF.icmp_lt (tgt := 24) C e_X4_isLetter_7 (by decide) (fun _ => ?_) (fun _ => ?_)
  · refine MF.iconst (v := (nI 0)) C e_X4_isLetter_24 rfl ?_
    exact MF.nretp C e_X4_isLetter_25 rfl
  · refine MF.aload_n C e_X4_isLetter_10 0 rfl rfl ?_
    refine MF.iload_n C e_X4_isLetter_11 1 rfl rfl ?_
    refine MF.callVP (As := [.int x1]) C (R_X4_byteAt hD x1 s) m_X4_byteAt k_X4_86 kO_49 rfl (by decide) e_X4_isLetter_12 rfl rfl (Nat.le_of_ble_eq_true rfl) (fun v2 => ?_)
    refine MF.bipush (v := (nI 122)) C e_X4_isLetter_15 (by decide) ?_
    refine MF.icmp_gt (tgt := 24) C e_X4_isLetter_17 (by decide) (fun _ => ?_) (fun _ => ?_)
    · refine MF.iconst (v := (nI 0)) C e_X4_isLetter_24 rfl ?_
      exact MF.nretp C e_X4_isLetter_25 rfl
    · refine MF.iconst (v := (nI 1)) C e_X4_isLetter_20 rfl ?_
      refine MF.goto (tgt := 25) C e_X4_isLetter_21 (by decide) ?_
      exact MF.nretp C e_X4_isLetter_25 rfl
theorem e_X4_isFigure_0 : Dc cX4_isFigure 0 (.aload_n 0) 1 1 := ⟨by decide +kernel, rfl⟩
theorem e_X4_isFigure_1 : Dc cX4_isFigure 1 (.iload_n 1) 1 2 := ⟨by decide +kernel, rfl⟩
theorem e_X4_isFigure_2 : Dc cX4_isFigure 2 (.invokevirtual 86) 3 5 := ⟨by decide +kernel, rfl⟩
theorem e_X4_isFigure_5 : Dc cX4_isFigure 5 (.bipush 48) 2 7 := ⟨by decide +kernel, rfl⟩
theorem e_X4_isFigure_7 : Dc cX4_isFigure 7 (.if_icmp .lt 17) 3 10 := ⟨by decide +kernel, rfl⟩
theorem e_X4_isFigure_10 : Dc cX4_isFigure 10 (.aload_n 0) 1 11 := ⟨by decide +kernel, rfl⟩
theorem e_X4_isFigure_11 : Dc cX4_isFigure 11 (.iload_n 1) 1 12 := ⟨by decide +kernel, rfl⟩
theorem e_X4_isFigure_12 : Dc cX4_isFigure 12 (.invokevirtual 86) 3 15 := ⟨by decide +kernel, rfl⟩
theorem e_X4_isFigure_15 : Dc cX4_isFigure 15 (.bipush 57) 2 17 := ⟨by decide +kernel, rfl⟩
theorem e_X4_isFigure_17 : Dc cX4_isFigure 17 (.if_icmp .gt 7) 3 20 := ⟨by decide +kernel, rfl⟩
theorem e_X4_isFigure_20 : Dc cX4_isFigure 20 (.iconst 1) 1 21 := ⟨by decide +kernel, rfl⟩
theorem e_X4_isFigure_21 : Dc cX4_isFigure 21 (.goto 4) 3 24 := ⟨by decide +kernel, rfl⟩
theorem e_X4_isFigure_24 : Dc cX4_isFigure 24 (.iconst 0) 1 25 := ⟨by decide +kernel, rfl⟩
theorem e_X4_isFigure_25 : Dc cX4_isFigure 25 (.ireturn) 1 26 := ⟨by decide +kernel, rfl⟩
set_option maxHeartbeats 4000000 in
set_option maxRecDepth 20000 in
theorem R_X4_isFigure (hD : DD E) (x1 : Int32) (s : Sg) : ∀ v, (f_X4_isFigure x1 s) = some v → RI l E 2 M_X4_isFigure [.ref (ead E 49), .int x1] s v s := by
  refine ofP hD (by decide +kernel) (Nat.le_of_ble_eq_true rfl) (fun X C => ?_)
  show MF l E X (fun q : Int32 => QI E X q s) (f_X4_isFigure x1 s) s 0 [(0, .ref (ead E 49)), (1, .int x1)] []
  unfold f_X4_isFigure
  refine MF.aload_n C e_X4_isFigure_0 0 rfl rfl ?_
  refine MF.iload_n C e_X4_isFigure_1 1 rfl rfl ?_
  refine MF.callVP (As := [.int x1]) C (R_X4_byteAt hD x1 s) m_X4_byteAt k_X4_86 kO_49 rfl (by decide) e_X4_isFigure_2 rfl rfl (Nat.le_of_ble_eq_true rfl) (fun v1 => ?_)
  refine MF.bipush (v := (nI 48)) C e_X4_isFigure_5 (by decide) ?_
  refine MF.icmp_lt (tgt := 24) C e_X4_isFigure_7 (by decide) (fun _ => ?_) (fun _ => ?_)
  · refine MF.iconst (v := (nI 0)) C e_X4_isFigure_24 rfl ?_
    exact MF.nretp C e_X4_isFigure_25 rfl
  · refine MF.aload_n C e_X4_isFigure_10 0 rfl rfl ?_
    refine MF.iload_n C e_X4_isFigure_11 1 rfl rfl ?_
    refine MF.callVP (As := [.int x1]) C (R_X4_byteAt hD x1 s) m_X4_byteAt k_X4_86 kO_49 rfl (by decide) e_X4_isFigure_12 rfl rfl (Nat.le_of_ble_eq_true rfl) (fun v2 => ?_)
    refine MF.bipush (v := (nI 57)) C e_X4_isFigure_15 (by decide) ?_
    refine MF.icmp_gt (tgt := 24) C e_X4_isFigure_17 (by decide) (fun _ => ?_) (fun _ => ?_)
    · refine MF.iconst (v := (nI 0)) C e_X4_isFigure_24 rfl ?_
      exact MF.nretp C e_X4_isFigure_25 rfl
    · refine MF.iconst (v := (nI 1)) C e_X4_isFigure_20 rfl ?_
      refine MF.goto (tgt := 25) C e_X4_isFigure_21 (by decide) ?_
      exact MF.nretp C e_X4_isFigure_25 rfl
theorem e_X4_findToken_0 : Dc cX4_findToken 0 (.aload_n 0) 1 1 := ⟨by decide +kernel, rfl⟩
theorem e_X4_findToken_1 : Dc cX4_findToken 1 (.getfield 22) 3 4 := ⟨by decide +kernel, rfl⟩
theorem e_X4_findToken_4 : Dc cX4_findToken 4 (.aload_n 0) 1 5 := ⟨by decide +kernel, rfl⟩
theorem e_X4_findToken_5 : Dc cX4_findToken 5 (.getfield 18) 3 8 := ⟨by decide +kernel, rfl⟩
theorem e_X4_findToken_8 : Dc cX4_findToken 8 (.if_icmp .ge 29) 3 11 := ⟨by decide +kernel, rfl⟩
theorem e_X4_findToken_11 : Dc cX4_findToken 11 (.aload_n 0) 1 12 := ⟨by decide +kernel, rfl⟩
theorem e_X4_findToken_12 : Dc cX4_findToken 12 (.aload_n 0) 1 13 := ⟨by decide +kernel, rfl⟩
theorem e_X4_findToken_13 : Dc cX4_findToken 13 (.getfield 22) 3 16 := ⟨by decide +kernel, rfl⟩
theorem e_X4_findToken_16 : Dc cX4_findToken 16 (.invokevirtual 86) 3 19 := ⟨by decide +kernel, rfl⟩
theorem e_X4_findToken_19 : Dc cX4_findToken 19 (.bipush 32) 2 21 := ⟨by decide +kernel, rfl⟩
theorem e_X4_findToken_21 : Dc cX4_findToken 21 (.if_icmp .ne 16) 3 24 := ⟨by decide +kernel, rfl⟩
theorem e_X4_findToken_24 : Dc cX4_findToken 24 (.aload_n 0) 1 25 := ⟨by decide +kernel, rfl⟩
theorem e_X4_findToken_25 : Dc cX4_findToken 25 (.dup) 1 26 := ⟨by decide +kernel, rfl⟩
theorem e_X4_findToken_26 : Dc cX4_findToken 26 (.getfield 22) 3 29 := ⟨by decide +kernel, rfl⟩
theorem e_X4_findToken_29 : Dc cX4_findToken 29 (.iconst 1) 1 30 := ⟨by decide +kernel, rfl⟩
theorem e_X4_findToken_30 : Dc cX4_findToken 30 (.iadd) 1 31 := ⟨by decide +kernel, rfl⟩
theorem e_X4_findToken_31 : Dc cX4_findToken 31 (.putfield 22) 3 34 := ⟨by decide +kernel, rfl⟩
theorem e_X4_findToken_34 : Dc cX4_findToken 34 (.goto (-34)) 3 37 := ⟨by decide +kernel, rfl⟩
theorem e_X4_findToken_37 : Dc cX4_findToken 37 (.aload_n 0) 1 38 := ⟨by decide +kernel, rfl⟩
theorem e_X4_findToken_38 : Dc cX4_findToken 38 (.aload_n 0) 1 39 := ⟨by decide +kernel, rfl⟩
theorem e_X4_findToken_39 : Dc cX4_findToken 39 (.getfield 22) 3 42 := ⟨by decide +kernel, rfl⟩
theorem e_X4_findToken_42 : Dc cX4_findToken 42 (.putfield 28) 3 45 := ⟨by decide +kernel, rfl⟩
theorem e_X4_findToken_45 : Dc cX4_findToken 45 (.aload_n 0) 1 46 := ⟨by decide +kernel, rfl⟩
theorem e_X4_findToken_46 : Dc cX4_findToken 46 (.aload_n 0) 1 47 := ⟨by decide +kernel, rfl⟩
theorem e_X4_findToken_47 : Dc cX4_findToken 47 (.getfield 22) 3 50 := ⟨by decide +kernel, rfl⟩
theorem e_X4_findToken_50 : Dc cX4_findToken 50 (.invokevirtual 94) 3 53 := ⟨by decide +kernel, rfl⟩
theorem e_X4_findToken_53 : Dc cX4_findToken 53 (.ifCond .eq 46) 3 56 := ⟨by decide +kernel, rfl⟩
theorem e_X4_findToken_56 : Dc cX4_findToken 56 (.aload_n 0) 1 57 := ⟨by decide +kernel, rfl⟩
theorem e_X4_findToken_57 : Dc cX4_findToken 57 (.getfield 22) 3 60 := ⟨by decide +kernel, rfl⟩
theorem e_X4_findToken_60 : Dc cX4_findToken 60 (.aload_n 0) 1 61 := ⟨by decide +kernel, rfl⟩
theorem e_X4_findToken_61 : Dc cX4_findToken 61 (.getfield 18) 3 64 := ⟨by decide +kernel, rfl⟩
theorem e_X4_findToken_64 : Dc cX4_findToken 64 (.if_icmp .ge 27) 3 67 := ⟨by decide +kernel, rfl⟩
theorem e_X4_findToken_67 : Dc cX4_findToken 67 (.aload_n 0) 1 68 := ⟨by decide +kernel, rfl⟩
theorem e_X4_findToken_68 : Dc cX4_findToken 68 (.aload_n 0) 1 69 := ⟨by decide +kernel, rfl⟩
theorem e_X4_findToken_69 : Dc cX4_findToken 69 (.getfield 22) 3 72 := ⟨by decide +kernel, rfl⟩
theorem e_X4_findToken_72 : Dc cX4_findToken 72 (.invokevirtual 94) 3 75 := ⟨by decide +kernel, rfl⟩
theorem e_X4_findToken_75 : Dc cX4_findToken 75 (.ifCond .eq 16) 3 78 := ⟨by decide +kernel, rfl⟩
theorem e_X4_findToken_78 : Dc cX4_findToken 78 (.aload_n 0) 1 79 := ⟨by decide +kernel, rfl⟩
theorem e_X4_findToken_79 : Dc cX4_findToken 79 (.dup) 1 80 := ⟨by decide +kernel, rfl⟩
theorem e_X4_findToken_80 : Dc cX4_findToken 80 (.getfield 22) 3 83 := ⟨by decide +kernel, rfl⟩
theorem e_X4_findToken_83 : Dc cX4_findToken 83 (.iconst 1) 1 84 := ⟨by decide +kernel, rfl⟩
theorem e_X4_findToken_84 : Dc cX4_findToken 84 (.iadd) 1 85 := ⟨by decide +kernel, rfl⟩
theorem e_X4_findToken_85 : Dc cX4_findToken 85 (.putfield 22) 3 88 := ⟨by decide +kernel, rfl⟩
theorem e_X4_findToken_88 : Dc cX4_findToken 88 (.goto (-32)) 3 91 := ⟨by decide +kernel, rfl⟩
theorem e_X4_findToken_91 : Dc cX4_findToken 91 (.aload_n 0) 1 92 := ⟨by decide +kernel, rfl⟩
theorem e_X4_findToken_92 : Dc cX4_findToken 92 (.iconst 1) 1 93 := ⟨by decide +kernel, rfl⟩
theorem e_X4_findToken_93 : Dc cX4_findToken 93 (.putfield 25) 3 96 := ⟨by decide +kernel, rfl⟩
theorem e_X4_findToken_96 : Dc cX4_findToken 96 (.goto 125) 3 99 := ⟨by decide +kernel, rfl⟩
theorem e_X4_findToken_99 : Dc cX4_findToken 99 (.aload_n 0) 1 100 := ⟨by decide +kernel, rfl⟩
theorem e_X4_findToken_100 : Dc cX4_findToken 100 (.aload_n 0) 1 101 := ⟨by decide +kernel, rfl⟩
theorem e_X4_findToken_101 : Dc cX4_findToken 101 (.getfield 22) 3 104 := ⟨by decide +kernel, rfl⟩
theorem e_X4_findToken_104 : Dc cX4_findToken 104 (.invokevirtual 97) 3 107 := ⟨by decide +kernel, rfl⟩
theorem e_X4_findToken_107 : Dc cX4_findToken 107 (.ifCond .eq 63) 3 110 := ⟨by decide +kernel, rfl⟩
theorem e_X4_findToken_110 : Dc cX4_findToken 110 (.aload_n 0) 1 111 := ⟨by decide +kernel, rfl⟩
theorem e_X4_findToken_111 : Dc cX4_findToken 111 (.getfield 22) 3 114 := ⟨by decide +kernel, rfl⟩
theorem e_X4_findToken_114 : Dc cX4_findToken 114 (.aload_n 0) 1 115 := ⟨by decide +kernel, rfl⟩
theorem e_X4_findToken_115 : Dc cX4_findToken 115 (.getfield 18) 3 118 := ⟨by decide +kernel, rfl⟩
theorem e_X4_findToken_118 : Dc cX4_findToken 118 (.if_icmp .ge 27) 3 121 := ⟨by decide +kernel, rfl⟩
theorem e_X4_findToken_121 : Dc cX4_findToken 121 (.aload_n 0) 1 122 := ⟨by decide +kernel, rfl⟩
theorem e_X4_findToken_122 : Dc cX4_findToken 122 (.aload_n 0) 1 123 := ⟨by decide +kernel, rfl⟩
theorem e_X4_findToken_123 : Dc cX4_findToken 123 (.getfield 22) 3 126 := ⟨by decide +kernel, rfl⟩
theorem e_X4_findToken_126 : Dc cX4_findToken 126 (.invokevirtual 97) 3 129 := ⟨by decide +kernel, rfl⟩
theorem e_X4_findToken_129 : Dc cX4_findToken 129 (.ifCond .eq 16) 3 132 := ⟨by decide +kernel, rfl⟩
theorem e_X4_findToken_132 : Dc cX4_findToken 132 (.aload_n 0) 1 133 := ⟨by decide +kernel, rfl⟩
theorem e_X4_findToken_133 : Dc cX4_findToken 133 (.dup) 1 134 := ⟨by decide +kernel, rfl⟩
theorem e_X4_findToken_134 : Dc cX4_findToken 134 (.getfield 22) 3 137 := ⟨by decide +kernel, rfl⟩
theorem e_X4_findToken_137 : Dc cX4_findToken 137 (.iconst 1) 1 138 := ⟨by decide +kernel, rfl⟩
theorem e_X4_findToken_138 : Dc cX4_findToken 138 (.iadd) 1 139 := ⟨by decide +kernel, rfl⟩
theorem e_X4_findToken_139 : Dc cX4_findToken 139 (.putfield 22) 3 142 := ⟨by decide +kernel, rfl⟩
theorem e_X4_findToken_142 : Dc cX4_findToken 142 (.goto (-32)) 3 145 := ⟨by decide +kernel, rfl⟩
theorem e_X4_findToken_145 : Dc cX4_findToken 145 (.aload_n 0) 1 146 := ⟨by decide +kernel, rfl⟩
theorem e_X4_findToken_146 : Dc cX4_findToken 146 (.aload_n 0) 1 147 := ⟨by decide +kernel, rfl⟩
theorem e_X4_findToken_147 : Dc cX4_findToken 147 (.getfield 22) 3 150 := ⟨by decide +kernel, rfl⟩
theorem e_X4_findToken_150 : Dc cX4_findToken 150 (.aload_n 0) 1 151 := ⟨by decide +kernel, rfl⟩
theorem e_X4_findToken_151 : Dc cX4_findToken 151 (.getfield 28) 3 154 := ⟨by decide +kernel, rfl⟩
theorem e_X4_findToken_154 : Dc cX4_findToken 154 (.isub) 1 155 := ⟨by decide +kernel, rfl⟩
theorem e_X4_findToken_155 : Dc cX4_findToken 155 (.iconst 2) 1 156 := ⟨by decide +kernel, rfl⟩
theorem e_X4_findToken_156 : Dc cX4_findToken 156 (.if_icmp .gt 7) 3 159 := ⟨by decide +kernel, rfl⟩
theorem e_X4_findToken_159 : Dc cX4_findToken 159 (.iconst 2) 1 160 := ⟨by decide +kernel, rfl⟩
theorem e_X4_findToken_160 : Dc cX4_findToken 160 (.goto 4) 3 163 := ⟨by decide +kernel, rfl⟩
theorem e_X4_findToken_163 : Dc cX4_findToken 163 (.iconst 4) 1 164 := ⟨by decide +kernel, rfl⟩
theorem e_X4_findToken_164 : Dc cX4_findToken 164 (.putfield 25) 3 167 := ⟨by decide +kernel, rfl⟩
theorem e_X4_findToken_167 : Dc cX4_findToken 167 (.goto 54) 3 170 := ⟨by decide +kernel, rfl⟩
theorem e_X4_findToken_170 : Dc cX4_findToken 170 (.aload_n 0) 1 171 := ⟨by decide +kernel, rfl⟩
theorem e_X4_findToken_171 : Dc cX4_findToken 171 (.getfield 22) 3 174 := ⟨by decide +kernel, rfl⟩
theorem e_X4_findToken_174 : Dc cX4_findToken 174 (.aload_n 0) 1 175 := ⟨by decide +kernel, rfl⟩
theorem e_X4_findToken_175 : Dc cX4_findToken 175 (.getfield 18) 3 178 := ⟨by decide +kernel, rfl⟩
theorem e_X4_findToken_178 : Dc cX4_findToken 178 (.if_icmp .lt 11) 3 181 := ⟨by decide +kernel, rfl⟩
theorem e_X4_findToken_181 : Dc cX4_findToken 181 (.aload_n 0) 1 182 := ⟨by decide +kernel, rfl⟩
theorem e_X4_findToken_182 : Dc cX4_findToken 182 (.iconst 0) 1 183 := ⟨by decide +kernel, rfl⟩
theorem e_X4_findToken_183 : Dc cX4_findToken 183 (.putfield 25) 3 186 := ⟨by decide +kernel, rfl⟩
theorem e_X4_findToken_186 : Dc cX4_findToken 186 (.goto 35) 3 189 := ⟨by decide +kernel, rfl⟩
theorem e_X4_findToken_189 : Dc cX4_findToken 189 (.aload_n 0) 1 190 := ⟨by decide +kernel, rfl⟩
theorem e_X4_findToken_190 : Dc cX4_findToken 190 (.aload_n 0) 1 191 := ⟨by decide +kernel, rfl⟩
theorem e_X4_findToken_191 : Dc cX4_findToken 191 (.aload_n 0) 1 192 := ⟨by decide +kernel, rfl⟩
theorem e_X4_findToken_192 : Dc cX4_findToken 192 (.getfield 22) 3 195 := ⟨by decide +kernel, rfl⟩
theorem e_X4_findToken_195 : Dc cX4_findToken 195 (.invokevirtual 86) 3 198 := ⟨by decide +kernel, rfl⟩
theorem e_X4_findToken_198 : Dc cX4_findToken 198 (.bipush 59) 2 200 := ⟨by decide +kernel, rfl⟩
theorem e_X4_findToken_200 : Dc cX4_findToken 200 (.if_icmp .ne 7) 3 203 := ⟨by decide +kernel, rfl⟩
theorem e_X4_findToken_203 : Dc cX4_findToken 203 (.iconst 3) 1 204 := ⟨by decide +kernel, rfl⟩
theorem e_X4_findToken_204 : Dc cX4_findToken 204 (.goto 4) 3 207 := ⟨by decide +kernel, rfl⟩
theorem e_X4_findToken_207 : Dc cX4_findToken 207 (.iconst 4) 1 208 := ⟨by decide +kernel, rfl⟩
theorem e_X4_findToken_208 : Dc cX4_findToken 208 (.putfield 25) 3 211 := ⟨by decide +kernel, rfl⟩
theorem e_X4_findToken_211 : Dc cX4_findToken 211 (.aload_n 0) 1 212 := ⟨by decide +kernel, rfl⟩
theorem e_X4_findToken_212 : Dc cX4_findToken 212 (.dup) 1 213 := ⟨by decide +kernel, rfl⟩
theorem e_X4_findToken_213 : Dc cX4_findToken 213 (.getfield 22) 3 216 := ⟨by decide +kernel, rfl⟩
theorem e_X4_findToken_216 : Dc cX4_findToken 216 (.iconst 1) 1 217 := ⟨by decide +kernel, rfl⟩
theorem e_X4_findToken_217 : Dc cX4_findToken 217 (.iadd) 1 218 := ⟨by decide +kernel, rfl⟩
theorem e_X4_findToken_218 : Dc cX4_findToken 218 (.putfield 22) 3 221 := ⟨by decide +kernel, rfl⟩
theorem e_X4_findToken_221 : Dc cX4_findToken 221 (.return_) 1 222 := ⟨by decide +kernel, rfl⟩
set_option maxHeartbeats 4000000 in
set_option maxRecDepth 20000 in
theorem R_X4_findToken (hD : DD E) (s : Sg) : ∀ τ, (f_X4_findToken s) = some τ → RV l E 3 M_X4_findToken [.ref (ead E 49)] s τ := by
  refine ofU hD (by decide +kernel) (Nat.le_of_ble_eq_true rfl) (fun X C => ?_)
  show MF l E X (fun q : Sg => QV E X q) (f_X4_findToken s) s 0 [(0, .ref (ead E 49))] []
  unfold f_X4_findToken
  refine MF.join (fun j : Sg → Option Sg => ∀ (s1 : Sg), MF l E X (fun q : Sg => QV E X q) (j s1) s1 37 [(0, .ref (ead E 49))] []) ?_ (fun j2 hj2 => ?_)
  · intro s1
    refine MF.aload_n C e_X4_findToken_37 0 rfl rfl ?_
    refine MF.aload_n C e_X4_findToken_38 0 rfl rfl ?_
    refine MF.get C cf_X4 l_X4_22 e_X4_findToken_39 kF_49_3 ?_
    refine MF.put C cf_X4 l_X4_28 p_X4_5 e_X4_findToken_42 kF_49_5 rfl ?_
    refine MF.nmS (fun s3 => ?_)
    refine MF.aload_n C e_X4_findToken_45 0 rfl rfl ?_
    refine MF.aload_n C e_X4_findToken_46 0 rfl rfl ?_
    refine MF.get C cf_X4 l_X4_22 e_X4_findToken_47 kF_49_3 ?_
    refine MF.callVP (As := [.int (s3 49 3)]) C (R_X4_isLetter hD (s3 49 3) s3) m_X4_isLetter k_X4_94 kO_49 rfl (by decide) e_X4_findToken_50 rfl rfl (Nat.le_of_ble_eq_true rfl) (fun v4 => ?_)
    refine MF.if_eq (tgt := 99) C e_X4_findToken_53 (by decide) (fun _ => ?_) (fun _ => ?_)
    · refine MF.aload_n C e_X4_findToken_99 0 rfl rfl ?_
      refine MF.aload_n C e_X4_findToken_100 0 rfl rfl ?_
      refine MF.get C cf_X4 l_X4_22 e_X4_findToken_101 kF_49_3 ?_
      refine MF.callVP (As := [.int (s3 49 3)]) C (R_X4_isFigure hD (s3 49 3) s3) m_X4_isFigure k_X4_97 kO_49 rfl (by decide) e_X4_findToken_104 rfl rfl (Nat.le_of_ble_eq_true rfl) (fun v5 => ?_)
      refine MF.if_eq (tgt := 170) C e_X4_findToken_107 (by decide) (fun _ => ?_) (fun _ => ?_)
      · refine MF.aload_n C e_X4_findToken_170 0 rfl rfl ?_
        refine MF.get C cf_X4 l_X4_22 e_X4_findToken_171 kF_49_3 ?_
        refine MF.aload_n C e_X4_findToken_174 0 rfl rfl ?_
        refine MF.get C cf_X4 l_X4_18 e_X4_findToken_175 kF_49_2 ?_
        refine MF.icmp_lt (tgt := 189) C e_X4_findToken_178 (by decide) (fun _ => ?_) (fun _ => ?_)
        · refine MF.aload_n C e_X4_findToken_189 0 rfl rfl ?_
          refine MF.aload_n C e_X4_findToken_190 0 rfl rfl ?_
          refine MF.aload_n C e_X4_findToken_191 0 rfl rfl ?_
          refine MF.get C cf_X4 l_X4_22 e_X4_findToken_192 kF_49_3 ?_
          refine MF.callVP (As := [.int (s3 49 3)]) C (R_X4_byteAt hD (s3 49 3) s3) m_X4_byteAt k_X4_86 kO_49 rfl (by decide) e_X4_findToken_195 rfl rfl (Nat.le_of_ble_eq_true rfl) (fun v6 => ?_)
          refine MF.bipush (v := (nI 59)) C e_X4_findToken_198 (by decide) ?_
          refine MF.join (fun j : Int32 → Option Sg => ∀ (a7 : Int32), MF l E X (fun q : Sg => QV E X q) (j a7) s3 208 [(0, .ref (ead E 49))] [.int a7, .ref (ead E 49)]) ?_ (fun j8 hj8 => ?_)
          · intro a7
            refine MF.put C cf_X4 l_X4_25 p_X4_4 e_X4_findToken_208 kF_49_4 rfl ?_
            refine MF.nmS (fun s9 => ?_)
            refine MF.aload_n C e_X4_findToken_211 0 rfl rfl ?_
            refine MF.dup C e_X4_findToken_212 rfl ?_
            refine MF.get C cf_X4 l_X4_22 e_X4_findToken_213 kF_49_3 ?_
            refine MF.iconst (v := (nI 1)) C e_X4_findToken_216 rfl ?_
            refine MF.iadd C e_X4_findToken_217 ?_
            refine MF.put C cf_X4 l_X4_22 p_X4_3 e_X4_findToken_218 kF_49_3 rfl ?_
            refine MF.nmS (fun s10 => ?_)
            exact MF.vret C e_X4_findToken_221
          refine MF.icmp_ne (tgt := 207) C e_X4_findToken_200 (by decide) (fun _ => ?_) (fun _ => ?_)
          · refine MF.iconst (v := (nI 4)) C e_X4_findToken_207 rfl ?_
            exact hj8 (nI 4)
          · refine MF.iconst (v := (nI 3)) C e_X4_findToken_203 rfl ?_
            refine MF.goto (tgt := 208) C e_X4_findToken_204 (by decide) ?_
            exact hj8 (nI 3)
        · refine MF.aload_n C e_X4_findToken_181 0 rfl rfl ?_
          refine MF.iconst (v := (nI 0)) C e_X4_findToken_182 rfl ?_
          refine MF.put C cf_X4 l_X4_25 p_X4_4 e_X4_findToken_183 kF_49_4 rfl ?_
          refine MF.nmS (fun s11 => ?_)
          refine MF.goto (tgt := 221) C e_X4_findToken_186 (by decide) ?_
          exact MF.vret C e_X4_findToken_221
      · refine MF.join (fun j : Sg → Option Sg => ∀ (s12 : Sg), MF l E X (fun q : Sg => QV E X q) (j s12) s12 145 [(0, .ref (ead E 49))] []) ?_ (fun j13 hj13 => ?_)
        · intro s12
          refine MF.aload_n C e_X4_findToken_145 0 rfl rfl ?_
          refine MF.aload_n C e_X4_findToken_146 0 rfl rfl ?_
          refine MF.get C cf_X4 l_X4_22 e_X4_findToken_147 kF_49_3 ?_
          refine MF.aload_n C e_X4_findToken_150 0 rfl rfl ?_
          refine MF.get C cf_X4 l_X4_28 e_X4_findToken_151 kF_49_5 ?_
          refine MF.isub C e_X4_findToken_154 ?_
          refine MF.iconst (v := (nI 2)) C e_X4_findToken_155 rfl ?_
          refine MF.icmp_gt (tgt := 163) C e_X4_findToken_156 (by decide) (fun _ => ?_) (fun _ => ?_)
          · refine MF.iconst (v := (nI 4)) C e_X4_findToken_163 rfl ?_
            refine MF.put C cf_X4 l_X4_25 p_X4_4 e_X4_findToken_164 kF_49_4 rfl ?_
            refine MF.nmS (fun s14 => ?_)
            refine MF.goto (tgt := 221) C e_X4_findToken_167 (by decide) ?_
            exact MF.vret C e_X4_findToken_221
          · refine MF.iconst (v := (nI 2)) C e_X4_findToken_159 rfl ?_
            refine MF.goto (tgt := 164) C e_X4_findToken_160 (by decide) ?_
            refine MF.put C cf_X4 l_X4_25 p_X4_4 e_X4_findToken_164 kF_49_4 rfl ?_
            refine MF.nmS (fun s15 => ?_)
            refine MF.goto (tgt := 221) C e_X4_findToken_167 (by decide) ?_
            exact MF.vret C e_X4_findToken_221
        refine MF.loop1 (fun s16 => s16) (fun s16 => [(0, .ref (ead E 49))]) (fun self17 hself17 s16 => ?_) fu s3
        unfold b_X4_findToken_110
        refine MF.aload_n C e_X4_findToken_110 0 rfl rfl ?_
        refine MF.get C cf_X4 l_X4_22 e_X4_findToken_111 kF_49_3 ?_
        refine MF.aload_n C e_X4_findToken_114 0 rfl rfl ?_
        refine MF.get C cf_X4 l_X4_18 e_X4_findToken_115 kF_49_2 ?_
        refine MF.icmp_ge (tgt := 145) C e_X4_findToken_118 (by decide) (fun _ => ?_) (fun _ => ?_)
        · exact hj13 s16
        · refine MF.aload_n C e_X4_findToken_121 0 rfl rfl ?_
          refine MF.aload_n C e_X4_findToken_122 0 rfl rfl ?_
          refine MF.get C cf_X4 l_X4_22 e_X4_findToken_123 kF_49_3 ?_
          refine MF.callVP (As := [.int (s16 49 3)]) C (R_X4_isFigure hD (s16 49 3) s16) m_X4_isFigure k_X4_97 kO_49 rfl (by decide) e_X4_findToken_126 rfl rfl (Nat.le_of_ble_eq_true rfl) (fun v18 => ?_)
          refine MF.if_eq (tgt := 145) C e_X4_findToken_129 (by decide) (fun _ => ?_) (fun _ => ?_)
          · exact hj13 s16
          · refine MF.aload_n C e_X4_findToken_132 0 rfl rfl ?_
            refine MF.dup C e_X4_findToken_133 rfl ?_
            refine MF.get C cf_X4 l_X4_22 e_X4_findToken_134 kF_49_3 ?_
            refine MF.iconst (v := (nI 1)) C e_X4_findToken_137 rfl ?_
            refine MF.iadd C e_X4_findToken_138 ?_
            refine MF.put C cf_X4 l_X4_22 p_X4_3 e_X4_findToken_139 kF_49_3 rfl ?_
            refine MF.nmS (fun s19 => ?_)
            refine MF.goto (tgt := 110) C e_X4_findToken_142 (by decide) ?_
            exact hself17 s19
    · refine MF.loop1 (fun s20 => s20) (fun s20 => [(0, .ref (ead E 49))]) (fun self21 hself21 s20 => ?_) fu s3
      unfold b_X4_findToken_56
      refine MF.aload_n C e_X4_findToken_56 0 rfl rfl ?_
      refine MF.get C cf_X4 l_X4_22 e_X4_findToken_57 kF_49_3 ?_
      refine MF.aload_n C e_X4_findToken_60 0 rfl rfl ?_
      refine MF.get C cf_X4 l_X4_18 e_X4_findToken_61 kF_49_2 ?_
      refine MF.icmp_ge (tgt := 91) C e_X4_findToken_64 (by decide) (fun _ => ?_) (fun _ => ?_)
      · refine MF.aload_n C e_X4_findToken_91 0 rfl rfl ?_
        refine MF.iconst (v := (nI 1)) C e_X4_findToken_92 rfl ?_
        refine MF.put C cf_X4 l_X4_25 p_X4_4 e_X4_findToken_93 kF_49_4 rfl ?_
        refine MF.nmS (fun s22 => ?_)
        refine MF.goto (tgt := 221) C e_X4_findToken_96 (by decide) ?_
        exact MF.vret C e_X4_findToken_221
      · refine MF.aload_n C e_X4_findToken_67 0 rfl rfl ?_
        refine MF.aload_n C e_X4_findToken_68 0 rfl rfl ?_
        refine MF.get C cf_X4 l_X4_22 e_X4_findToken_69 kF_49_3 ?_
        refine MF.callVP (As := [.int (s20 49 3)]) C (R_X4_isLetter hD (s20 49 3) s20) m_X4_isLetter k_X4_94 kO_49 rfl (by decide) e_X4_findToken_72 rfl rfl (Nat.le_of_ble_eq_true rfl) (fun v23 => ?_)
        refine MF.if_eq (tgt := 91) C e_X4_findToken_75 (by decide) (fun _ => ?_) (fun _ => ?_)
        · refine MF.aload_n C e_X4_findToken_91 0 rfl rfl ?_
          refine MF.iconst (v := (nI 1)) C e_X4_findToken_92 rfl ?_
          refine MF.put C cf_X4 l_X4_25 p_X4_4 e_X4_findToken_93 kF_49_4 rfl ?_
          refine MF.nmS (fun s24 => ?_)
          refine MF.goto (tgt := 221) C e_X4_findToken_96 (by decide) ?_
          exact MF.vret C e_X4_findToken_221
        · refine MF.aload_n C e_X4_findToken_78 0 rfl rfl ?_
          refine MF.dup C e_X4_findToken_79 rfl ?_
          refine MF.get C cf_X4 l_X4_22 e_X4_findToken_80 kF_49_3 ?_
          refine MF.iconst (v := (nI 1)) C e_X4_findToken_83 rfl ?_
          refine MF.iadd C e_X4_findToken_84 ?_
          refine MF.put C cf_X4 l_X4_22 p_X4_3 e_X4_findToken_85 kF_49_3 rfl ?_
          refine MF.nmS (fun s25 => ?_)
          refine MF.goto (tgt := 56) C e_X4_findToken_88 (by decide) ?_
          exact hself21 s25
  refine MF.loop1 (fun s26 => s26) (fun s26 => [(0, .ref (ead E 49))]) (fun self27 hself27 s26 => ?_) fu s
  unfold b_X4_findToken_0
  refine MF.aload_n C e_X4_findToken_0 0 rfl rfl ?_
  refine MF.get C cf_X4 l_X4_22 e_X4_findToken_1 kF_49_3 ?_
  refine MF.aload_n C e_X4_findToken_4 0 rfl rfl ?_
  refine MF.get C cf_X4 l_X4_18 e_X4_findToken_5 kF_49_2 ?_
  refine MF.icmp_ge (tgt := 37) C e_X4_findToken_8 (by decide) (fun _ => ?_) (fun _ => ?_)
  · exact hj2 s26
  · refine MF.aload_n C e_X4_findToken_11 0 rfl rfl ?_
    refine MF.aload_n C e_X4_findToken_12 0 rfl rfl ?_
    refine MF.get C cf_X4 l_X4_22 e_X4_findToken_13 kF_49_3 ?_
    refine MF.callVP (As := [.int (s26 49 3)]) C (R_X4_byteAt hD (s26 49 3) s26) m_X4_byteAt k_X4_86 kO_49 rfl (by decide) e_X4_findToken_16 rfl rfl (Nat.le_of_ble_eq_true rfl) (fun v28 => ?_)
    refine MF.bipush (v := (nI 32)) C e_X4_findToken_19 (by decide) ?_
    refine MF.icmp_ne (tgt := 37) C e_X4_findToken_21 (by decide) (fun _ => ?_) (fun _ => ?_)
    · exact hj2 s26
    · refine MF.aload_n C e_X4_findToken_24 0 rfl rfl ?_
      refine MF.dup C e_X4_findToken_25 rfl ?_
      refine MF.get C cf_X4 l_X4_22 e_X4_findToken_26 kF_49_3 ?_
      refine MF.iconst (v := (nI 1)) C e_X4_findToken_29 rfl ?_
      refine MF.iadd C e_X4_findToken_30 ?_
      refine MF.put C cf_X4 l_X4_22 p_X4_3 e_X4_findToken_31 kF_49_3 rfl ?_
      refine MF.nmS (fun s29 => ?_)
      refine MF.goto (tgt := 0) C e_X4_findToken_34 (by decide) ?_
      exact hself27 s29
theorem e_X5_forgetPast_0 : Dc cX5_forgetPast 0 (.aload_n 0) 1 1 := ⟨by decide +kernel, rfl⟩
theorem e_X5_forgetPast_1 : Dc cX5_forgetPast 1 (.getfield 26) 3 4 := ⟨by decide +kernel, rfl⟩
theorem e_X5_forgetPast_4 : Dc cX5_forgetPast 4 (.invokevirtual 65) 3 7 := ⟨by decide +kernel, rfl⟩
theorem e_X5_forgetPast_7 : Dc cX5_forgetPast 7 (.return_) 1 8 := ⟨by decide +kernel, rfl⟩
set_option maxHeartbeats 4000000 in
set_option maxRecDepth 20000 in
theorem R_X5_forgetPast (hD : DD E) (t : Nat) (ht : iTo t) (s : Sg) : ∀ τ, (f_X5_forgetPast t s) = some τ → RV l E 1 M_X5_forgetPast [.ref (ead E t)] s τ := by
  refine ofU hD (by decide +kernel) (Nat.le_of_ble_eq_true rfl) (fun X C => ?_)
  show MF l E X (fun q : Sg => QV E X q) (f_X5_forgetPast t s) s 0 [(0, .ref (ead E t))] []
  unfold f_X5_forgetPast
  refine MF.aload_n C e_X5_forgetPast_0 0 rfl rfl ?_
  refine MF.getR (j := (t + 7)) C cf_X5 l_X5_26 e_X5_forgetPast_1 (iTo.f3 ht) ?_
  refine MF.callVU (As := []) C (R_X2_empty hD (t + 7) (iTo.o3 ht) s) m_X2_empty k_X5_65 (iRo.o (iTo.o3 ht)) rfl (by decide) e_X5_forgetPast_4 rfl rfl (Nat.le_of_ble_eq_true rfl) (fun s1 => ?_)
  exact MF.vret C e_X5_forgetPast_7
theorem e_J0_coder_7d493_0 : Dc cJ0_coder_7d493 0 (.getstatic 38) 3 3 := ⟨by decide +kernel, rfl⟩
theorem e_J0_coder_7d493_3 : Dc cJ0_coder_7d493 3 (.ifCond .eq 10) 3 6 := ⟨by decide +kernel, rfl⟩
theorem e_J0_coder_7d493_6 : Dc cJ0_coder_7d493 6 (.aload_n 0) 1 7 := ⟨by decide +kernel, rfl⟩
theorem e_J0_coder_7d493_7 : Dc cJ0_coder_7d493 7 (.getfield 15) 3 10 := ⟨by decide +kernel, rfl⟩
theorem e_J0_coder_7d493_10 : Dc cJ0_coder_7d493 10 (.goto 4) 3 13 := ⟨by decide +kernel, rfl⟩
theorem e_J0_coder_7d493_13 : Dc cJ0_coder_7d493 13 (.iconst 1) 1 14 := ⟨by decide +kernel, rfl⟩
theorem e_J0_coder_7d493_14 : Dc cJ0_coder_7d493 14 (.ireturn) 1 15 := ⟨by decide +kernel, rfl⟩
set_option maxHeartbeats 4000000 in
set_option maxRecDepth 20000 in
theorem R_J0_coder_7d493 (hD : DD E) (q : Nat) (hq : q < 4) (s : Sg) : ∀ v, (f_J0_coder_7d493 q s) = some v → RI l E 0 M_J0_coder_7d493 [.ref (esK E q)] s v s := by
  refine ofP hD (by decide +kernel) (Nat.le_of_ble_eq_true rfl) (fun X C => ?_)
  show MF l E X (fun q : Int32 => QI E X q s) (f_J0_coder_7d493 q s) s 0 [(0, .ref (esK E q))] []
  unfold f_J0_coder_7d493
  refine MF.getCS C l_J0_38 e_J0_coder_7d493_0 ?_
  refine MF.if_eq (tgt := 13) C e_J0_coder_7d493_3 (by decide) (fun _ => ?_) (fun _ => ?_)
  · refine MF.iconst (v := (nI 1)) C e_J0_coder_7d493_13 rfl ?_
    exact MF.nretp C e_J0_coder_7d493_14 rfl
  · refine MF.aload_n C e_J0_coder_7d493_6 0 rfl rfl ?_
    refine MF.strC C hq l_J0_15 e_J0_coder_7d493_7 ?_
    refine MF.goto (tgt := 14) C e_J0_coder_7d493_10 (by decide) ?_
    exact MF.nretp C e_J0_coder_7d493_14 rfl
theorem e_J0_length_8abf5_0 : Dc cJ0_length_8abf5 0 (.aload_n 0) 1 1 := ⟨by decide +kernel, rfl⟩
theorem e_J0_length_8abf5_1 : Dc cJ0_length_8abf5 1 (.getfield 9) 3 4 := ⟨by decide +kernel, rfl⟩
theorem e_J0_length_8abf5_4 : Dc cJ0_length_8abf5 4 (.arraylength) 1 5 := ⟨by decide +kernel, rfl⟩
theorem e_J0_length_8abf5_5 : Dc cJ0_length_8abf5 5 (.aload_n 0) 1 6 := ⟨by decide +kernel, rfl⟩
theorem e_J0_length_8abf5_6 : Dc cJ0_length_8abf5 6 (.invokevirtual 335) 3 9 := ⟨by decide +kernel, rfl⟩
theorem e_J0_length_8abf5_9 : Dc cJ0_length_8abf5 9 (.ishr) 1 10 := ⟨by decide +kernel, rfl⟩
theorem e_J0_length_8abf5_10 : Dc cJ0_length_8abf5 10 (.ireturn) 1 11 := ⟨by decide +kernel, rfl⟩
set_option maxHeartbeats 4000000 in
set_option maxRecDepth 20000 in
theorem R_J0_length_8abf5 (hD : DD E) (q : Nat) (hq : q < 4) (s : Sg) : ∀ v, (f_J0_length_8abf5 q s) = some v → RI l E 1 M_J0_length_8abf5 [.ref (esK E q)] s v s := by
  refine ofP hD (by decide +kernel) (Nat.le_of_ble_eq_true rfl) (fun X C => ?_)
  show MF l E X (fun q : Int32 => QI E X q s) (f_J0_length_8abf5 q s) s 0 [(0, .ref (esK E q))] []
  unfold f_J0_length_8abf5
  refine MF.aload_n C e_J0_length_8abf5_0 0 rfl rfl ?_
  refine MF.strV C hq l_J0_9 e_J0_length_8abf5_1 ?_
  refine MF.slen C hq rfl e_J0_length_8abf5_4 ?_
  refine MF.aload_n C e_J0_length_8abf5_5 0 rfl rfl ?_
  refine MF.callTP (As := []) C (R_J0_coder_7d493 hD q hq s) m_J0_coder_7d493 k_J0_335 hq rfl (by decide) e_J0_length_8abf5_6 rfl rfl (Nat.le_of_ble_eq_true rfl) (fun v1 => ?_)
  refine MF.ishr C e_J0_length_8abf5_9 ?_
  exact MF.iretp C e_J0_length_8abf5_10
theorem e_J0_isLatin1_aae02_0 : Dc cJ0_isLatin1_aae02 0 (.getstatic 38) 3 3 := ⟨by decide +kernel, rfl⟩
theorem e_J0_isLatin1_aae02_3 : Dc cJ0_isLatin1_aae02 3 (.ifCond .eq 14) 3 6 := ⟨by decide +kernel, rfl⟩
theorem e_J0_isLatin1_aae02_6 : Dc cJ0_isLatin1_aae02 6 (.aload_n 0) 1 7 := ⟨by decide +kernel, rfl⟩
theorem e_J0_isLatin1_aae02_7 : Dc cJ0_isLatin1_aae02 7 (.getfield 15) 3 10 := ⟨by decide +kernel, rfl⟩
theorem e_J0_isLatin1_aae02_10 : Dc cJ0_isLatin1_aae02 10 (.ifCond .ne 7) 3 13 := ⟨by decide +kernel, rfl⟩
theorem e_J0_isLatin1_aae02_13 : Dc cJ0_isLatin1_aae02 13 (.iconst 1) 1 14 := ⟨by decide +kernel, rfl⟩
theorem e_J0_isLatin1_aae02_14 : Dc cJ0_isLatin1_aae02 14 (.goto 4) 3 17 := ⟨by decide +kernel, rfl⟩
theorem e_J0_isLatin1_aae02_17 : Dc cJ0_isLatin1_aae02 17 (.iconst 0) 1 18 := ⟨by decide +kernel, rfl⟩
theorem e_J0_isLatin1_aae02_18 : Dc cJ0_isLatin1_aae02 18 (.ireturn) 1 19 := ⟨by decide +kernel, rfl⟩
set_option maxHeartbeats 4000000 in
set_option maxRecDepth 20000 in
theorem R_J0_isLatin1_aae02 (hD : DD E) (q : Nat) (hq : q < 4) (s : Sg) : ∀ v, (f_J0_isLatin1_aae02 q s) = some v → RI l E 0 M_J0_isLatin1_aae02 [.ref (esK E q)] s v s := by
  refine ofP hD (by decide +kernel) (Nat.le_of_ble_eq_true rfl) (fun X C => ?_)
  show MF l E X (fun q : Int32 => QI E X q s) (f_J0_isLatin1_aae02 q s) s 0 [(0, .ref (esK E q))] []
  unfold f_J0_isLatin1_aae02
  refine MF.getCS C l_J0_38 e_J0_isLatin1_aae02_0 ?_
  refine MF.if_eq (tgt := 17) C e_J0_isLatin1_aae02_3 (by decide) (fun _ => ?_) (fun _ => ?_)
  · refine MF.iconst (v := (nI 0)) C e_J0_isLatin1_aae02_17 rfl ?_
    exact MF.nretp C e_J0_isLatin1_aae02_18 rfl
  · refine MF.aload_n C e_J0_isLatin1_aae02_6 0 rfl rfl ?_
    refine MF.strC C hq l_J0_15 e_J0_isLatin1_aae02_7 ?_
    refine MF.if_ne (tgt := 17) C e_J0_isLatin1_aae02_10 (by decide) (fun _ => ?_) (fun _ => ?_)
    · refine MF.iconst (v := (nI 0)) C e_J0_isLatin1_aae02_17 rfl ?_
      exact MF.nretp C e_J0_isLatin1_aae02_18 rfl
    · refine MF.iconst (v := (nI 1)) C e_J0_isLatin1_aae02_13 rfl ?_
      refine MF.goto (tgt := 18) C e_J0_isLatin1_aae02_14 (by decide) ?_
      exact MF.nretp C e_J0_isLatin1_aae02_18 rfl
theorem e_J3_checkIndex_8e157_0 : Dc cJ3_checkIndex_8e157 0 (.iload_n 0) 1 1 := ⟨by decide +kernel, rfl⟩
theorem e_J3_checkIndex_8e157_1 : Dc cJ3_checkIndex_8e157 1 (.ifCond .lt 8) 3 4 := ⟨by decide +kernel, rfl⟩
theorem e_J3_checkIndex_8e157_4 : Dc cJ3_checkIndex_8e157 4 (.iload_n 0) 1 5 := ⟨by decide +kernel, rfl⟩
theorem e_J3_checkIndex_8e157_5 : Dc cJ3_checkIndex_8e157 5 (.iload_n 1) 1 6 := ⟨by decide +kernel, rfl⟩
theorem e_J3_checkIndex_8e157_6 : Dc cJ3_checkIndex_8e157 6 (.if_icmp .lt 10) 3 9 := ⟨by decide +kernel, rfl⟩
theorem e_J3_checkIndex_8e157_9 : Dc cJ3_checkIndex_8e157 9 (.aload_n 2) 1 10 := ⟨by decide +kernel, rfl⟩
theorem e_J3_checkIndex_8e157_10 : Dc cJ3_checkIndex_8e157 10 (.iload_n 0) 1 11 := ⟨by decide +kernel, rfl⟩
theorem e_J3_checkIndex_8e157_11 : Dc cJ3_checkIndex_8e157 11 (.iload_n 1) 1 12 := ⟨by decide +kernel, rfl⟩
theorem e_J3_checkIndex_8e157_12 : Dc cJ3_checkIndex_8e157 12 (.invokestatic 95) 3 15 := ⟨by decide +kernel, rfl⟩
theorem e_J3_checkIndex_8e157_15 : Dc cJ3_checkIndex_8e157 15 (.athrow) 1 16 := ⟨by decide +kernel, rfl⟩
theorem e_J3_checkIndex_8e157_16 : Dc cJ3_checkIndex_8e157 16 (.iload_n 0) 1 17 := ⟨by decide +kernel, rfl⟩
theorem e_J3_checkIndex_8e157_17 : Dc cJ3_checkIndex_8e157 17 (.ireturn) 1 18 := ⟨by decide +kernel, rfl⟩
set_option maxHeartbeats 4000000 in
set_option maxRecDepth 20000 in
theorem R_J3_checkIndex_8e157 (hD : DD E) (x0 : Int32) (x1 : Int32) (vf : Value) (hvf : vf = .null ∨ ∃ t : Nat, vf = .ref t) (s : Sg) : ∀ v, (f_J3_checkIndex_8e157 x0 x1 s) = some v → RI l E 0 M_J3_checkIndex_8e157 [.int x0, .int x1, vf] s v s := by
  refine ofP hD (by decide +kernel) (by first | exact Nat.le_of_ble_eq_true rfl | (rcases hvf with h | ⟨_, h⟩ <;> rw [h] <;> exact Nat.le_of_ble_eq_true rfl)) (fun X C => ?_)
  show MF l E X (fun q : Int32 => QI E X q s) (f_J3_checkIndex_8e157 x0 x1 s) s 0 [(0, .int x0), (1, .int x1), (2, vf)] []
  unfold f_J3_checkIndex_8e157
  refine MF.iload_n C e_J3_checkIndex_8e157_0 0 rfl rfl ?_
  refine MF.if_lt (tgt := 9) C e_J3_checkIndex_8e157_1 (by decide) (fun _ => ?_) (fun _ => ?_)
  · exact MF.no
  · refine MF.iload_n C e_J3_checkIndex_8e157_4 0 rfl rfl ?_
    refine MF.iload_n C e_J3_checkIndex_8e157_5 1 rfl rfl ?_
    refine MF.icmp_lt (tgt := 16) C e_J3_checkIndex_8e157_6 (by decide) (fun _ => ?_) (fun _ => ?_)
    · refine MF.iload_n C e_J3_checkIndex_8e157_16 0 rfl rfl ?_
      exact MF.iretp C e_J3_checkIndex_8e157_17
    · exact MF.no
theorem e_J0_checkIndex_df160_0 : Dc cJ0_checkIndex_df160 0 (.iload_n 0) 1 1 := ⟨by decide +kernel, rfl⟩
theorem e_J0_checkIndex_df160_1 : Dc cJ0_checkIndex_df160 1 (.iload_n 1) 1 2 := ⟨by decide +kernel, rfl⟩
theorem e_J0_checkIndex_df160_2 : Dc cJ0_checkIndex_df160 2 (.getstatic 1053) 3 5 := ⟨by decide +kernel, rfl⟩
theorem e_J0_checkIndex_df160_5 : Dc cJ0_checkIndex_df160 5 (.invokestatic 1059) 3 8 := ⟨by decide +kernel, rfl⟩
theorem e_J0_checkIndex_df160_8 : Dc cJ0_checkIndex_df160 8 (.pop) 1 9 := ⟨by decide +kernel, rfl⟩
theorem e_J0_checkIndex_df160_9 : Dc cJ0_checkIndex_df160 9 (.return_) 1 10 := ⟨by decide +kernel, rfl⟩
set_option maxHeartbeats 4000000 in
set_option maxRecDepth 20000 in
theorem R_J0_checkIndex_df160 (hD : DD E) (x0 : Int32) (x1 : Int32) (s : Sg) : ∀ τ, (f_J0_checkIndex_df160 x0 x1 s) = some τ → RV l E 1 M_J0_checkIndex_df160 [.int x0, .int x1] s τ := by
  refine ofU hD (by decide +kernel) (Nat.le_of_ble_eq_true rfl) (fun X C => ?_)
  show MF l E X (fun q : Sg => QV E X q) (f_J0_checkIndex_df160 x0 x1 s) s 0 [(0, .int x0), (1, .int x1)] []
  unfold f_J0_checkIndex_df160
  refine MF.iload_n C e_J0_checkIndex_df160_0 0 rfl rfl ?_
  refine MF.iload_n C e_J0_checkIndex_df160_1 1 rfl rfl ?_
  refine MF.getSF C l_J0_1053 e_J0_checkIndex_df160_2 (fun vf1 hvf1 => ?_)
  refine MF.callSP (As := [.int x0, .int x1, vf1]) C (R_J3_checkIndex_8e157 hD x0 x1 vf1 hvf1 s) m_J3_checkIndex_8e157 k_J0_1059 (by decide) e_J0_checkIndex_df160_5 rfl rfl (Nat.le_of_ble_eq_true rfl) (fun v2 => ?_)
  refine MF.pop C e_J0_checkIndex_df160_8 rfl ?_
  exact MF.vret C e_J0_checkIndex_df160_9
theorem e_J1_charAt_3b067_0 : Dc cJ1_charAt_3b067 0 (.iload_n 1) 1 1 := ⟨by decide +kernel, rfl⟩
theorem e_J1_charAt_3b067_1 : Dc cJ1_charAt_3b067 1 (.aload_n 0) 1 2 := ⟨by decide +kernel, rfl⟩
theorem e_J1_charAt_3b067_2 : Dc cJ1_charAt_3b067 2 (.arraylength) 1 3 := ⟨by decide +kernel, rfl⟩
theorem e_J1_charAt_3b067_3 : Dc cJ1_charAt_3b067 3 (.invokestatic 9) 3 6 := ⟨by decide +kernel, rfl⟩
theorem e_J1_charAt_3b067_6 : Dc cJ1_charAt_3b067 6 (.aload_n 0) 1 7 := ⟨by decide +kernel, rfl⟩
theorem e_J1_charAt_3b067_7 : Dc cJ1_charAt_3b067 7 (.iload_n 1) 1 8 := ⟨by decide +kernel, rfl⟩
theorem e_J1_charAt_3b067_8 : Dc cJ1_charAt_3b067 8 (.baload) 1 9 := ⟨by decide +kernel, rfl⟩
theorem e_J1_charAt_3b067_9 : Dc cJ1_charAt_3b067 9 (.sipush 255) 3 12 := ⟨by decide +kernel, rfl⟩
theorem e_J1_charAt_3b067_12 : Dc cJ1_charAt_3b067 12 (.iand) 1 13 := ⟨by decide +kernel, rfl⟩
theorem e_J1_charAt_3b067_13 : Dc cJ1_charAt_3b067 13 (.i2c) 1 14 := ⟨by decide +kernel, rfl⟩
theorem e_J1_charAt_3b067_14 : Dc cJ1_charAt_3b067 14 (.ireturn) 1 15 := ⟨by decide +kernel, rfl⟩
set_option maxHeartbeats 4000000 in
set_option maxRecDepth 20000 in
theorem R_J1_charAt_3b067 (hD : DD E) (q : Nat) (x1 : Int32) (hq : q < 4) (s : Sg) : ∀ v τ, (f_J1_charAt_3b067 q x1 s) = some (v, τ) → RI l E 2 M_J1_charAt_3b067 [.ref (esV E q), .int x1] s v τ := by
  refine ofI hD (by decide +kernel) (Nat.le_of_ble_eq_true rfl) (fun X C => ?_)
  show MF l E X (fun q : Int32 × Sg => QI E X q.1 q.2) (f_J1_charAt_3b067 q x1 s) s 0 [(0, .ref (esV E q)), (1, .int x1)] []
  unfold f_J1_charAt_3b067
  refine MF.iload_n C e_J1_charAt_3b067_0 1 rfl rfl ?_
  refine MF.aload_n C e_J1_charAt_3b067_1 0 rfl rfl ?_
  refine MF.slen C hq rfl e_J1_charAt_3b067_2 ?_
  refine MF.callSU (As := [.int x1, .int (nI (strLen.getD q 0))]) C (R_J0_checkIndex_df160 hD x1 (nI (strLen.getD q 0)) s) m_J0_checkIndex_df160 k_J1_9 (by decide) e_J1_charAt_3b067_3 rfl rfl (Nat.le_of_ble_eq_true rfl) (fun s1 => ?_)
  refine MF.aload_n C e_J1_charAt_3b067_6 0 rfl rfl ?_
  refine MF.iload_n C e_J1_charAt_3b067_7 1 rfl rfl ?_
  refine MF.sald C hq e_J1_charAt_3b067_8 (fun v2 => ?_)
  refine MF.sipush (v := (nI 255)) C e_J1_charAt_3b067_9 (by decide) ?_
  refine MF.iand C e_J1_charAt_3b067_12 ?_
  refine MF.i2c C e_J1_charAt_3b067_13 ?_
  exact MF.nret C e_J1_charAt_3b067_14 rfl
theorem e_J0_charAt_5068e_0 : Dc cJ0_charAt_5068e 0 (.aload_n 0) 1 1 := ⟨by decide +kernel, rfl⟩
theorem e_J0_charAt_5068e_1 : Dc cJ0_charAt_5068e 1 (.invokevirtual 492) 3 4 := ⟨by decide +kernel, rfl⟩
theorem e_J0_charAt_5068e_4 : Dc cJ0_charAt_5068e 4 (.ifCond .eq 12) 3 7 := ⟨by decide +kernel, rfl⟩
theorem e_J0_charAt_5068e_7 : Dc cJ0_charAt_5068e 7 (.aload_n 0) 1 8 := ⟨by decide +kernel, rfl⟩
theorem e_J0_charAt_5068e_8 : Dc cJ0_charAt_5068e 8 (.getfield 9) 3 11 := ⟨by decide +kernel, rfl⟩
theorem e_J0_charAt_5068e_11 : Dc cJ0_charAt_5068e 11 (.iload_n 1) 1 12 := ⟨by decide +kernel, rfl⟩
theorem e_J0_charAt_5068e_12 : Dc cJ0_charAt_5068e 12 (.invokestatic 495) 3 15 := ⟨by decide +kernel, rfl⟩
theorem e_J0_charAt_5068e_15 : Dc cJ0_charAt_5068e 15 (.ireturn) 1 16 := ⟨by decide +kernel, rfl⟩
theorem e_J0_charAt_5068e_16 : Dc cJ0_charAt_5068e 16 (.aload_n 0) 1 17 := ⟨by decide +kernel, rfl⟩
theorem e_J0_charAt_5068e_17 : Dc cJ0_charAt_5068e 17 (.getfield 9) 3 20 := ⟨by decide +kernel, rfl⟩
theorem e_J0_charAt_5068e_20 : Dc cJ0_charAt_5068e 20 (.iload_n 1) 1 21 := ⟨by decide +kernel, rfl⟩
theorem e_J0_charAt_5068e_21 : Dc cJ0_charAt_5068e 21 (.invokestatic 498) 3 24 := ⟨by decide +kernel, rfl⟩
theorem e_J0_charAt_5068e_24 : Dc cJ0_charAt_5068e 24 (.ireturn) 1 25 := ⟨by decide +kernel, rfl⟩
set_option maxHeartbeats 4000000 in
set_option maxRecDepth 20000 in
theorem R_J0_charAt_5068e (hD : DD E) (q : Nat) (x1 : Int32) (hq : q < 4) (s : Sg) : ∀ v τ, (f_J0_charAt_5068e q x1 s) = some (v, τ) → RI l E 3 M_J0_charAt_5068e [.ref (esK E q), .int x1] s v τ := by
  refine ofI hD (by decide +kernel) (Nat.le_of_ble_eq_true rfl) (fun X C => ?_)
  show MF l E X (fun q : Int32 × Sg => QI E X q.1 q.2) (f_J0_charAt_5068e q x1 s) s 0 [(0, .ref (esK E q)), (1, .int x1)] []
  unfold f_J0_charAt_5068e
  refine MF.aload_n C e_J0_charAt_5068e_0 0 rfl rfl ?_
  refine MF.callTP (As := []) C (R_J0_isLatin1_aae02 hD q hq s) m_J0_isLatin1_aae02 k_J0_492 hq rfl (by decide) e_J0_charAt_5068e_1 rfl rfl (Nat.le_of_ble_eq_true rfl) (fun v1 => ?_)
  refine MF.if_eq (tgt := 16) C e_J0_charAt_5068e_4 (by decide) (fun _ => ?_) (fun _ => ?_)
  · refine MF.aload_n C e_J0_charAt_5068e_16 0 rfl rfl ?_
    refine MF.strV C hq l_J0_9 e_J0_charAt_5068e_17 ?_
    refine MF.iload_n C e_J0_charAt_5068e_20 1 rfl rfl ?_
    exact MF.no
  · refine MF.aload_n C e_J0_charAt_5068e_7 0 rfl rfl ?_
    refine MF.strV C hq l_J0_9 e_J0_charAt_5068e_8 ?_
    refine MF.iload_n C e_J0_charAt_5068e_11 1 rfl rfl ?_
    refine MF.callSI (As := [.ref (esV E q), .int x1]) C (R_J1_charAt_3b067 hD q x1 hq s) m_J1_charAt_3b067 k_J0_495 (by decide) e_J0_charAt_5068e_12 rfl rfl (Nat.le_of_ble_eq_true rfl) (fun v2 s3 => ?_)
    exact MF.nret C e_J0_charAt_5068e_15 rfl
theorem e_X4_isWord_0 : Dc cX4_isWord 0 (.aload_n 0) 1 1 := ⟨by decide +kernel, rfl⟩
theorem e_X4_isWord_1 : Dc cX4_isWord 1 (.getfield 25) 3 4 := ⟨by decide +kernel, rfl⟩
theorem e_X4_isWord_4 : Dc cX4_isWord 4 (.iconst 1) 1 5 := ⟨by decide +kernel, rfl⟩
theorem e_X4_isWord_5 : Dc cX4_isWord 5 (.if_icmp .ne 19) 3 8 := ⟨by decide +kernel, rfl⟩
theorem e_X4_isWord_8 : Dc cX4_isWord 8 (.aload_n 0) 1 9 := ⟨by decide +kernel, rfl⟩
theorem e_X4_isWord_9 : Dc cX4_isWord 9 (.getfield 22) 3 12 := ⟨by decide +kernel, rfl⟩
theorem e_X4_isWord_12 : Dc cX4_isWord 12 (.aload_n 0) 1 13 := ⟨by decide +kernel, rfl⟩
theorem e_X4_isWord_13 : Dc cX4_isWord 13 (.getfield 28) 3 16 := ⟨by decide +kernel, rfl⟩
theorem e_X4_isWord_16 : Dc cX4_isWord 16 (.isub) 1 17 := ⟨by decide +kernel, rfl⟩
theorem e_X4_isWord_17 : Dc cX4_isWord 17 (.aload_n 1) 1 18 := ⟨by decide +kernel, rfl⟩
theorem e_X4_isWord_18 : Dc cX4_isWord 18 (.invokevirtual 81) 3 21 := ⟨by decide +kernel, rfl⟩
theorem e_X4_isWord_21 : Dc cX4_isWord 21 (.if_icmp .eq 5) 3 24 := ⟨by decide +kernel, rfl⟩
theorem e_X4_isWord_24 : Dc cX4_isWord 24 (.iconst 0) 1 25 := ⟨by decide +kernel, rfl⟩
theorem e_X4_isWord_25 : Dc cX4_isWord 25 (.ireturn) 1 26 := ⟨by decide +kernel, rfl⟩
theorem e_X4_isWord_26 : Dc cX4_isWord 26 (.iconst 0) 1 27 := ⟨by decide +kernel, rfl⟩
theorem e_X4_isWord_27 : Dc cX4_isWord 27 (.istore_n 2) 1 28 := ⟨by decide +kernel, rfl⟩
theorem e_X4_isWord_28 : Dc cX4_isWord 28 (.iload_n 2) 1 29 := ⟨by decide +kernel, rfl⟩
theorem e_X4_isWord_29 : Dc cX4_isWord 29 (.aload_n 1) 1 30 := ⟨by decide +kernel, rfl⟩
theorem e_X4_isWord_30 : Dc cX4_isWord 30 (.invokevirtual 81) 3 33 := ⟨by decide +kernel, rfl⟩
theorem e_X4_isWord_33 : Dc cX4_isWord 33 (.if_icmp .ge 29) 3 36 := ⟨by decide +kernel, rfl⟩
theorem e_X4_isWord_36 : Dc cX4_isWord 36 (.aload_n 0) 1 37 := ⟨by decide +kernel, rfl⟩
theorem e_X4_isWord_37 : Dc cX4_isWord 37 (.aload_n 0) 1 38 := ⟨by decide +kernel, rfl⟩
theorem e_X4_isWord_38 : Dc cX4_isWord 38 (.getfield 28) 3 41 := ⟨by decide +kernel, rfl⟩
theorem e_X4_isWord_41 : Dc cX4_isWord 41 (.iload_n 2) 1 42 := ⟨by decide +kernel, rfl⟩
theorem e_X4_isWord_42 : Dc cX4_isWord 42 (.iadd) 1 43 := ⟨by decide +kernel, rfl⟩
theorem e_X4_isWord_43 : Dc cX4_isWord 43 (.invokevirtual 86) 3 46 := ⟨by decide +kernel, rfl⟩
theorem e_X4_isWord_46 : Dc cX4_isWord 46 (.aload_n 1) 1 47 := ⟨by decide +kernel, rfl⟩
theorem e_X4_isWord_47 : Dc cX4_isWord 47 (.iload_n 2) 1 48 := ⟨by decide +kernel, rfl⟩
theorem e_X4_isWord_48 : Dc cX4_isWord 48 (.invokevirtual 90) 3 51 := ⟨by decide +kernel, rfl⟩
theorem e_X4_isWord_51 : Dc cX4_isWord 51 (.if_icmp .eq 5) 3 54 := ⟨by decide +kernel, rfl⟩
theorem e_X4_isWord_54 : Dc cX4_isWord 54 (.iconst 0) 1 55 := ⟨by decide +kernel, rfl⟩
theorem e_X4_isWord_55 : Dc cX4_isWord 55 (.ireturn) 1 56 := ⟨by decide +kernel, rfl⟩
theorem e_X4_isWord_56 : Dc cX4_isWord 56 (.iinc 2 1) 3 59 := ⟨by decide +kernel, rfl⟩
theorem e_X4_isWord_59 : Dc cX4_isWord 59 (.goto (-31)) 3 62 := ⟨by decide +kernel, rfl⟩
theorem e_X4_isWord_62 : Dc cX4_isWord 62 (.iconst 1) 1 63 := ⟨by decide +kernel, rfl⟩
theorem e_X4_isWord_63 : Dc cX4_isWord 63 (.ireturn) 1 64 := ⟨by decide +kernel, rfl⟩
set_option maxHeartbeats 4000000 in
set_option maxRecDepth 20000 in
theorem R_X4_isWord (hD : DD E) (q : Nat) (hq : q < 4) (s : Sg) : ∀ v τ, (f_X4_isWord q s) = some (v, τ) → RI l E 4 M_X4_isWord [.ref (ead E 49), .ref (esK E q)] s v τ := by
  refine ofI hD (by decide +kernel) (Nat.le_of_ble_eq_true rfl) (fun X C => ?_)
  show MF l E X (fun q : Int32 × Sg => QI E X q.1 q.2) (f_X4_isWord q s) s 0 [(0, .ref (ead E 49)), (1, .ref (esK E q))] []
  unfold f_X4_isWord
  refine MF.aload_n C e_X4_isWord_0 0 rfl rfl ?_
  refine MF.get C cf_X4 l_X4_25 e_X4_isWord_1 kF_49_4 ?_
  refine MF.iconst (v := (nI 1)) C e_X4_isWord_4 rfl ?_
  refine MF.icmp_ne (tgt := 24) C e_X4_isWord_5 (by decide) (fun _ => ?_) (fun _ => ?_)
  · refine MF.iconst (v := (nI 0)) C e_X4_isWord_24 rfl ?_
    exact MF.nret C e_X4_isWord_25 rfl
  · refine MF.aload_n C e_X4_isWord_8 0 rfl rfl ?_
    refine MF.get C cf_X4 l_X4_22 e_X4_isWord_9 kF_49_3 ?_
    refine MF.aload_n C e_X4_isWord_12 0 rfl rfl ?_
    refine MF.get C cf_X4 l_X4_28 e_X4_isWord_13 kF_49_5 ?_
    refine MF.isub C e_X4_isWord_16 ?_
    refine MF.aload_n C e_X4_isWord_17 1 rfl rfl ?_
    refine MF.callTP (As := []) C (R_J0_length_8abf5 hD q hq s) m_J0_length_8abf5 k_X4_81 hq rfl (by decide) e_X4_isWord_18 rfl rfl (Nat.le_of_ble_eq_true rfl) (fun v1 => ?_)
    refine MF.icmp_eq (tgt := 26) C e_X4_isWord_21 (by decide) (fun _ => ?_) (fun _ => ?_)
    · refine MF.iconst (v := (nI 0)) C e_X4_isWord_26 rfl ?_
      refine MF.istore_n (lv' := [(0, .ref (ead E 49)), (1, .ref (esK E q)), (2, .int (nI 0))]) C e_X4_isWord_27 (by decide) rfl ?_
      refine MF.loop2 (fun i2 s3 => s3) (fun i2 s3 => [(0, .ref (ead E 49)), (1, .ref (esK E q)), (2, .int i2)]) (fun self4 hself4 i2 s3 => ?_) fu (nI 0) s
      unfold b_X4_isWord_28
      refine MF.iload_n C e_X4_isWord_28 2 rfl rfl ?_
      refine MF.aload_n C e_X4_isWord_29 1 rfl rfl ?_
      refine MF.callTP (As := []) C (R_J0_length_8abf5 hD q hq s3) m_J0_length_8abf5 k_X4_81 hq rfl (by decide) e_X4_isWord_30 rfl rfl (Nat.le_of_ble_eq_true rfl) (fun v5 => ?_)
      refine MF.icmp_ge (tgt := 62) C e_X4_isWord_33 (by decide) (fun _ => ?_) (fun _ => ?_)
      · refine MF.iconst (v := (nI 1)) C e_X4_isWord_62 rfl ?_
        exact MF.nret C e_X4_isWord_63 rfl
      · refine MF.aload_n C e_X4_isWord_36 0 rfl rfl ?_
        refine MF.aload_n C e_X4_isWord_37 0 rfl rfl ?_
        refine MF.get C cf_X4 l_X4_28 e_X4_isWord_38 kF_49_5 ?_
        refine MF.iload_n C e_X4_isWord_41 2 rfl rfl ?_
        refine MF.iadd C e_X4_isWord_42 ?_
        refine MF.callVP (As := [.int ((s3 49 5) + i2)]) C (R_X4_byteAt hD ((s3 49 5) + i2) s3) m_X4_byteAt k_X4_86 kO_49 rfl (by decide) e_X4_isWord_43 rfl rfl (Nat.le_of_ble_eq_true rfl) (fun v6 => ?_)
        refine MF.aload_n C e_X4_isWord_46 1 rfl rfl ?_
        refine MF.iload_n C e_X4_isWord_47 2 rfl rfl ?_
        refine MF.callTI (As := [.int i2]) C (R_J0_charAt_5068e hD q i2 hq s3) m_J0_charAt_5068e k_X4_90 hq rfl (by decide) e_X4_isWord_48 rfl rfl (Nat.le_of_ble_eq_true rfl) (fun v7 s8 => ?_)
        refine MF.icmp_eq (tgt := 56) C e_X4_isWord_51 (by decide) (fun _ => ?_) (fun _ => ?_)
        · refine MF.iinc (v := (nI 1)) (lv' := [(0, .ref (ead E 49)), (1, .ref (esK E q)), (2, .int (i2 + (nI 1)))]) C e_X4_isWord_56 2 rfl rfl (by decide) rfl ?_
          refine MF.goto (tgt := 28) C e_X4_isWord_59 (by decide) ?_
          exact hself4 (i2 + (nI 1)) s8
        · refine MF.iconst (v := (nI 0)) C e_X4_isWord_54 rfl ?_
          exact MF.nret C e_X4_isWord_55 rfl
    · refine MF.iconst (v := (nI 0)) C e_X4_isWord_24 rfl ?_
      exact MF.nret C e_X4_isWord_25 rfl
theorem e_X4_itemCalled_0 : Dc cX4_itemCalled 0 (.aload_n 0) 1 1 := ⟨by decide +kernel, rfl⟩
theorem e_X4_itemCalled_1 : Dc cX4_itemCalled 1 (.ldc 69) 2 3 := ⟨by decide +kernel, rfl⟩
theorem e_X4_itemCalled_3 : Dc cX4_itemCalled 3 (.invokevirtual 71) 3 6 := ⟨by decide +kernel, rfl⟩
theorem e_X4_itemCalled_6 : Dc cX4_itemCalled 6 (.ifCond .eq 5) 3 9 := ⟨by decide +kernel, rfl⟩
theorem e_X4_itemCalled_9 : Dc cX4_itemCalled 9 (.iconst 0) 1 10 := ⟨by decide +kernel, rfl⟩
theorem e_X4_itemCalled_10 : Dc cX4_itemCalled 10 (.ireturn) 1 11 := ⟨by decide +kernel, rfl⟩
theorem e_X4_itemCalled_11 : Dc cX4_itemCalled 11 (.aload_n 0) 1 12 := ⟨by decide +kernel, rfl⟩
theorem e_X4_itemCalled_12 : Dc cX4_itemCalled 12 (.ldc 75) 2 14 := ⟨by decide +kernel, rfl⟩
theorem e_X4_itemCalled_14 : Dc cX4_itemCalled 14 (.invokevirtual 71) 3 17 := ⟨by decide +kernel, rfl⟩
theorem e_X4_itemCalled_17 : Dc cX4_itemCalled 17 (.ifCond .eq 5) 3 20 := ⟨by decide +kernel, rfl⟩
theorem e_X4_itemCalled_20 : Dc cX4_itemCalled 20 (.iconst 1) 1 21 := ⟨by decide +kernel, rfl⟩
theorem e_X4_itemCalled_21 : Dc cX4_itemCalled 21 (.ireturn) 1 22 := ⟨by decide +kernel, rfl⟩
theorem e_X4_itemCalled_22 : Dc cX4_itemCalled 22 (.aload_n 0) 1 23 := ⟨by decide +kernel, rfl⟩
theorem e_X4_itemCalled_23 : Dc cX4_itemCalled 23 (.ldc 77) 2 25 := ⟨by decide +kernel, rfl⟩
theorem e_X4_itemCalled_25 : Dc cX4_itemCalled 25 (.invokevirtual 71) 3 28 := ⟨by decide +kernel, rfl⟩
theorem e_X4_itemCalled_28 : Dc cX4_itemCalled 28 (.ifCond .eq 5) 3 31 := ⟨by decide +kernel, rfl⟩
theorem e_X4_itemCalled_31 : Dc cX4_itemCalled 31 (.iconst 2) 1 32 := ⟨by decide +kernel, rfl⟩
theorem e_X4_itemCalled_32 : Dc cX4_itemCalled 32 (.ireturn) 1 33 := ⟨by decide +kernel, rfl⟩
theorem e_X4_itemCalled_33 : Dc cX4_itemCalled 33 (.aload_n 0) 1 34 := ⟨by decide +kernel, rfl⟩
theorem e_X4_itemCalled_34 : Dc cX4_itemCalled 34 (.ldc 79) 2 36 := ⟨by decide +kernel, rfl⟩
theorem e_X4_itemCalled_36 : Dc cX4_itemCalled 36 (.invokevirtual 71) 3 39 := ⟨by decide +kernel, rfl⟩
theorem e_X4_itemCalled_39 : Dc cX4_itemCalled 39 (.ifCond .eq 7) 3 42 := ⟨by decide +kernel, rfl⟩
theorem e_X4_itemCalled_42 : Dc cX4_itemCalled 42 (.iconst 3) 1 43 := ⟨by decide +kernel, rfl⟩
theorem e_X4_itemCalled_43 : Dc cX4_itemCalled 43 (.goto 4) 3 46 := ⟨by decide +kernel, rfl⟩
theorem e_X4_itemCalled_46 : Dc cX4_itemCalled 46 (.iconst (-1)) 1 47 := ⟨by decide +kernel, rfl⟩
theorem e_X4_itemCalled_47 : Dc cX4_itemCalled 47 (.ireturn) 1 48 := ⟨by decide +kernel, rfl⟩
set_option maxHeartbeats 4000000 in
set_option maxRecDepth 20000 in
theorem R_X4_itemCalled (hD : DD E) (s : Sg) : ∀ v τ, (f_X4_itemCalled s) = some (v, τ) → RI l E 5 M_X4_itemCalled [.ref (ead E 49)] s v τ := by
  refine ofI hD (by decide +kernel) (Nat.le_of_ble_eq_true rfl) (fun X C => ?_)
  show MF l E X (fun q : Int32 × Sg => QI E X q.1 q.2) (f_X4_itemCalled s) s 0 [(0, .ref (ead E 49))] []
  unfold f_X4_itemCalled
  refine MF.aload_n C e_X4_itemCalled_0 0 rfl rfl ?_
  refine MF.ldcS (t := 0) C (by decide) rfl e_X4_itemCalled_1 ?_
  refine MF.callVI (As := [.ref (esK E 0)]) C (R_X4_isWord hD 0 (by decide) s) m_X4_isWord k_X4_71 kO_49 rfl (by decide) e_X4_itemCalled_3 rfl rfl (Nat.le_of_ble_eq_true rfl) (fun v1 s2 => ?_)
  refine MF.if_eq (tgt := 11) C e_X4_itemCalled_6 (by decide) (fun _ => ?_) (fun _ => ?_)
  · refine MF.aload_n C e_X4_itemCalled_11 0 rfl rfl ?_
    refine MF.ldcS (t := 1) C (by decide) rfl e_X4_itemCalled_12 ?_
    refine MF.callVI (As := [.ref (esK E 1)]) C (R_X4_isWord hD 1 (by decide) s2) m_X4_isWord k_X4_71 kO_49 rfl (by decide) e_X4_itemCalled_14 rfl rfl (Nat.le_of_ble_eq_true rfl) (fun v3 s4 => ?_)
    refine MF.if_eq (tgt := 22) C e_X4_itemCalled_17 (by decide) (fun _ => ?_) (fun _ => ?_)
    · refine MF.aload_n C e_X4_itemCalled_22 0 rfl rfl ?_
      refine MF.ldcS (t := 2) C (by decide) rfl e_X4_itemCalled_23 ?_
      refine MF.callVI (As := [.ref (esK E 2)]) C (R_X4_isWord hD 2 (by decide) s4) m_X4_isWord k_X4_71 kO_49 rfl (by decide) e_X4_itemCalled_25 rfl rfl (Nat.le_of_ble_eq_true rfl) (fun v5 s6 => ?_)
      refine MF.if_eq (tgt := 33) C e_X4_itemCalled_28 (by decide) (fun _ => ?_) (fun _ => ?_)
      · refine MF.aload_n C e_X4_itemCalled_33 0 rfl rfl ?_
        refine MF.ldcS (t := 3) C (by decide) rfl e_X4_itemCalled_34 ?_
        refine MF.callVI (As := [.ref (esK E 3)]) C (R_X4_isWord hD 3 (by decide) s6) m_X4_isWord k_X4_71 kO_49 rfl (by decide) e_X4_itemCalled_36 rfl rfl (Nat.le_of_ble_eq_true rfl) (fun v7 s8 => ?_)
        refine MF.if_eq (tgt := 46) C e_X4_itemCalled_39 (by decide) (fun _ => ?_) (fun _ => ?_)
        · refine MF.iconst (v := (-1 : Int32)) C e_X4_itemCalled_46 rfl ?_
          exact MF.iret C e_X4_itemCalled_47
        · refine MF.iconst (v := (nI 3)) C e_X4_itemCalled_42 rfl ?_
          refine MF.goto (tgt := 47) C e_X4_itemCalled_43 (by decide) ?_
          exact MF.iret C e_X4_itemCalled_47
      · refine MF.iconst (v := (nI 2)) C e_X4_itemCalled_31 rfl ?_
        exact MF.iret C e_X4_itemCalled_32
    · refine MF.iconst (v := (nI 1)) C e_X4_itemCalled_20 rfl ?_
      exact MF.iret C e_X4_itemCalled_21
  · refine MF.iconst (v := (nI 0)) C e_X4_itemCalled_9 rfl ?_
    exact MF.iret C e_X4_itemCalled_10
theorem e_X5_hasNoRoomFor_0 : Dc cX5_hasNoRoomFor 0 (.iload_n 1) 1 1 := ⟨by decide +kernel, rfl⟩
theorem e_X5_hasNoRoomFor_1 : Dc cX5_hasNoRoomFor 1 (.iconst 1) 1 2 := ⟨by decide +kernel, rfl⟩
theorem e_X5_hasNoRoomFor_2 : Dc cX5_hasNoRoomFor 2 (.if_icmp .ne 13) 3 5 := ⟨by decide +kernel, rfl⟩
theorem e_X5_hasNoRoomFor_5 : Dc cX5_hasNoRoomFor 5 (.aload_n 0) 1 6 := ⟨by decide +kernel, rfl⟩
theorem e_X5_hasNoRoomFor_6 : Dc cX5_hasNoRoomFor 6 (.getfield 16) 3 9 := ⟨by decide +kernel, rfl⟩
theorem e_X5_hasNoRoomFor_9 : Dc cX5_hasNoRoomFor 9 (.invokevirtual 57) 3 12 := ⟨by decide +kernel, rfl⟩
theorem e_X5_hasNoRoomFor_12 : Dc cX5_hasNoRoomFor 12 (.ifCond .ne 18) 3 15 := ⟨by decide +kernel, rfl⟩
theorem e_X5_hasNoRoomFor_15 : Dc cX5_hasNoRoomFor 15 (.iload_n 1) 1 16 := ⟨by decide +kernel, rfl⟩
theorem e_X5_hasNoRoomFor_16 : Dc cX5_hasNoRoomFor 16 (.iconst 2) 1 17 := ⟨by decide +kernel, rfl⟩
theorem e_X5_hasNoRoomFor_17 : Dc cX5_hasNoRoomFor 17 (.if_icmp .ne 17) 3 20 := ⟨by decide +kernel, rfl⟩
theorem e_X5_hasNoRoomFor_20 : Dc cX5_hasNoRoomFor 20 (.aload_n 0) 1 21 := ⟨by decide +kernel, rfl⟩
theorem e_X5_hasNoRoomFor_21 : Dc cX5_hasNoRoomFor 21 (.getfield 20) 3 24 := ⟨by decide +kernel, rfl⟩
theorem e_X5_hasNoRoomFor_24 : Dc cX5_hasNoRoomFor 24 (.invokevirtual 57) 3 27 := ⟨by decide +kernel, rfl⟩
theorem e_X5_hasNoRoomFor_27 : Dc cX5_hasNoRoomFor 27 (.ifCond .eq 7) 3 30 := ⟨by decide +kernel, rfl⟩
theorem e_X5_hasNoRoomFor_30 : Dc cX5_hasNoRoomFor 30 (.iconst 1) 1 31 := ⟨by decide +kernel, rfl⟩
theorem e_X5_hasNoRoomFor_31 : Dc cX5_hasNoRoomFor 31 (.goto 4) 3 34 := ⟨by decide +kernel, rfl⟩
theorem e_X5_hasNoRoomFor_34 : Dc cX5_hasNoRoomFor 34 (.iconst 0) 1 35 := ⟨by decide +kernel, rfl⟩
theorem e_X5_hasNoRoomFor_35 : Dc cX5_hasNoRoomFor 35 (.ireturn) 1 36 := ⟨by decide +kernel, rfl⟩
set_option maxHeartbeats 4000000 in
set_option maxRecDepth 20000 in
theorem R_X5_hasNoRoomFor (hD : DD E) (t : Nat) (x1 : Int32) (ht : iTo t) (s : Sg) : ∀ v, (f_X5_hasNoRoomFor t x1 s) = some v → RI l E 1 M_X5_hasNoRoomFor [.ref (ead E t), .int x1] s v s := by
  refine ofP hD (by decide +kernel) (Nat.le_of_ble_eq_true rfl) (fun X C => ?_)
  show MF l E X (fun q : Int32 => QI E X q s) (f_X5_hasNoRoomFor t x1 s) s 0 [(0, .ref (ead E t)), (1, .int x1)] []
  unfold f_X5_hasNoRoomFor
  refine MF.iload_n C e_X5_hasNoRoomFor_0 1 rfl rfl ?_
  refine MF.iconst (v := (nI 1)) C e_X5_hasNoRoomFor_1 rfl ?_
  refine MF.join (fun j : Unit → Option Int32 => ∀ (_u : Unit), MF l E X (fun q : Int32 => QI E X q s) (j _u) s 15 [(0, .ref (ead E t)), (1, .int x1)] []) ?_ (fun j1 hj1 => ?_)
  · intro _
    refine MF.iload_n C e_X5_hasNoRoomFor_15 1 rfl rfl ?_
    refine MF.iconst (v := (nI 2)) C e_X5_hasNoRoomFor_16 rfl ?_
    refine MF.icmp_ne (tgt := 34) C e_X5_hasNoRoomFor_17 (by decide) (fun _ => ?_) (fun _ => ?_)
    · refine MF.iconst (v := (nI 0)) C e_X5_hasNoRoomFor_34 rfl ?_
      exact MF.nretp C e_X5_hasNoRoomFor_35 rfl
    · refine MF.aload_n C e_X5_hasNoRoomFor_20 0 rfl rfl ?_
      refine MF.getR (j := (t + 3)) C cf_X5 l_X5_20 e_X5_hasNoRoomFor_21 (iTo.f1 ht) ?_
      refine MF.callVP (As := []) C (R_X2_isFull hD (t + 3) (iTo.o1 ht) s) m_X2_isFull k_X5_57 (iRo.o (iTo.o1 ht)) rfl (by decide) e_X5_hasNoRoomFor_24 rfl rfl (Nat.le_of_ble_eq_true rfl) (fun v2 => ?_)
      refine MF.if_eq (tgt := 34) C e_X5_hasNoRoomFor_27 (by decide) (fun _ => ?_) (fun _ => ?_)
      · refine MF.iconst (v := (nI 0)) C e_X5_hasNoRoomFor_34 rfl ?_
        exact MF.nretp C e_X5_hasNoRoomFor_35 rfl
      · refine MF.iconst (v := (nI 1)) C e_X5_hasNoRoomFor_30 rfl ?_
        refine MF.goto (tgt := 35) C e_X5_hasNoRoomFor_31 (by decide) ?_
        exact MF.nretp C e_X5_hasNoRoomFor_35 rfl
  refine MF.icmp_ne (tgt := 15) C e_X5_hasNoRoomFor_2 (by decide) (fun _ => ?_) (fun _ => ?_)
  · exact hj1 ()
  · refine MF.aload_n C e_X5_hasNoRoomFor_5 0 rfl rfl ?_
    refine MF.getR (j := (t + 1)) C cf_X5 l_X5_16 e_X5_hasNoRoomFor_6 (iTo.f0 ht) ?_
    refine MF.callVP (As := []) C (R_X2_isFull hD (t + 1) (iTo.o0 ht) s) m_X2_isFull k_X5_57 (iRo.o (iTo.o0 ht)) rfl (by decide) e_X5_hasNoRoomFor_9 rfl rfl (Nat.le_of_ble_eq_true rfl) (fun v3 => ?_)
    refine MF.if_ne (tgt := 30) C e_X5_hasNoRoomFor_12 (by decide) (fun _ => ?_) (fun _ => ?_)
    · refine MF.iconst (v := (nI 1)) C e_X5_hasNoRoomFor_30 rfl ?_
      refine MF.goto (tgt := 35) C e_X5_hasNoRoomFor_31 (by decide) ?_
      exact MF.nretp C e_X5_hasNoRoomFor_35 rfl
    · exact hj1 ()
theorem e_X4_value_0 : Dc cX4_value 0 (.iconst 0) 1 1 := ⟨by decide +kernel, rfl⟩
theorem e_X4_value_1 : Dc cX4_value 1 (.istore_n 1) 1 2 := ⟨by decide +kernel, rfl⟩
theorem e_X4_value_2 : Dc cX4_value 2 (.aload_n 0) 1 3 := ⟨by decide +kernel, rfl⟩
theorem e_X4_value_3 : Dc cX4_value 3 (.getfield 28) 3 6 := ⟨by decide +kernel, rfl⟩
theorem e_X4_value_6 : Dc cX4_value 6 (.istore_n 2) 1 7 := ⟨by decide +kernel, rfl⟩
theorem e_X4_value_7 : Dc cX4_value 7 (.iload_n 2) 1 8 := ⟨by decide +kernel, rfl⟩
theorem e_X4_value_8 : Dc cX4_value 8 (.aload_n 0) 1 9 := ⟨by decide +kernel, rfl⟩
theorem e_X4_value_9 : Dc cX4_value 9 (.getfield 22) 3 12 := ⟨by decide +kernel, rfl⟩
theorem e_X4_value_12 : Dc cX4_value 12 (.if_icmp .ge 23) 3 15 := ⟨by decide +kernel, rfl⟩
theorem e_X4_value_15 : Dc cX4_value 15 (.bipush 10) 2 17 := ⟨by decide +kernel, rfl⟩
theorem e_X4_value_17 : Dc cX4_value 17 (.iload_n 1) 1 18 := ⟨by decide +kernel, rfl⟩
theorem e_X4_value_18 : Dc cX4_value 18 (.imul) 1 19 := ⟨by decide +kernel, rfl⟩
theorem e_X4_value_19 : Dc cX4_value 19 (.aload_n 0) 1 20 := ⟨by decide +kernel, rfl⟩
theorem e_X4_value_20 : Dc cX4_value 20 (.iload_n 2) 1 21 := ⟨by decide +kernel, rfl⟩
theorem e_X4_value_21 : Dc cX4_value 21 (.invokevirtual 86) 3 24 := ⟨by decide +kernel, rfl⟩
theorem e_X4_value_24 : Dc cX4_value 24 (.iadd) 1 25 := ⟨by decide +kernel, rfl⟩
theorem e_X4_value_25 : Dc cX4_value 25 (.bipush 48) 2 27 := ⟨by decide +kernel, rfl⟩
theorem e_X4_value_27 : Dc cX4_value 27 (.isub) 1 28 := ⟨by decide +kernel, rfl⟩
theorem e_X4_value_28 : Dc cX4_value 28 (.istore_n 1) 1 29 := ⟨by decide +kernel, rfl⟩
theorem e_X4_value_29 : Dc cX4_value 29 (.iinc 2 1) 3 32 := ⟨by decide +kernel, rfl⟩
theorem e_X4_value_32 : Dc cX4_value 32 (.goto (-25)) 3 35 := ⟨by decide +kernel, rfl⟩
theorem e_X4_value_35 : Dc cX4_value 35 (.iload_n 1) 1 36 := ⟨by decide +kernel, rfl⟩
theorem e_X4_value_36 : Dc cX4_value 36 (.ireturn) 1 37 := ⟨by decide +kernel, rfl⟩
set_option maxHeartbeats 4000000 in
set_option maxRecDepth 20000 in
theorem R_X4_value (hD : DD E) (s : Sg) : ∀ v, (f_X4_value s) = some v → RI l E 2 M_X4_value [.ref (ead E 49)] s v s := by
  refine ofP hD (by decide +kernel) (Nat.le_of_ble_eq_true rfl) (fun X C => ?_)
  show MF l E X (fun q : Int32 => QI E X q s) (f_X4_value s) s 0 [(0, .ref (ead E 49))] []
  unfold f_X4_value
  refine MF.iconst (v := (nI 0)) C e_X4_value_0 rfl ?_
  refine MF.istore_n (lv' := [(0, .ref (ead E 49)), (1, .int (nI 0))]) C e_X4_value_1 (by decide) rfl ?_
  refine MF.aload_n C e_X4_value_2 0 rfl rfl ?_
  refine MF.get C cf_X4 l_X4_28 e_X4_value_3 kF_49_5 ?_
  refine MF.nmI (fun v1 => ?_)
  refine MF.istore_n (lv' := [(0, .ref (ead E 49)), (1, .int (nI 0)), (2, .int v1)]) C e_X4_value_6 (by decide) rfl ?_
  refine MF.loop2 (fun i2 i3 => s) (fun i2 i3 => [(0, .ref (ead E 49)), (1, .int i2), (2, .int i3)]) (fun self4 hself4 i2 i3 => ?_) fu (nI 0) v1
  unfold b_X4_value_7
  refine MF.iload_n C e_X4_value_7 2 rfl rfl ?_
  refine MF.aload_n C e_X4_value_8 0 rfl rfl ?_
  refine MF.get C cf_X4 l_X4_22 e_X4_value_9 kF_49_3 ?_
  refine MF.icmp_ge (tgt := 35) C e_X4_value_12 (by decide) (fun _ => ?_) (fun _ => ?_)
  · refine MF.iload_n C e_X4_value_35 1 rfl rfl ?_
    exact MF.iretp C e_X4_value_36
  · refine MF.bipush (v := (nI 10)) C e_X4_value_15 (by decide) ?_
    refine MF.iload_n C e_X4_value_17 1 rfl rfl ?_
    refine MF.imul C e_X4_value_18 ?_
    refine MF.aload_n C e_X4_value_19 0 rfl rfl ?_
    refine MF.iload_n C e_X4_value_20 2 rfl rfl ?_
    refine MF.callVP (As := [.int i3]) C (R_X4_byteAt hD i3 s) m_X4_byteAt k_X4_86 kO_49 rfl (by decide) e_X4_value_21 rfl rfl (Nat.le_of_ble_eq_true rfl) (fun v5 => ?_)
    refine MF.iadd C e_X4_value_24 ?_
    refine MF.bipush (v := (nI 48)) C e_X4_value_25 (by decide) ?_
    refine MF.isub C e_X4_value_27 ?_
    refine MF.nmI (fun v6 => ?_)
    refine MF.istore_n (lv' := [(0, .ref (ead E 49)), (1, .int v6), (2, .int i3)]) C e_X4_value_28 (by decide) rfl ?_
    refine MF.iinc (v := (nI 1)) (lv' := [(0, .ref (ead E 49)), (1, .int v6), (2, .int (i3 + (nI 1)))]) C e_X4_value_29 2 rfl rfl (by decide) rfl ?_
    refine MF.goto (tgt := 7) C e_X4_value_32 (by decide) ?_
    exact hself4 v6 (i3 + (nI 1))
theorem e_X5_fits_0 : Dc cX5_fits 0 (.iload_n 1) 1 1 := ⟨by decide +kernel, rfl⟩
theorem e_X5_fits_1 : Dc cX5_fits 1 (.getstatic 43) 3 4 := ⟨by decide +kernel, rfl⟩
theorem e_X5_fits_4 : Dc cX5_fits 4 (.arraylength) 1 5 := ⟨by decide +kernel, rfl⟩
theorem e_X5_fits_5 : Dc cX5_fits 5 (.invokestatic 46) 3 8 := ⟨by decide +kernel, rfl⟩
theorem e_X5_fits_8 : Dc cX5_fits 8 (.ifCond .eq 15) 3 11 := ⟨by decide +kernel, rfl⟩
theorem e_X5_fits_11 : Dc cX5_fits 11 (.iload_n 2) 1 12 := ⟨by decide +kernel, rfl⟩
theorem e_X5_fits_12 : Dc cX5_fits 12 (.getstatic 43) 3 15 := ⟨by decide +kernel, rfl⟩
theorem e_X5_fits_15 : Dc cX5_fits 15 (.iload_n 1) 1 16 := ⟨by decide +kernel, rfl⟩
theorem e_X5_fits_16 : Dc cX5_fits 16 (.iaload) 1 17 := ⟨by decide +kernel, rfl⟩
theorem e_X5_fits_17 : Dc cX5_fits 17 (.invokestatic 46) 3 20 := ⟨by decide +kernel, rfl⟩
theorem e_X5_fits_20 : Dc cX5_fits 20 (.ifCond .ne 5) 3 23 := ⟨by decide +kernel, rfl⟩
theorem e_X5_fits_23 : Dc cX5_fits 23 (.iconst 0) 1 24 := ⟨by decide +kernel, rfl⟩
theorem e_X5_fits_24 : Dc cX5_fits 24 (.ireturn) 1 25 := ⟨by decide +kernel, rfl⟩
theorem e_X5_fits_25 : Dc cX5_fits 25 (.aload_n 3) 1 26 := ⟨by decide +kernel, rfl⟩
theorem e_X5_fits_26 : Dc cX5_fits 26 (.iload_n 2) 1 27 := ⟨by decide +kernel, rfl⟩
theorem e_X5_fits_27 : Dc cX5_fits 27 (.iaload) 1 28 := ⟨by decide +kernel, rfl⟩
theorem e_X5_fits_28 : Dc cX5_fits 28 (.istore 4) 2 30 := ⟨by decide +kernel, rfl⟩
theorem e_X5_fits_30 : Dc cX5_fits 30 (.iload_n 1) 1 31 := ⟨by decide +kernel, rfl⟩
theorem e_X5_fits_31 : Dc cX5_fits 31 (.iconst 1) 1 32 := ⟨by decide +kernel, rfl⟩
theorem e_X5_fits_32 : Dc cX5_fits 32 (.if_icmp .ne 18) 3 35 := ⟨by decide +kernel, rfl⟩
theorem e_X5_fits_35 : Dc cX5_fits 35 (.iload_n 2) 1 36 := ⟨by decide +kernel, rfl⟩
theorem e_X5_fits_36 : Dc cX5_fits 36 (.iconst 1) 1 37 := ⟨by decide +kernel, rfl⟩
theorem e_X5_fits_37 : Dc cX5_fits 37 (.if_icmp .ne 13) 3 40 := ⟨by decide +kernel, rfl⟩
theorem e_X5_fits_40 : Dc cX5_fits 40 (.iload 4) 2 42 := ⟨by decide +kernel, rfl⟩
theorem e_X5_fits_42 : Dc cX5_fits 42 (.aload_n 3) 1 43 := ⟨by decide +kernel, rfl⟩
theorem e_X5_fits_43 : Dc cX5_fits 43 (.iconst 0) 1 44 := ⟨by decide +kernel, rfl⟩
theorem e_X5_fits_44 : Dc cX5_fits 44 (.iaload) 1 45 := ⟨by decide +kernel, rfl⟩
theorem e_X5_fits_45 : Dc cX5_fits 45 (.if_icmp .ne 5) 3 48 := ⟨by decide +kernel, rfl⟩
theorem e_X5_fits_48 : Dc cX5_fits 48 (.iconst 0) 1 49 := ⟨by decide +kernel, rfl⟩
theorem e_X5_fits_49 : Dc cX5_fits 49 (.ireturn) 1 50 := ⟨by decide +kernel, rfl⟩
theorem e_X5_fits_50 : Dc cX5_fits 50 (.iload_n 1) 1 51 := ⟨by decide +kernel, rfl⟩
theorem e_X5_fits_51 : Dc cX5_fits 51 (.iconst 1) 1 52 := ⟨by decide +kernel, rfl⟩
theorem e_X5_fits_52 : Dc cX5_fits 52 (.if_icmp .ne 16) 3 55 := ⟨by decide +kernel, rfl⟩
theorem e_X5_fits_55 : Dc cX5_fits 55 (.iload_n 2) 1 56 := ⟨by decide +kernel, rfl⟩
theorem e_X5_fits_56 : Dc cX5_fits 56 (.iconst 2) 1 57 := ⟨by decide +kernel, rfl⟩
theorem e_X5_fits_57 : Dc cX5_fits 57 (.if_icmp .ne 11) 3 60 := ⟨by decide +kernel, rfl⟩
theorem e_X5_fits_60 : Dc cX5_fits 60 (.iload 4) 2 62 := ⟨by decide +kernel, rfl⟩
theorem e_X5_fits_62 : Dc cX5_fits 62 (.iconst 1) 1 63 := ⟨by decide +kernel, rfl⟩
theorem e_X5_fits_63 : Dc cX5_fits 63 (.if_icmp .ge 5) 3 66 := ⟨by decide +kernel, rfl⟩
theorem e_X5_fits_66 : Dc cX5_fits 66 (.iconst 0) 1 67 := ⟨by decide +kernel, rfl⟩
theorem e_X5_fits_67 : Dc cX5_fits 67 (.ireturn) 1 68 := ⟨by decide +kernel, rfl⟩
theorem e_X5_fits_68 : Dc cX5_fits 68 (.iload_n 1) 1 69 := ⟨by decide +kernel, rfl⟩
theorem e_X5_fits_69 : Dc cX5_fits 69 (.iconst 2) 1 70 := ⟨by decide +kernel, rfl⟩
theorem e_X5_fits_70 : Dc cX5_fits 70 (.if_icmp .ne 21) 3 73 := ⟨by decide +kernel, rfl⟩
theorem e_X5_fits_73 : Dc cX5_fits 73 (.iload_n 2) 1 74 := ⟨by decide +kernel, rfl⟩
theorem e_X5_fits_74 : Dc cX5_fits 74 (.iconst 1) 1 75 := ⟨by decide +kernel, rfl⟩
theorem e_X5_fits_75 : Dc cX5_fits 75 (.if_icmp .ne 16) 3 78 := ⟨by decide +kernel, rfl⟩
theorem e_X5_fits_78 : Dc cX5_fits 78 (.iload 4) 2 80 := ⟨by decide +kernel, rfl⟩
theorem e_X5_fits_80 : Dc cX5_fits 80 (.aload_n 0) 1 81 := ⟨by decide +kernel, rfl⟩
theorem e_X5_fits_81 : Dc cX5_fits 81 (.getfield 16) 3 84 := ⟨by decide +kernel, rfl⟩
theorem e_X5_fits_84 : Dc cX5_fits 84 (.invokevirtual 50) 3 87 := ⟨by decide +kernel, rfl⟩
theorem e_X5_fits_87 : Dc cX5_fits 87 (.invokestatic 46) 3 90 := ⟨by decide +kernel, rfl⟩
theorem e_X5_fits_90 : Dc cX5_fits 90 (.ireturn) 1 91 := ⟨by decide +kernel, rfl⟩
theorem e_X5_fits_91 : Dc cX5_fits 91 (.iload 4) 2 93 := ⟨by decide +kernel, rfl⟩
theorem e_X5_fits_93 : Dc cX5_fits 93 (.getstatic 54) 3 96 := ⟨by decide +kernel, rfl⟩
theorem e_X5_fits_96 : Dc cX5_fits 96 (.iload_n 1) 1 97 := ⟨by decide +kernel, rfl⟩
theorem e_X5_fits_97 : Dc cX5_fits 97 (.bipush 6) 2 99 := ⟨by decide +kernel, rfl⟩
theorem e_X5_fits_99 : Dc cX5_fits 99 (.imul) 1 100 := ⟨by decide +kernel, rfl⟩
theorem e_X5_fits_100 : Dc cX5_fits 100 (.iload_n 2) 1 101 := ⟨by decide +kernel, rfl⟩
theorem e_X5_fits_101 : Dc cX5_fits 101 (.iadd) 1 102 := ⟨by decide +kernel, rfl⟩
theorem e_X5_fits_102 : Dc cX5_fits 102 (.iaload) 1 103 := ⟨by decide +kernel, rfl⟩
theorem e_X5_fits_103 : Dc cX5_fits 103 (.invokestatic 46) 3 106 := ⟨by decide +kernel, rfl⟩
theorem e_X5_fits_106 : Dc cX5_fits 106 (.ireturn) 1 107 := ⟨by decide +kernel, rfl⟩
set_option maxHeartbeats 4000000 in
set_option maxRecDepth 20000 in
theorem R_X5_fits (hD : DD E) (t : Nat) (x1 : Int32) (x2 : Int32) (c3 : Nat) (ht : iTo t) (hc3 : iA c3) (s : Sg) : ∀ v, (f_X5_fits t x1 x2 c3 s) = some v → RI l E 1 M_X5_fits [.ref (ead E t), .int x1, .int x2, .ref (ead E c3)] s v s := by
  refine ofP hD (by decide +kernel) (Nat.le_of_ble_eq_true rfl) (fun X C => ?_)
  show MF l E X (fun q : Int32 => QI E X q s) (f_X5_fits t x1 x2 c3 s) s 0 [(0, .ref (ead E t)), (1, .int x1), (2, .int x2), (3, .ref (ead E c3))] []
  unfold f_X5_fits
  refine MF.iload_n C e_X5_fits_0 1 rfl rfl ?_
  refine MF.getTN (t := 0) C (by decide) l_X5_43 e_X5_fits_1 ?_
  refine MF.tlen (n := (nI 4)) C (by decide) rfl e_X5_fits_4 ?_
  refine MF.callSNP (As := [.int x1, .int (nI 4)]) C (R_X7_isBelow hD x1 (nI 4) s) m_X7_isBelow k_X5_46 (by decide) e_X5_fits_5 rfl rfl (Nat.le_of_ble_eq_true rfl) (fun v1 => ?_)
  refine MF.if_eq (tgt := 23) C e_X5_fits_8 (by decide) (fun _ => ?_) (fun _ => ?_)
  · refine MF.iconst (v := (nI 0)) C e_X5_fits_23 rfl ?_
    exact MF.nretp C e_X5_fits_24 rfl
  · refine MF.iload_n C e_X5_fits_11 2 rfl rfl ?_
    refine MF.getTN (t := 0) C (by decide) l_X5_43 e_X5_fits_12 ?_
    refine MF.iload_n C e_X5_fits_15 1 rfl rfl ?_
    refine MF.tald C (by decide) e_X5_fits_16 (fun v2 => ?_)
    refine MF.callSNP (As := [.int x2, .int v2]) C (R_X7_isBelow hD x2 v2 s) m_X7_isBelow k_X5_46 (by decide) e_X5_fits_17 rfl rfl (Nat.le_of_ble_eq_true rfl) (fun v3 => ?_)
    refine MF.if_ne (tgt := 25) C e_X5_fits_20 (by decide) (fun _ => ?_) (fun _ => ?_)
    · refine MF.aload_n C e_X5_fits_25 3 rfl rfl ?_
      refine MF.iload_n C e_X5_fits_26 2 rfl rfl ?_
      refine MF.iald C e_X5_fits_27 hc3 (fun v4 => ?_)
      refine MF.istore (lv' := [(0, .ref (ead E t)), (1, .int x1), (2, .int x2), (3, .ref (ead E c3)), (4, .int v4)]) C e_X5_fits_28 (by decide) rfl ?_
      refine MF.iload_n C e_X5_fits_30 1 rfl rfl ?_
      refine MF.iconst (v := (nI 1)) C e_X5_fits_31 rfl ?_
      refine MF.join (fun j : Unit → Option Int32 => ∀ (_u : Unit), MF l E X (fun q : Int32 => QI E X q s) (j _u) s 50 [(0, .ref (ead E t)), (1, .int x1), (2, .int x2), (4, .int v4)] []) ?_ (fun j5 hj5 => ?_)
      · intro _
        refine MF.iload_n C e_X5_fits_50 1 rfl rfl ?_
        refine MF.iconst (v := (nI 1)) C e_X5_fits_51 rfl ?_
        refine MF.join (fun j : Unit → Option Int32 => ∀ (_u : Unit), MF l E X (fun q : Int32 => QI E X q s) (j _u) s 68 [(0, .ref (ead E t)), (1, .int x1), (2, .int x2), (4, .int v4)] []) ?_ (fun j6 hj6 => ?_)
        · intro _
          refine MF.iload_n C e_X5_fits_68 1 rfl rfl ?_
          refine MF.iconst (v := (nI 2)) C e_X5_fits_69 rfl ?_
          refine MF.join (fun j : Unit → Option Int32 => ∀ (_u : Unit), MF l E X (fun q : Int32 => QI E X q s) (j _u) s 91 [(1, .int x1), (2, .int x2), (4, .int v4)] []) ?_ (fun j7 hj7 => ?_)
          · intro _
            refine MF.iload C e_X5_fits_91 2 rfl ?_
            refine MF.getTN (t := 1) C (by decide) l_X5_54 e_X5_fits_93 ?_
            refine MF.iload_n C e_X5_fits_96 0 rfl rfl ?_
            refine MF.bipush (v := (nI 6)) C e_X5_fits_97 (by decide) ?_
            refine MF.imul C e_X5_fits_99 ?_
            refine MF.iload_n C e_X5_fits_100 1 rfl rfl ?_
            refine MF.iadd C e_X5_fits_101 ?_
            refine MF.tald C (by decide) e_X5_fits_102 (fun v8 => ?_)
            refine MF.callSNP (As := [.int v4, .int v8]) C (R_X7_isBelow hD v4 v8 s) m_X7_isBelow k_X5_46 (by decide) e_X5_fits_103 rfl rfl (Nat.le_of_ble_eq_true rfl) (fun v9 => ?_)
            exact MF.nretp C e_X5_fits_106 rfl
          refine MF.icmp_ne (tgt := 91) C e_X5_fits_70 (by decide) (fun _ => ?_) (fun _ => ?_)
          · refine MF.sub [1, 2, 3] rfl ?_
            exact hj7 ()
          · refine MF.iload_n C e_X5_fits_73 2 rfl rfl ?_
            refine MF.iconst (v := (nI 1)) C e_X5_fits_74 rfl ?_
            refine MF.icmp_ne (tgt := 91) C e_X5_fits_75 (by decide) (fun _ => ?_) (fun _ => ?_)
            · refine MF.sub [1, 2, 3] rfl ?_
              exact hj7 ()
            · refine MF.iload C e_X5_fits_78 3 rfl ?_
              refine MF.aload_n C e_X5_fits_80 0 rfl rfl ?_
              refine MF.getR (j := (t + 1)) C cf_X5 l_X5_16 e_X5_fits_81 (iTo.f0 ht) ?_
              refine MF.callVP (As := []) C (R_X2_size hD (t + 1) (iTo.o0 ht) s) m_X2_size k_X5_50 (iRo.o (iTo.o0 ht)) rfl (by decide) e_X5_fits_84 rfl rfl (Nat.le_of_ble_eq_true rfl) (fun v10 => ?_)
              refine MF.callSNP (As := [.int v4, .int v10]) C (R_X7_isBelow hD v4 v10 s) m_X7_isBelow k_X5_46 (by decide) e_X5_fits_87 rfl rfl (Nat.le_of_ble_eq_true rfl) (fun v11 => ?_)
              exact MF.nretp C e_X5_fits_90 rfl
        refine MF.icmp_ne (tgt := 68) C e_X5_fits_52 (by decide) (fun _ => ?_) (fun _ => ?_)
        · exact hj6 ()
        · refine MF.iload_n C e_X5_fits_55 2 rfl rfl ?_
          refine MF.iconst (v := (nI 2)) C e_X5_fits_56 rfl ?_
          refine MF.icmp_ne (tgt := 68) C e_X5_fits_57 (by decide) (fun _ => ?_) (fun _ => ?_)
          · exact hj6 ()
          · refine MF.iload C e_X5_fits_60 3 rfl ?_
            refine MF.iconst (v := (nI 1)) C e_X5_fits_62 rfl ?_
            refine MF.icmp_ge (tgt := 68) C e_X5_fits_63 (by decide) (fun _ => ?_) (fun _ => ?_)
            · exact hj6 ()
            · refine MF.iconst (v := (nI 0)) C e_X5_fits_66 rfl ?_
              exact MF.nretp C e_X5_fits_67 rfl
      refine MF.icmp_ne (tgt := 50) C e_X5_fits_32 (by decide) (fun _ => ?_) (fun _ => ?_)
      · refine MF.sub [0, 1, 2, 4] rfl ?_
        exact hj5 ()
      · refine MF.iload_n C e_X5_fits_35 2 rfl rfl ?_
        refine MF.iconst (v := (nI 1)) C e_X5_fits_36 rfl ?_
        refine MF.icmp_ne (tgt := 50) C e_X5_fits_37 (by decide) (fun _ => ?_) (fun _ => ?_)
        · refine MF.sub [0, 1, 2, 4] rfl ?_
          exact hj5 ()
        · refine MF.iload C e_X5_fits_40 4 rfl ?_
          refine MF.aload_n C e_X5_fits_42 3 rfl rfl ?_
          refine MF.iconst (v := (nI 0)) C e_X5_fits_43 rfl ?_
          refine MF.iald C e_X5_fits_44 hc3 (fun v12 => ?_)
          refine MF.icmp_ne (tgt := 50) C e_X5_fits_45 (by decide) (fun _ => ?_) (fun _ => ?_)
          · refine MF.sub [0, 1, 2, 4] rfl ?_
            exact hj5 ()
          · refine MF.iconst (v := (nI 0)) C e_X5_fits_48 rfl ?_
            exact MF.nretp C e_X5_fits_49 rfl
    · refine MF.iconst (v := (nI 0)) C e_X5_fits_23 rfl ?_
      exact MF.nretp C e_X5_fits_24 rfl
theorem e_X5_begin_0 : Dc cX5_begin 0 (.aload_n 0) 1 1 := ⟨by decide +kernel, rfl⟩
theorem e_X5_begin_1 : Dc cX5_begin 1 (.getfield 16) 3 4 := ⟨by decide +kernel, rfl⟩
theorem e_X5_begin_4 : Dc cX5_begin 4 (.invokevirtual 50) 3 7 := ⟨by decide +kernel, rfl⟩
theorem e_X5_begin_7 : Dc cX5_begin 7 (.istore_n 2) 1 8 := ⟨by decide +kernel, rfl⟩
theorem e_X5_begin_8 : Dc cX5_begin 8 (.aload_n 0) 1 9 := ⟨by decide +kernel, rfl⟩
theorem e_X5_begin_9 : Dc cX5_begin 9 (.getfield 16) 3 12 := ⟨by decide +kernel, rfl⟩
theorem e_X5_begin_12 : Dc cX5_begin 12 (.invokevirtual 65) 3 15 := ⟨by decide +kernel, rfl⟩
theorem e_X5_begin_15 : Dc cX5_begin 15 (.aload_n 0) 1 16 := ⟨by decide +kernel, rfl⟩
theorem e_X5_begin_16 : Dc cX5_begin 16 (.getfield 20) 3 19 := ⟨by decide +kernel, rfl⟩
theorem e_X5_begin_19 : Dc cX5_begin 19 (.invokevirtual 65) 3 22 := ⟨by decide +kernel, rfl⟩
theorem e_X5_begin_22 : Dc cX5_begin 22 (.aload_n 0) 1 23 := ⟨by decide +kernel, rfl⟩
theorem e_X5_begin_23 : Dc cX5_begin 23 (.getfield 23) 3 26 := ⟨by decide +kernel, rfl⟩
theorem e_X5_begin_26 : Dc cX5_begin 26 (.invokevirtual 65) 3 29 := ⟨by decide +kernel, rfl⟩
theorem e_X5_begin_29 : Dc cX5_begin 29 (.aload_n 0) 1 30 := ⟨by decide +kernel, rfl⟩
theorem e_X5_begin_30 : Dc cX5_begin 30 (.getfield 26) 3 33 := ⟨by decide +kernel, rfl⟩
theorem e_X5_begin_33 : Dc cX5_begin 33 (.invokevirtual 65) 3 36 := ⟨by decide +kernel, rfl⟩
theorem e_X5_begin_36 : Dc cX5_begin 36 (.iconst 0) 1 37 := ⟨by decide +kernel, rfl⟩
theorem e_X5_begin_37 : Dc cX5_begin 37 (.istore_n 3) 1 38 := ⟨by decide +kernel, rfl⟩
theorem e_X5_begin_38 : Dc cX5_begin 38 (.iload_n 3) 1 39 := ⟨by decide +kernel, rfl⟩
theorem e_X5_begin_39 : Dc cX5_begin 39 (.bipush 16) 2 41 := ⟨by decide +kernel, rfl⟩
theorem e_X5_begin_41 : Dc cX5_begin 41 (.if_icmp .ge 16) 3 44 := ⟨by decide +kernel, rfl⟩
theorem e_X5_begin_44 : Dc cX5_begin 44 (.aload_n 0) 1 45 := ⟨by decide +kernel, rfl⟩
theorem e_X5_begin_45 : Dc cX5_begin 45 (.getfield 29) 3 48 := ⟨by decide +kernel, rfl⟩
theorem e_X5_begin_48 : Dc cX5_begin 48 (.iload_n 3) 1 49 := ⟨by decide +kernel, rfl⟩
theorem e_X5_begin_49 : Dc cX5_begin 49 (.iconst 0) 1 50 := ⟨by decide +kernel, rfl⟩
theorem e_X5_begin_50 : Dc cX5_begin 50 (.iastore) 1 51 := ⟨by decide +kernel, rfl⟩
theorem e_X5_begin_51 : Dc cX5_begin 51 (.iinc 3 1) 3 54 := ⟨by decide +kernel, rfl⟩
theorem e_X5_begin_54 : Dc cX5_begin 54 (.goto (-16)) 3 57 := ⟨by decide +kernel, rfl⟩
theorem e_X5_begin_57 : Dc cX5_begin 57 (.aload_n 0) 1 58 := ⟨by decide +kernel, rfl⟩
theorem e_X5_begin_58 : Dc cX5_begin 58 (.iload_n 1) 1 59 := ⟨by decide +kernel, rfl⟩
theorem e_X5_begin_59 : Dc cX5_begin 59 (.putfield 39) 3 62 := ⟨by decide +kernel, rfl⟩
theorem e_X5_begin_62 : Dc cX5_begin 62 (.iload_n 2) 1 63 := ⟨by decide +kernel, rfl⟩
theorem e_X5_begin_63 : Dc cX5_begin 63 (.ireturn) 1 64 := ⟨by decide +kernel, rfl⟩
set_option maxHeartbeats 4000000 in
set_option maxRecDepth 20000 in
theorem R_X5_begin (hD : DD E) (t : Nat) (x1 : Int32) (ht : iTo t) (s : Sg) : ∀ v τ, (f_X5_begin t x1 s) = some (v, τ) → RI l E 1 M_X5_begin [.ref (ead E t), .int x1] s v τ := by
  refine ofI hD (by decide +kernel) (Nat.le_of_ble_eq_true rfl) (fun X C => ?_)
  show MF l E X (fun q : Int32 × Sg => QI E X q.1 q.2) (f_X5_begin t x1 s) s 0 [(0, .ref (ead E t)), (1, .int x1)] []
  unfold f_X5_begin
  refine MF.aload_n C e_X5_begin_0 0 rfl rfl ?_
  refine MF.getR (j := (t + 1)) C cf_X5 l_X5_16 e_X5_begin_1 (iTo.f0 ht) ?_
  refine MF.callVP (As := []) C (R_X2_size hD (t + 1) (iTo.o0 ht) s) m_X2_size k_X5_50 (iRo.o (iTo.o0 ht)) rfl (by decide) e_X5_begin_4 rfl rfl (Nat.le_of_ble_eq_true rfl) (fun v1 => ?_)
  refine MF.istore_n (lv' := [(0, .ref (ead E t)), (1, .int x1), (2, .int v1)]) C e_X5_begin_7 (by decide) rfl ?_
  refine MF.aload_n C e_X5_begin_8 0 rfl rfl ?_
  refine MF.getR (j := (t + 1)) C cf_X5 l_X5_16 e_X5_begin_9 (iTo.f0 ht) ?_
  refine MF.callVU (As := []) C (R_X2_empty hD (t + 1) (iTo.o0 ht) s) m_X2_empty k_X5_65 (iRo.o (iTo.o0 ht)) rfl (by decide) e_X5_begin_12 rfl rfl (Nat.le_of_ble_eq_true rfl) (fun s2 => ?_)
  refine MF.aload_n C e_X5_begin_15 0 rfl rfl ?_
  refine MF.getR (j := (t + 3)) C cf_X5 l_X5_20 e_X5_begin_16 (iTo.f1 ht) ?_
  refine MF.callVU (As := []) C (R_X2_empty hD (t + 3) (iTo.o1 ht) s2) m_X2_empty k_X5_65 (iRo.o (iTo.o1 ht)) rfl (by decide) e_X5_begin_19 rfl rfl (Nat.le_of_ble_eq_true rfl) (fun s3 => ?_)
  refine MF.aload_n C e_X5_begin_22 0 rfl rfl ?_
  refine MF.getR (j := (t + 5)) C cf_X5 l_X5_23 e_X5_begin_23 (iTo.f2 ht) ?_
  refine MF.callVU (As := []) C (R_X2_empty hD (t + 5) (iTo.o2 ht) s3) m_X2_empty k_X5_65 (iRo.o (iTo.o2 ht)) rfl (by decide) e_X5_begin_26 rfl rfl (Nat.le_of_ble_eq_true rfl) (fun s4 => ?_)
  refine MF.aload_n C e_X5_begin_29 0 rfl rfl ?_
  refine MF.getR (j := (t + 7)) C cf_X5 l_X5_26 e_X5_begin_30 (iTo.f3 ht) ?_
  refine MF.callVU (As := []) C (R_X2_empty hD (t + 7) (iTo.o3 ht) s4) m_X2_empty k_X5_65 (iRo.o (iTo.o3 ht)) rfl (by decide) e_X5_begin_33 rfl rfl (Nat.le_of_ble_eq_true rfl) (fun s5 => ?_)
  refine MF.iconst (v := (nI 0)) C e_X5_begin_36 rfl ?_
  refine MF.istore_n (lv' := [(0, .ref (ead E t)), (1, .int x1), (2, .int v1), (3, .int (nI 0))]) C e_X5_begin_37 (by decide) rfl ?_
  refine MF.loop2 (fun i6 s7 => s7) (fun i6 s7 => [(0, .ref (ead E t)), (1, .int x1), (2, .int v1), (3, .int i6)]) (fun self8 hself8 i6 s7 => ?_) fu (nI 0) s5
  unfold b_X5_begin_38
  refine MF.iload_n C e_X5_begin_38 3 rfl rfl ?_
  refine MF.bipush (v := (nI 16)) C e_X5_begin_39 (by decide) ?_
  refine MF.icmp_ge (tgt := 57) C e_X5_begin_41 (by decide) (fun _ => ?_) (fun _ => ?_)
  · refine MF.aload_n C e_X5_begin_57 0 rfl rfl ?_
    refine MF.iload_n C e_X5_begin_58 1 rfl rfl ?_
    refine MF.put C cf_X5 l_X5_39 p_X5_7 e_X5_begin_59 (iTo.f7 ht) rfl ?_
    refine MF.nmS (fun s9 => ?_)
    refine MF.iload_n C e_X5_begin_62 2 rfl rfl ?_
    exact MF.iret C e_X5_begin_63
  · refine MF.aload_n C e_X5_begin_44 0 rfl rfl ?_
    refine MF.getR (j := (t + 9)) C cf_X5 l_X5_29 e_X5_begin_45 (iTo.f4 ht) ?_
    refine MF.iload_n C e_X5_begin_48 3 rfl rfl ?_
    refine MF.iconst (v := (nI 0)) C e_X5_begin_49 rfl ?_
    refine MF.iast C e_X5_begin_50 (iTo.o4 ht) (fun s10 => ?_)
    refine MF.iinc (v := (nI 1)) (lv' := [(0, .ref (ead E t)), (1, .int x1), (2, .int v1), (3, .int (i6 + (nI 1)))]) C e_X5_begin_51 3 rfl rfl (by decide) rfl ?_
    refine MF.goto (tgt := 38) C e_X5_begin_54 (by decide) ?_
    exact hself8 (i6 + (nI 1)) s10
theorem e_X5_remember_0 : Dc cX5_remember 0 (.aload_n 0) 1 1 := ⟨by decide +kernel, rfl⟩
theorem e_X5_remember_1 : Dc cX5_remember 1 (.getfield 33) 3 4 := ⟨by decide +kernel, rfl⟩
theorem e_X5_remember_4 : Dc cX5_remember 4 (.iconst 0) 1 5 := ⟨by decide +kernel, rfl⟩
theorem e_X5_remember_5 : Dc cX5_remember 5 (.aload_n 0) 1 6 := ⟨by decide +kernel, rfl⟩
theorem e_X5_remember_6 : Dc cX5_remember 6 (.getfield 39) 3 9 := ⟨by decide +kernel, rfl⟩
theorem e_X5_remember_9 : Dc cX5_remember 9 (.iastore) 1 10 := ⟨by decide +kernel, rfl⟩
theorem e_X5_remember_10 : Dc cX5_remember 10 (.aload_n 0) 1 11 := ⟨by decide +kernel, rfl⟩
theorem e_X5_remember_11 : Dc cX5_remember 11 (.getfield 33) 3 14 := ⟨by decide +kernel, rfl⟩
theorem e_X5_remember_14 : Dc cX5_remember 14 (.iconst 1) 1 15 := ⟨by decide +kernel, rfl⟩
theorem e_X5_remember_15 : Dc cX5_remember 15 (.aload_n 0) 1 16 := ⟨by decide +kernel, rfl⟩
theorem e_X5_remember_16 : Dc cX5_remember 16 (.getfield 20) 3 19 := ⟨by decide +kernel, rfl⟩
theorem e_X5_remember_19 : Dc cX5_remember 19 (.invokevirtual 50) 3 22 := ⟨by decide +kernel, rfl⟩
theorem e_X5_remember_22 : Dc cX5_remember 22 (.iastore) 1 23 := ⟨by decide +kernel, rfl⟩
theorem e_X5_remember_23 : Dc cX5_remember 23 (.iconst 0) 1 24 := ⟨by decide +kernel, rfl⟩
theorem e_X5_remember_24 : Dc cX5_remember 24 (.istore_n 1) 1 25 := ⟨by decide +kernel, rfl⟩
theorem e_X5_remember_25 : Dc cX5_remember 25 (.iload_n 1) 1 26 := ⟨by decide +kernel, rfl⟩
theorem e_X5_remember_26 : Dc cX5_remember 26 (.bipush 48) 2 28 := ⟨by decide +kernel, rfl⟩
theorem e_X5_remember_28 : Dc cX5_remember 28 (.if_icmp .ge 32) 3 31 := ⟨by decide +kernel, rfl⟩
theorem e_X5_remember_31 : Dc cX5_remember 31 (.aload_n 0) 1 32 := ⟨by decide +kernel, rfl⟩
theorem e_X5_remember_32 : Dc cX5_remember 32 (.getfield 33) 3 35 := ⟨by decide +kernel, rfl⟩
theorem e_X5_remember_35 : Dc cX5_remember 35 (.iconst 2) 1 36 := ⟨by decide +kernel, rfl⟩
theorem e_X5_remember_36 : Dc cX5_remember 36 (.iload_n 1) 1 37 := ⟨by decide +kernel, rfl⟩
theorem e_X5_remember_37 : Dc cX5_remember 37 (.iadd) 1 38 := ⟨by decide +kernel, rfl⟩
theorem e_X5_remember_38 : Dc cX5_remember 38 (.aload_n 0) 1 39 := ⟨by decide +kernel, rfl⟩
theorem e_X5_remember_39 : Dc cX5_remember 39 (.getfield 20) 3 42 := ⟨by decide +kernel, rfl⟩
theorem e_X5_remember_42 : Dc cX5_remember 42 (.iload_n 1) 1 43 := ⟨by decide +kernel, rfl⟩
theorem e_X5_remember_43 : Dc cX5_remember 43 (.bipush 6) 2 45 := ⟨by decide +kernel, rfl⟩
theorem e_X5_remember_45 : Dc cX5_remember 45 (.idiv) 1 46 := ⟨by decide +kernel, rfl⟩
theorem e_X5_remember_46 : Dc cX5_remember 46 (.iload_n 1) 1 47 := ⟨by decide +kernel, rfl⟩
theorem e_X5_remember_47 : Dc cX5_remember 47 (.bipush 6) 2 49 := ⟨by decide +kernel, rfl⟩
theorem e_X5_remember_49 : Dc cX5_remember 49 (.irem) 1 50 := ⟨by decide +kernel, rfl⟩
theorem e_X5_remember_50 : Dc cX5_remember 50 (.invokevirtual 83) 3 53 := ⟨by decide +kernel, rfl⟩
theorem e_X5_remember_53 : Dc cX5_remember 53 (.iastore) 1 54 := ⟨by decide +kernel, rfl⟩
theorem e_X5_remember_54 : Dc cX5_remember 54 (.iinc 1 1) 3 57 := ⟨by decide +kernel, rfl⟩
theorem e_X5_remember_57 : Dc cX5_remember 57 (.goto (-32)) 3 60 := ⟨by decide +kernel, rfl⟩
theorem e_X5_remember_60 : Dc cX5_remember 60 (.aload_n 0) 1 61 := ⟨by decide +kernel, rfl⟩
theorem e_X5_remember_61 : Dc cX5_remember 61 (.getfield 26) 3 64 := ⟨by decide +kernel, rfl⟩
theorem e_X5_remember_64 : Dc cX5_remember 64 (.invokevirtual 57) 3 67 := ⟨by decide +kernel, rfl⟩
theorem e_X5_remember_67 : Dc cX5_remember 67 (.ifCond .eq 11) 3 70 := ⟨by decide +kernel, rfl⟩
theorem e_X5_remember_70 : Dc cX5_remember 70 (.aload_n 0) 1 71 := ⟨by decide +kernel, rfl⟩
theorem e_X5_remember_71 : Dc cX5_remember 71 (.getfield 26) 3 74 := ⟨by decide +kernel, rfl⟩
theorem e_X5_remember_74 : Dc cX5_remember 74 (.iconst 0) 1 75 := ⟨by decide +kernel, rfl⟩
theorem e_X5_remember_75 : Dc cX5_remember 75 (.invokevirtual 79) 3 78 := ⟨by decide +kernel, rfl⟩
theorem e_X5_remember_78 : Dc cX5_remember 78 (.aload_n 0) 1 79 := ⟨by decide +kernel, rfl⟩
theorem e_X5_remember_79 : Dc cX5_remember 79 (.getfield 26) 3 82 := ⟨by decide +kernel, rfl⟩
theorem e_X5_remember_82 : Dc cX5_remember 82 (.aload_n 0) 1 83 := ⟨by decide +kernel, rfl⟩
theorem e_X5_remember_83 : Dc cX5_remember 83 (.getfield 33) 3 86 := ⟨by decide +kernel, rfl⟩
theorem e_X5_remember_86 : Dc cX5_remember 86 (.invokevirtual 68) 3 89 := ⟨by decide +kernel, rfl⟩
theorem e_X5_remember_89 : Dc cX5_remember 89 (.return_) 1 90 := ⟨by decide +kernel, rfl⟩
set_option maxHeartbeats 4000000 in
set_option maxRecDepth 20000 in
theorem R_X5_remember (hD : DD E) (t : Nat) (ht : iTo t) (s : Sg) : ∀ τ, (f_X5_remember t s) = some τ → RV l E 3 M_X5_remember [.ref (ead E t)] s τ := by
  refine ofU hD (by decide +kernel) (Nat.le_of_ble_eq_true rfl) (fun X C => ?_)
  show MF l E X (fun q : Sg => QV E X q) (f_X5_remember t s) s 0 [(0, .ref (ead E t))] []
  unfold f_X5_remember
  refine MF.aload_n C e_X5_remember_0 0 rfl rfl ?_
  refine MF.getR (j := (t + 10)) C cf_X5 l_X5_33 e_X5_remember_1 (iTo.f5 ht) ?_
  refine MF.iconst (v := (nI 0)) C e_X5_remember_4 rfl ?_
  refine MF.aload_n C e_X5_remember_5 0 rfl rfl ?_
  refine MF.get C cf_X5 l_X5_39 e_X5_remember_6 (iTo.f7 ht) ?_
  refine MF.iast C e_X5_remember_9 (iTo.o5 ht) (fun s1 => ?_)
  refine MF.aload_n C e_X5_remember_10 0 rfl rfl ?_
  refine MF.getR (j := (t + 10)) C cf_X5 l_X5_33 e_X5_remember_11 (iTo.f5 ht) ?_
  refine MF.iconst (v := (nI 1)) C e_X5_remember_14 rfl ?_
  refine MF.aload_n C e_X5_remember_15 0 rfl rfl ?_
  refine MF.getR (j := (t + 3)) C cf_X5 l_X5_20 e_X5_remember_16 (iTo.f1 ht) ?_
  refine MF.callVP (As := []) C (R_X2_size hD (t + 3) (iTo.o1 ht) s1) m_X2_size k_X5_50 (iRo.o (iTo.o1 ht)) rfl (by decide) e_X5_remember_19 rfl rfl (Nat.le_of_ble_eq_true rfl) (fun v2 => ?_)
  refine MF.iast C e_X5_remember_22 (iTo.o5 ht) (fun s3 => ?_)
  refine MF.iconst (v := (nI 0)) C e_X5_remember_23 rfl ?_
  refine MF.istore_n (lv' := [(0, .ref (ead E t)), (1, .int (nI 0))]) C e_X5_remember_24 (by decide) rfl ?_
  refine MF.join (fun j : Sg → Option Sg => ∀ (s4 : Sg), MF l E X (fun q : Sg => QV E X q) (j s4) s4 60 [(0, .ref (ead E t))] []) ?_ (fun j5 hj5 => ?_)
  · intro s4
    refine MF.aload_n C e_X5_remember_60 0 rfl rfl ?_
    refine MF.getR (j := (t + 7)) C cf_X5 l_X5_26 e_X5_remember_61 (iTo.f3 ht) ?_
    refine MF.callVP (As := []) C (R_X2_isFull hD (t + 7) (iTo.o3 ht) s4) m_X2_isFull k_X5_57 (iRo.o (iTo.o3 ht)) rfl (by decide) e_X5_remember_64 rfl rfl (Nat.le_of_ble_eq_true rfl) (fun v6 => ?_)
    refine MF.if_eq (tgt := 78) C e_X5_remember_67 (by decide) (fun _ => ?_) (fun _ => ?_)
    · refine MF.aload_n C e_X5_remember_78 0 rfl rfl ?_
      refine MF.getR (j := (t + 7)) C cf_X5 l_X5_26 e_X5_remember_79 (iTo.f3 ht) ?_
      refine MF.aload_n C e_X5_remember_82 0 rfl rfl ?_
      refine MF.getR (j := (t + 10)) C cf_X5 l_X5_33 e_X5_remember_83 (iTo.f5 ht) ?_
      refine MF.callVU (As := [.ref (ead E (t + 10))]) C (R_X2_add hD (t + 7) (t + 10) (iTo.o3 ht) (iTo.o5 ht) s4) m_X2_add k_X5_68 (iRo.o (iTo.o3 ht)) rfl (by decide) e_X5_remember_86 rfl rfl (Nat.le_of_ble_eq_true rfl) (fun s7 => ?_)
      exact MF.vret C e_X5_remember_89
    · refine MF.aload_n C e_X5_remember_70 0 rfl rfl ?_
      refine MF.getR (j := (t + 7)) C cf_X5 l_X5_26 e_X5_remember_71 (iTo.f3 ht) ?_
      refine MF.iconst (v := (nI 0)) C e_X5_remember_74 rfl ?_
      refine MF.callVU (As := [.int (nI 0)]) C (R_X2_drop hD (t + 7) (nI 0) (iTo.o3 ht) s4) m_X2_drop k_X5_79 (iRo.o (iTo.o3 ht)) rfl (by decide) e_X5_remember_75 rfl rfl (Nat.le_of_ble_eq_true rfl) (fun s8 => ?_)
      refine MF.aload_n C e_X5_remember_78 0 rfl rfl ?_
      refine MF.getR (j := (t + 7)) C cf_X5 l_X5_26 e_X5_remember_79 (iTo.f3 ht) ?_
      refine MF.aload_n C e_X5_remember_82 0 rfl rfl ?_
      refine MF.getR (j := (t + 10)) C cf_X5 l_X5_33 e_X5_remember_83 (iTo.f5 ht) ?_
      refine MF.callVU (As := [.ref (ead E (t + 10))]) C (R_X2_add hD (t + 7) (t + 10) (iTo.o3 ht) (iTo.o5 ht) s8) m_X2_add k_X5_68 (iRo.o (iTo.o3 ht)) rfl (by decide) e_X5_remember_86 rfl rfl (Nat.le_of_ble_eq_true rfl) (fun s9 => ?_)
      exact MF.vret C e_X5_remember_89
  refine MF.loop2 (fun i10 s11 => s11) (fun i10 s11 => [(0, .ref (ead E t)), (1, .int i10)]) (fun self12 hself12 i10 s11 => ?_) fu (nI 0) s3
  unfold b_X5_remember_25
  refine MF.iload_n C e_X5_remember_25 1 rfl rfl ?_
  refine MF.bipush (v := (nI 48)) C e_X5_remember_26 (by decide) ?_
  refine MF.icmp_ge (tgt := 60) C e_X5_remember_28 (by decide) (fun _ => ?_) (fun _ => ?_)
  · refine MF.sub [0] rfl ?_
    exact hj5 s11
  · refine MF.aload_n C e_X5_remember_31 0 rfl rfl ?_
    refine MF.getR (j := (t + 10)) C cf_X5 l_X5_33 e_X5_remember_32 (iTo.f5 ht) ?_
    refine MF.iconst (v := (nI 2)) C e_X5_remember_35 rfl ?_
    refine MF.iload_n C e_X5_remember_36 1 rfl rfl ?_
    refine MF.iadd C e_X5_remember_37 ?_
    refine MF.aload_n C e_X5_remember_38 0 rfl rfl ?_
    refine MF.getR (j := (t + 3)) C cf_X5 l_X5_20 e_X5_remember_39 (iTo.f1 ht) ?_
    refine MF.iload_n C e_X5_remember_42 1 rfl rfl ?_
    refine MF.bipush (v := (nI 6)) C e_X5_remember_43 (by decide) ?_
    refine MF.idiv C e_X5_remember_45 (by decide) ?_
    refine MF.iload_n C e_X5_remember_46 1 rfl rfl ?_
    refine MF.bipush (v := (nI 6)) C e_X5_remember_47 (by decide) ?_
    refine MF.irem C e_X5_remember_49 (by decide) ?_
    refine MF.callVP (As := [.int (i10 / (nI 6)), .int (i10 - i10 / (nI 6) * (nI 6))]) C (R_X2_cell hD (t + 3) (i10 / (nI 6)) (i10 - i10 / (nI 6) * (nI 6)) (iTo.o1 ht) s11) m_X2_cell k_X5_83 (iRo.o (iTo.o1 ht)) rfl (by decide) e_X5_remember_50 rfl rfl (Nat.le_of_ble_eq_true rfl) (fun v13 => ?_)
    refine MF.iast C e_X5_remember_53 (iTo.o5 ht) (fun s14 => ?_)
    refine MF.iinc (v := (nI 1)) (lv' := [(0, .ref (ead E t)), (1, .int (i10 + (nI 1)))]) C e_X5_remember_54 1 rfl rfl (by decide) rfl ?_
    refine MF.goto (tgt := 25) C e_X5_remember_57 (by decide) ?_
    exact hself12 (i10 + (nI 1)) s14
end WK
