section WK
variable {l : Launch} {E : EX}
theorem e_X8_goOn_0 : Dc cX8_goOn 0 (.aload_n 0) 1 1 := ⟨by decide +kernel, rfl⟩
theorem e_X8_goOn_1 : Dc cX8_goOn 1 (.aload_n 0) 1 2 := ⟨by decide +kernel, rfl⟩
theorem e_X8_goOn_2 : Dc cX8_goOn 2 (.getfield 259) 3 5 := ⟨by decide +kernel, rfl⟩
theorem e_X8_goOn_5 : Dc cX8_goOn 5 (.aload_n 0) 1 6 := ⟨by decide +kernel, rfl⟩
theorem e_X8_goOn_6 : Dc cX8_goOn 6 (.getfield 262) 3 9 := ⟨by decide +kernel, rfl⟩
theorem e_X8_goOn_9 : Dc cX8_goOn 9 (.iadd) 1 10 := ⟨by decide +kernel, rfl⟩
theorem e_X8_goOn_10 : Dc cX8_goOn 10 (.invokevirtual 277) 3 13 := ⟨by decide +kernel, rfl⟩
theorem e_X8_goOn_13 : Dc cX8_goOn 13 (.return_) 1 14 := ⟨by decide +kernel, rfl⟩
set_option maxHeartbeats 4000000 in
set_option maxRecDepth 20000 in
theorem R_X8_goOn (hD : DD E) (s : Sg) : ∀ τ, (f_X8_goOn s) = some τ → RV l E 3 M_X8_goOn [.ref (ead E 70)] s τ := by
  refine ofU hD (by decide +kernel) (Nat.le_of_ble_eq_true rfl) (fun X C => ?_)
  show MF l E X (fun q : Sg => QV E X q) (f_X8_goOn s) s 0 [(0, .ref (ead E 70))] []
  unfold f_X8_goOn
  refine MF.aload_n C e_X8_goOn_0 0 rfl rfl ?_
  refine MF.aload_n C e_X8_goOn_1 0 rfl rfl ?_
  refine MF.get C cf_X8 l_X8_259 e_X8_goOn_2 kF_70_23 ?_
  refine MF.aload_n C e_X8_goOn_5 0 rfl rfl ?_
  refine MF.get C cf_X8 l_X8_262 e_X8_goOn_6 kF_70_24 ?_
  refine MF.iadd C e_X8_goOn_9 ?_
  refine MF.callVU (As := [.int ((s 70 23) + (s 70 24))]) C (R_X8_look hD ((s 70 23) + (s 70 24)) s) m_X8_look k_X8_277 kO_70 rfl (by decide) e_X8_goOn_10 rfl rfl (Nat.le_of_ble_eq_true rfl) (fun s1 => ?_)
  exact MF.vret C e_X8_goOn_13
theorem e_X8_isCalled_0 : Dc cX8_isCalled 0 (.aload_n 0) 1 1 := ⟨by decide +kernel, rfl⟩
theorem e_X8_isCalled_1 : Dc cX8_isCalled 1 (.getfield 265) 3 4 := ⟨by decide +kernel, rfl⟩
theorem e_X8_isCalled_4 : Dc cX8_isCalled 4 (.iconst 1) 1 5 := ⟨by decide +kernel, rfl⟩
theorem e_X8_isCalled_5 : Dc cX8_isCalled 5 (.if_icmp .ne 15) 3 8 := ⟨by decide +kernel, rfl⟩
theorem e_X8_isCalled_8 : Dc cX8_isCalled 8 (.aload_n 0) 1 9 := ⟨by decide +kernel, rfl⟩
theorem e_X8_isCalled_9 : Dc cX8_isCalled 9 (.getfield 262) 3 12 := ⟨by decide +kernel, rfl⟩
theorem e_X8_isCalled_12 : Dc cX8_isCalled 12 (.iload_n 1) 1 13 := ⟨by decide +kernel, rfl⟩
theorem e_X8_isCalled_13 : Dc cX8_isCalled 13 (.if_icmp .ne 7) 3 16 := ⟨by decide +kernel, rfl⟩
theorem e_X8_isCalled_16 : Dc cX8_isCalled 16 (.iconst 1) 1 17 := ⟨by decide +kernel, rfl⟩
theorem e_X8_isCalled_17 : Dc cX8_isCalled 17 (.goto 4) 3 20 := ⟨by decide +kernel, rfl⟩
theorem e_X8_isCalled_20 : Dc cX8_isCalled 20 (.iconst 0) 1 21 := ⟨by decide +kernel, rfl⟩
theorem e_X8_isCalled_21 : Dc cX8_isCalled 21 (.istore 8) 2 23 := ⟨by decide +kernel, rfl⟩
theorem e_X8_isCalled_23 : Dc cX8_isCalled 23 (.iconst 0) 1 24 := ⟨by decide +kernel, rfl⟩
theorem e_X8_isCalled_24 : Dc cX8_isCalled 24 (.istore 9) 2 26 := ⟨by decide +kernel, rfl⟩
theorem e_X8_isCalled_26 : Dc cX8_isCalled 26 (.iload 9) 2 28 := ⟨by decide +kernel, rfl⟩
theorem e_X8_isCalled_28 : Dc cX8_isCalled 28 (.iload_n 1) 1 29 := ⟨by decide +kernel, rfl⟩
theorem e_X8_isCalled_29 : Dc cX8_isCalled 29 (.if_icmp .ge 90) 3 32 := ⟨by decide +kernel, rfl⟩
theorem e_X8_isCalled_32 : Dc cX8_isCalled 32 (.iload 8) 2 34 := ⟨by decide +kernel, rfl⟩
theorem e_X8_isCalled_34 : Dc cX8_isCalled 34 (.ifCond .eq 85) 3 37 := ⟨by decide +kernel, rfl⟩
theorem e_X8_isCalled_37 : Dc cX8_isCalled 37 (.aload_n 0) 1 38 := ⟨by decide +kernel, rfl⟩
theorem e_X8_isCalled_38 : Dc cX8_isCalled 38 (.getfield 62) 3 41 := ⟨by decide +kernel, rfl⟩
theorem e_X8_isCalled_41 : Dc cX8_isCalled 41 (.aload_n 0) 1 42 := ⟨by decide +kernel, rfl⟩
theorem e_X8_isCalled_42 : Dc cX8_isCalled 42 (.getfield 259) 3 45 := ⟨by decide +kernel, rfl⟩
theorem e_X8_isCalled_45 : Dc cX8_isCalled 45 (.iload 9) 2 47 := ⟨by decide +kernel, rfl⟩
theorem e_X8_isCalled_47 : Dc cX8_isCalled 47 (.iadd) 1 48 := ⟨by decide +kernel, rfl⟩
theorem e_X8_isCalled_48 : Dc cX8_isCalled 48 (.iaload) 1 49 := ⟨by decide +kernel, rfl⟩
theorem e_X8_isCalled_49 : Dc cX8_isCalled 49 (.iload 9) 2 51 := ⟨by decide +kernel, rfl⟩
theorem e_X8_isCalled_51 : Dc cX8_isCalled 51 (.ifCond .ne 7) 3 54 := ⟨by decide +kernel, rfl⟩
theorem e_X8_isCalled_54 : Dc cX8_isCalled 54 (.iload_n 2) 1 55 := ⟨by decide +kernel, rfl⟩
theorem e_X8_isCalled_55 : Dc cX8_isCalled 55 (.goto 48) 3 58 := ⟨by decide +kernel, rfl⟩
theorem e_X8_isCalled_58 : Dc cX8_isCalled 58 (.iload 9) 2 60 := ⟨by decide +kernel, rfl⟩
theorem e_X8_isCalled_60 : Dc cX8_isCalled 60 (.iconst 1) 1 61 := ⟨by decide +kernel, rfl⟩
theorem e_X8_isCalled_61 : Dc cX8_isCalled 61 (.if_icmp .ne 7) 3 64 := ⟨by decide +kernel, rfl⟩
theorem e_X8_isCalled_64 : Dc cX8_isCalled 64 (.iload_n 3) 1 65 := ⟨by decide +kernel, rfl⟩
theorem e_X8_isCalled_65 : Dc cX8_isCalled 65 (.goto 38) 3 68 := ⟨by decide +kernel, rfl⟩
theorem e_X8_isCalled_68 : Dc cX8_isCalled 68 (.iload 9) 2 70 := ⟨by decide +kernel, rfl⟩
theorem e_X8_isCalled_70 : Dc cX8_isCalled 70 (.iconst 2) 1 71 := ⟨by decide +kernel, rfl⟩
theorem e_X8_isCalled_71 : Dc cX8_isCalled 71 (.if_icmp .ne 8) 3 74 := ⟨by decide +kernel, rfl⟩
theorem e_X8_isCalled_74 : Dc cX8_isCalled 74 (.iload 4) 2 76 := ⟨by decide +kernel, rfl⟩
theorem e_X8_isCalled_76 : Dc cX8_isCalled 76 (.goto 27) 3 79 := ⟨by decide +kernel, rfl⟩
theorem e_X8_isCalled_79 : Dc cX8_isCalled 79 (.iload 9) 2 81 := ⟨by decide +kernel, rfl⟩
theorem e_X8_isCalled_81 : Dc cX8_isCalled 81 (.iconst 3) 1 82 := ⟨by decide +kernel, rfl⟩
theorem e_X8_isCalled_82 : Dc cX8_isCalled 82 (.if_icmp .ne 8) 3 85 := ⟨by decide +kernel, rfl⟩
theorem e_X8_isCalled_85 : Dc cX8_isCalled 85 (.iload 5) 2 87 := ⟨by decide +kernel, rfl⟩
theorem e_X8_isCalled_87 : Dc cX8_isCalled 87 (.goto 16) 3 90 := ⟨by decide +kernel, rfl⟩
theorem e_X8_isCalled_90 : Dc cX8_isCalled 90 (.iload 9) 2 92 := ⟨by decide +kernel, rfl⟩
theorem e_X8_isCalled_92 : Dc cX8_isCalled 92 (.iconst 4) 1 93 := ⟨by decide +kernel, rfl⟩
theorem e_X8_isCalled_93 : Dc cX8_isCalled 93 (.if_icmp .ne 8) 3 96 := ⟨by decide +kernel, rfl⟩
theorem e_X8_isCalled_96 : Dc cX8_isCalled 96 (.iload 6) 2 98 := ⟨by decide +kernel, rfl⟩
theorem e_X8_isCalled_98 : Dc cX8_isCalled 98 (.goto 5) 3 101 := ⟨by decide +kernel, rfl⟩
theorem e_X8_isCalled_101 : Dc cX8_isCalled 101 (.iload 7) 2 103 := ⟨by decide +kernel, rfl⟩
theorem e_X8_isCalled_103 : Dc cX8_isCalled 103 (.if_icmp .ne 7) 3 106 := ⟨by decide +kernel, rfl⟩
theorem e_X8_isCalled_106 : Dc cX8_isCalled 106 (.iconst 1) 1 107 := ⟨by decide +kernel, rfl⟩
theorem e_X8_isCalled_107 : Dc cX8_isCalled 107 (.goto 4) 3 110 := ⟨by decide +kernel, rfl⟩
theorem e_X8_isCalled_110 : Dc cX8_isCalled 110 (.iconst 0) 1 111 := ⟨by decide +kernel, rfl⟩
theorem e_X8_isCalled_111 : Dc cX8_isCalled 111 (.istore 8) 2 113 := ⟨by decide +kernel, rfl⟩
theorem e_X8_isCalled_113 : Dc cX8_isCalled 113 (.iinc 9 1) 3 116 := ⟨by decide +kernel, rfl⟩
theorem e_X8_isCalled_116 : Dc cX8_isCalled 116 (.goto (-90)) 3 119 := ⟨by decide +kernel, rfl⟩
theorem e_X8_isCalled_119 : Dc cX8_isCalled 119 (.iload 8) 2 121 := ⟨by decide +kernel, rfl⟩
theorem e_X8_isCalled_121 : Dc cX8_isCalled 121 (.ireturn) 1 122 := ⟨by decide +kernel, rfl⟩
set_option maxHeartbeats 4000000 in
set_option maxRecDepth 20000 in
theorem R_X8_isCalled (hD : DD E) (x1 : Int32) (x2 : Int32) (x3 : Int32) (x4 : Int32) (x5 : Int32) (x6 : Int32) (x7 : Int32) (s : Sg) : ∀ v, (f_X8_isCalled x1 x2 x3 x4 x5 x6 x7 s) = some v → RI l E 0 M_X8_isCalled [.ref (ead E 70), .int x1, .int x2, .int x3, .int x4, .int x5, .int x6, .int x7] s v s := by
  refine ofP hD (by decide +kernel) (Nat.le_of_ble_eq_true rfl) (fun X C => ?_)
  show MF l E X (fun q : Int32 => QI E X q s) (f_X8_isCalled x1 x2 x3 x4 x5 x6 x7 s) s 0 [(0, .ref (ead E 70)), (1, .int x1), (2, .int x2), (3, .int x3), (4, .int x4), (5, .int x5), (6, .int x6), (7, .int x7)] []
  unfold f_X8_isCalled
  refine MF.aload_n C e_X8_isCalled_0 0 rfl rfl ?_
  refine MF.get C cf_X8 l_X8_265 e_X8_isCalled_1 kF_70_25 ?_
  refine MF.iconst (v := (nI 1)) C e_X8_isCalled_4 rfl ?_
  refine MF.join (fun j : Int32 → Option Int32 => ∀ (a1 : Int32), MF l E X (fun q : Int32 => QI E X q s) (j a1) s 21 [(0, .ref (ead E 70)), (1, .int x1), (2, .int x2), (3, .int x3), (4, .int x4), (5, .int x5), (6, .int x6), (7, .int x7)] [.int a1]) ?_ (fun j2 hj2 => ?_)
  · intro a1
    refine MF.istore (lv' := [(0, .ref (ead E 70)), (1, .int x1), (2, .int x2), (3, .int x3), (4, .int x4), (5, .int x5), (6, .int x6), (7, .int x7), (8, .int a1)]) C e_X8_isCalled_21 (by decide) rfl ?_
    refine MF.iconst (v := (nI 0)) C e_X8_isCalled_23 rfl ?_
    refine MF.istore (lv' := [(0, .ref (ead E 70)), (1, .int x1), (2, .int x2), (3, .int x3), (4, .int x4), (5, .int x5), (6, .int x6), (7, .int x7), (8, .int a1), (9, .int (nI 0))]) C e_X8_isCalled_24 (by decide) rfl ?_
    refine MF.loop2 (fun i3 i4 => s) (fun i3 i4 => [(0, .ref (ead E 70)), (1, .int x1), (2, .int x2), (3, .int x3), (4, .int x4), (5, .int x5), (6, .int x6), (7, .int x7), (8, .int i3), (9, .int i4)]) (fun self5 hself5 i3 i4 => ?_) fu a1 (nI 0)
    unfold b_X8_isCalled_26
    refine MF.iload C e_X8_isCalled_26 9 rfl ?_
    refine MF.iload_n C e_X8_isCalled_28 1 rfl rfl ?_
    refine MF.icmp_ge (tgt := 119) C e_X8_isCalled_29 (by decide) (fun _ => ?_) (fun _ => ?_)
    · refine MF.iload C e_X8_isCalled_119 8 rfl ?_
      exact MF.nretp C e_X8_isCalled_121 rfl
    · refine MF.iload C e_X8_isCalled_32 8 rfl ?_
      refine MF.if_eq (tgt := 119) C e_X8_isCalled_34 (by decide) (fun _ => ?_) (fun _ => ?_)
      · refine MF.iload C e_X8_isCalled_119 8 rfl ?_
        exact MF.nretp C e_X8_isCalled_121 rfl
      · refine MF.aload_n C e_X8_isCalled_37 0 rfl rfl ?_
        refine MF.getR (j := 88) C cf_X8 l_X8_62 e_X8_isCalled_38 kF_70_21 ?_
        refine MF.aload_n C e_X8_isCalled_41 0 rfl rfl ?_
        refine MF.get C cf_X8 l_X8_259 e_X8_isCalled_42 kF_70_23 ?_
        refine MF.iload C e_X8_isCalled_45 9 rfl ?_
        refine MF.iadd C e_X8_isCalled_47 ?_
        refine MF.iald C e_X8_isCalled_48 kA_88 (fun v6 => ?_)
        refine MF.iload C e_X8_isCalled_49 9 rfl ?_
        refine MF.join (fun j : Int32 → Option Int32 => ∀ (a7 : Int32), MF l E X (fun q : Int32 => QI E X q s) (j a7) s 103 [(0, .ref (ead E 70)), (1, .int x1), (2, .int x2), (3, .int x3), (4, .int x4), (5, .int x5), (6, .int x6), (7, .int x7), (9, .int i4)] [.int a7, .int v6]) ?_ (fun j8 hj8 => ?_)
        · intro a7
          refine MF.join (fun j : Int32 → Option Int32 => ∀ (a9 : Int32), MF l E X (fun q : Int32 => QI E X q s) (j a9) s 111 [(0, .ref (ead E 70)), (1, .int x1), (2, .int x2), (3, .int x3), (4, .int x4), (5, .int x5), (6, .int x6), (7, .int x7), (9, .int i4)] [.int a9]) ?_ (fun j10 hj10 => ?_)
          · intro a9
            refine MF.istore (lv' := [(0, .ref (ead E 70)), (1, .int x1), (2, .int x2), (3, .int x3), (4, .int x4), (5, .int x5), (6, .int x6), (7, .int x7), (8, .int a9), (9, .int i4)]) C e_X8_isCalled_111 (by decide) rfl ?_
            refine MF.iinc (v := (nI 1)) (lv' := [(0, .ref (ead E 70)), (1, .int x1), (2, .int x2), (3, .int x3), (4, .int x4), (5, .int x5), (6, .int x6), (7, .int x7), (8, .int a9), (9, .int (i4 + (nI 1)))]) C e_X8_isCalled_113 9 rfl rfl (by decide) rfl ?_
            refine MF.goto (tgt := 26) C e_X8_isCalled_116 (by decide) ?_
            exact hself5 a9 (i4 + (nI 1))
          refine MF.icmp_ne (tgt := 110) C e_X8_isCalled_103 (by decide) (fun _ => ?_) (fun _ => ?_)
          · refine MF.iconst (v := (nI 0)) C e_X8_isCalled_110 rfl ?_
            exact hj10 (nI 0)
          · refine MF.iconst (v := (nI 1)) C e_X8_isCalled_106 rfl ?_
            refine MF.goto (tgt := 111) C e_X8_isCalled_107 (by decide) ?_
            exact hj10 (nI 1)
        refine MF.if_ne (tgt := 58) C e_X8_isCalled_51 (by decide) (fun _ => ?_) (fun _ => ?_)
        · refine MF.iload C e_X8_isCalled_58 9 rfl ?_
          refine MF.iconst (v := (nI 1)) C e_X8_isCalled_60 rfl ?_
          refine MF.icmp_ne (tgt := 68) C e_X8_isCalled_61 (by decide) (fun _ => ?_) (fun _ => ?_)
          · refine MF.iload C e_X8_isCalled_68 9 rfl ?_
            refine MF.iconst (v := (nI 2)) C e_X8_isCalled_70 rfl ?_
            refine MF.icmp_ne (tgt := 79) C e_X8_isCalled_71 (by decide) (fun _ => ?_) (fun _ => ?_)
            · refine MF.iload C e_X8_isCalled_79 9 rfl ?_
              refine MF.iconst (v := (nI 3)) C e_X8_isCalled_81 rfl ?_
              refine MF.icmp_ne (tgt := 90) C e_X8_isCalled_82 (by decide) (fun _ => ?_) (fun _ => ?_)
              · refine MF.iload C e_X8_isCalled_90 9 rfl ?_
                refine MF.iconst (v := (nI 4)) C e_X8_isCalled_92 rfl ?_
                refine MF.icmp_ne (tgt := 101) C e_X8_isCalled_93 (by decide) (fun _ => ?_) (fun _ => ?_)
                · refine MF.iload C e_X8_isCalled_101 7 rfl ?_
                  refine MF.sub [0, 1, 2, 3, 4, 5, 6, 7, 9] rfl ?_
                  exact hj8 x7
                · refine MF.iload C e_X8_isCalled_96 6 rfl ?_
                  refine MF.goto (tgt := 103) C e_X8_isCalled_98 (by decide) ?_
                  refine MF.sub [0, 1, 2, 3, 4, 5, 6, 7, 9] rfl ?_
                  exact hj8 x6
              · refine MF.iload C e_X8_isCalled_85 5 rfl ?_
                refine MF.goto (tgt := 103) C e_X8_isCalled_87 (by decide) ?_
                refine MF.sub [0, 1, 2, 3, 4, 5, 6, 7, 9] rfl ?_
                exact hj8 x5
            · refine MF.iload C e_X8_isCalled_74 4 rfl ?_
              refine MF.goto (tgt := 103) C e_X8_isCalled_76 (by decide) ?_
              refine MF.sub [0, 1, 2, 3, 4, 5, 6, 7, 9] rfl ?_
              exact hj8 x4
          · refine MF.iload_n C e_X8_isCalled_64 3 rfl rfl ?_
            refine MF.goto (tgt := 103) C e_X8_isCalled_65 (by decide) ?_
            refine MF.sub [0, 1, 2, 3, 4, 5, 6, 7, 9] rfl ?_
            exact hj8 x3
        · refine MF.iload_n C e_X8_isCalled_54 2 rfl rfl ?_
          refine MF.goto (tgt := 103) C e_X8_isCalled_55 (by decide) ?_
          refine MF.sub [0, 1, 2, 3, 4, 5, 6, 7, 9] rfl ?_
          exact hj8 x2
  refine MF.join (fun j : Unit → Option Int32 => ∀ (_u : Unit), MF l E X (fun q : Int32 => QI E X q s) (j _u) s 20 [(0, .ref (ead E 70)), (1, .int x1), (2, .int x2), (3, .int x3), (4, .int x4), (5, .int x5), (6, .int x6), (7, .int x7)] []) ?_ (fun j11 hj11 => ?_)
  · intro _
    refine MF.iconst (v := (nI 0)) C e_X8_isCalled_20 rfl ?_
    exact hj2 (nI 0)
  refine MF.icmp_ne (tgt := 20) C e_X8_isCalled_5 (by decide) (fun _ => ?_) (fun _ => ?_)
  · exact hj11 ()
  · refine MF.aload_n C e_X8_isCalled_8 0 rfl rfl ?_
    refine MF.get C cf_X8 l_X8_262 e_X8_isCalled_9 kF_70_24 ?_
    refine MF.iload_n C e_X8_isCalled_12 1 rfl rfl ?_
    refine MF.icmp_ne (tgt := 20) C e_X8_isCalled_13 (by decide) (fun _ => ?_) (fun _ => ?_)
    · exact hj11 ()
    · refine MF.iconst (v := (nI 1)) C e_X8_isCalled_16 rfl ?_
      refine MF.goto (tgt := 21) C e_X8_isCalled_17 (by decide) ?_
      exact hj2 (nI 1)
theorem e_X8_takes_0 : Dc cX8_takes 0 (.aload_n 0) 1 1 := ⟨by decide +kernel, rfl⟩
theorem e_X8_takes_1 : Dc cX8_takes 1 (.getfield 265) 3 4 := ⟨by decide +kernel, rfl⟩
theorem e_X8_takes_4 : Dc cX8_takes 4 (.iconst 2) 1 5 := ⟨by decide +kernel, rfl⟩
theorem e_X8_takes_5 : Dc cX8_takes 5 (.if_icmp .ne 18) 3 8 := ⟨by decide +kernel, rfl⟩
theorem e_X8_takes_8 : Dc cX8_takes 8 (.aload_n 0) 1 9 := ⟨by decide +kernel, rfl⟩
theorem e_X8_takes_9 : Dc cX8_takes 9 (.getfield 268) 3 12 := ⟨by decide +kernel, rfl⟩
theorem e_X8_takes_12 : Dc cX8_takes 12 (.i2l) 1 13 := ⟨by decide +kernel, rfl⟩
theorem e_X8_takes_13 : Dc cX8_takes 13 (.iload_n 2) 1 14 := ⟨by decide +kernel, rfl⟩
theorem e_X8_takes_14 : Dc cX8_takes 14 (.i2l) 1 15 := ⟨by decide +kernel, rfl⟩
theorem e_X8_takes_15 : Dc cX8_takes 15 (.iload_n 3) 1 16 := ⟨by decide +kernel, rfl⟩
theorem e_X8_takes_16 : Dc cX8_takes 16 (.i2l) 1 17 := ⟨by decide +kernel, rfl⟩
theorem e_X8_takes_17 : Dc cX8_takes 17 (.invokestatic 75) 3 20 := ⟨by decide +kernel, rfl⟩
theorem e_X8_takes_20 : Dc cX8_takes 20 (.ifCond .ne 5) 3 23 := ⟨by decide +kernel, rfl⟩
theorem e_X8_takes_23 : Dc cX8_takes 23 (.iconst 0) 1 24 := ⟨by decide +kernel, rfl⟩
theorem e_X8_takes_24 : Dc cX8_takes 24 (.ireturn) 1 25 := ⟨by decide +kernel, rfl⟩
theorem e_X8_takes_25 : Dc cX8_takes 25 (.aload_n 0) 1 26 := ⟨by decide +kernel, rfl⟩
theorem e_X8_takes_26 : Dc cX8_takes 26 (.getfield 68) 3 29 := ⟨by decide +kernel, rfl⟩
theorem e_X8_takes_29 : Dc cX8_takes 29 (.iload_n 1) 1 30 := ⟨by decide +kernel, rfl⟩
theorem e_X8_takes_30 : Dc cX8_takes 30 (.aload_n 0) 1 31 := ⟨by decide +kernel, rfl⟩
theorem e_X8_takes_31 : Dc cX8_takes 31 (.getfield 268) 3 34 := ⟨by decide +kernel, rfl⟩
theorem e_X8_takes_34 : Dc cX8_takes 34 (.iastore) 1 35 := ⟨by decide +kernel, rfl⟩
theorem e_X8_takes_35 : Dc cX8_takes 35 (.aload_n 0) 1 36 := ⟨by decide +kernel, rfl⟩
theorem e_X8_takes_36 : Dc cX8_takes 36 (.invokevirtual 280) 3 39 := ⟨by decide +kernel, rfl⟩
theorem e_X8_takes_39 : Dc cX8_takes 39 (.iconst 1) 1 40 := ⟨by decide +kernel, rfl⟩
theorem e_X8_takes_40 : Dc cX8_takes 40 (.ireturn) 1 41 := ⟨by decide +kernel, rfl⟩
set_option maxHeartbeats 4000000 in
set_option maxRecDepth 20000 in
theorem R_X8_takes (hD : DD E) (x1 : Int32) (x2 : Int32) (x3 : Int32) (s : Sg) : ∀ v τ, (f_X8_takes x1 x2 x3 s) = some (v, τ) → RI l E 4 M_X8_takes [.ref (ead E 70), .int x1, .int x2, .int x3] s v τ := by
  refine ofI hD (by decide +kernel) (Nat.le_of_ble_eq_true rfl) (fun X C => ?_)
  show MF l E X (fun q : Int32 × Sg => QI E X q.1 q.2) (f_X8_takes x1 x2 x3 s) s 0 [(0, .ref (ead E 70)), (1, .int x1), (2, .int x2), (3, .int x3)] []
  unfold f_X8_takes
  refine MF.aload_n C e_X8_takes_0 0 rfl rfl ?_
  refine MF.get C cf_X8 l_X8_265 e_X8_takes_1 kF_70_25 ?_
  refine MF.iconst (v := (nI 2)) C e_X8_takes_4 rfl ?_
  refine MF.icmp_ne (tgt := 23) C e_X8_takes_5 (by decide) (fun _ => ?_) (fun _ => ?_)
  · refine MF.iconst (v := (nI 0)) C e_X8_takes_23 rfl ?_
    exact MF.nret C e_X8_takes_24 rfl
  · refine MF.aload_n C e_X8_takes_8 0 rfl rfl ?_
    refine MF.get C cf_X8 l_X8_268 e_X8_takes_9 kF_70_26 ?_
    refine MF.i2l C e_X8_takes_12 ?_
    refine MF.iload_n C e_X8_takes_13 2 rfl rfl ?_
    refine MF.i2l C e_X8_takes_14 ?_
    refine MF.iload_n C e_X8_takes_15 3 rfl rfl ?_
    refine MF.i2l C e_X8_takes_16 ?_
    refine MF.callSP (As := [.long (Int32.toInt64 (s 70 26)), .long (Int32.toInt64 x2), .long (Int32.toInt64 x3)]) C (R_X8_in hD (Int32.toInt64 (s 70 26)) (Int32.toInt64 x2) (Int32.toInt64 x3) s) m_X8_in k_X8_75 (by decide) e_X8_takes_17 rfl rfl (Nat.le_of_ble_eq_true rfl) (fun v1 => ?_)
    refine MF.if_ne (tgt := 25) C e_X8_takes_20 (by decide) (fun _ => ?_) (fun _ => ?_)
    · refine MF.aload_n C e_X8_takes_25 0 rfl rfl ?_
      refine MF.getR (j := 90) C cf_X8 l_X8_68 e_X8_takes_26 kF_70_28 ?_
      refine MF.iload_n C e_X8_takes_29 1 rfl rfl ?_
      refine MF.aload_n C e_X8_takes_30 0 rfl rfl ?_
      refine MF.get C cf_X8 l_X8_268 e_X8_takes_31 kF_70_26 ?_
      refine MF.iast C e_X8_takes_34 kA_90 (fun s2 => ?_)
      refine MF.aload_n C e_X8_takes_35 0 rfl rfl ?_
      refine MF.callVU (As := []) C (R_X8_goOn hD s2) m_X8_goOn k_X8_280 kO_70 rfl (by decide) e_X8_takes_36 rfl rfl (Nat.le_of_ble_eq_true rfl) (fun s3 => ?_)
      refine MF.iconst (v := (nI 1)) C e_X8_takes_39 rfl ?_
      exact MF.nret C e_X8_takes_40 rfl
    · refine MF.iconst (v := (nI 0)) C e_X8_takes_23 rfl ?_
      exact MF.nret C e_X8_takes_24 rfl
theorem e_X8_readsFirst_0 : Dc cX8_readsFirst 0 (.aload_n 0) 1 1 := ⟨by decide +kernel, rfl⟩
theorem e_X8_readsFirst_1 : Dc cX8_readsFirst 1 (.iconst 4) 1 2 := ⟨by decide +kernel, rfl⟩
theorem e_X8_readsFirst_2 : Dc cX8_readsFirst 2 (.bipush 116) 2 4 := ⟨by decide +kernel, rfl⟩
theorem e_X8_readsFirst_4 : Dc cX8_readsFirst 4 (.bipush 111) 2 6 := ⟨by decide +kernel, rfl⟩
theorem e_X8_readsFirst_6 : Dc cX8_readsFirst 6 (.bipush 119) 2 8 := ⟨by decide +kernel, rfl⟩
theorem e_X8_readsFirst_8 : Dc cX8_readsFirst 8 (.bipush 110) 2 10 := ⟨by decide +kernel, rfl⟩
theorem e_X8_readsFirst_10 : Dc cX8_readsFirst 10 (.iconst 0) 1 11 := ⟨by decide +kernel, rfl⟩
theorem e_X8_readsFirst_11 : Dc cX8_readsFirst 11 (.iconst 0) 1 12 := ⟨by decide +kernel, rfl⟩
theorem e_X8_readsFirst_12 : Dc cX8_readsFirst 12 (.invokevirtual 283) 3 15 := ⟨by decide +kernel, rfl⟩
theorem e_X8_readsFirst_15 : Dc cX8_readsFirst 15 (.ifCond .ne 5) 3 18 := ⟨by decide +kernel, rfl⟩
theorem e_X8_readsFirst_18 : Dc cX8_readsFirst 18 (.iconst 0) 1 19 := ⟨by decide +kernel, rfl⟩
theorem e_X8_readsFirst_19 : Dc cX8_readsFirst 19 (.ireturn) 1 20 := ⟨by decide +kernel, rfl⟩
theorem e_X8_readsFirst_20 : Dc cX8_readsFirst 20 (.aload_n 0) 1 21 := ⟨by decide +kernel, rfl⟩
theorem e_X8_readsFirst_21 : Dc cX8_readsFirst 21 (.invokevirtual 280) 3 24 := ⟨by decide +kernel, rfl⟩
theorem e_X8_readsFirst_24 : Dc cX8_readsFirst 24 (.aload_n 0) 1 25 := ⟨by decide +kernel, rfl⟩
theorem e_X8_readsFirst_25 : Dc cX8_readsFirst 25 (.iconst 0) 1 26 := ⟨by decide +kernel, rfl⟩
theorem e_X8_readsFirst_26 : Dc cX8_readsFirst 26 (.iconst 0) 1 27 := ⟨by decide +kernel, rfl⟩
theorem e_X8_readsFirst_27 : Dc cX8_readsFirst 27 (.iconst 2) 1 28 := ⟨by decide +kernel, rfl⟩
theorem e_X8_readsFirst_28 : Dc cX8_readsFirst 28 (.invokevirtual 287) 3 31 := ⟨by decide +kernel, rfl⟩
theorem e_X8_readsFirst_31 : Dc cX8_readsFirst 31 (.istore_n 1) 1 32 := ⟨by decide +kernel, rfl⟩
theorem e_X8_readsFirst_32 : Dc cX8_readsFirst 32 (.aload_n 0) 1 33 := ⟨by decide +kernel, rfl⟩
theorem e_X8_readsFirst_33 : Dc cX8_readsFirst 33 (.getfield 65) 3 36 := ⟨by decide +kernel, rfl⟩
theorem e_X8_readsFirst_36 : Dc cX8_readsFirst 36 (.iload_n 1) 1 37 := ⟨by decide +kernel, rfl⟩
theorem e_X8_readsFirst_37 : Dc cX8_readsFirst 37 (.ifCond .eq 12) 3 40 := ⟨by decide +kernel, rfl⟩
theorem e_X8_readsFirst_40 : Dc cX8_readsFirst 40 (.aload_n 0) 1 41 := ⟨by decide +kernel, rfl⟩
theorem e_X8_readsFirst_41 : Dc cX8_readsFirst 41 (.getfield 68) 3 44 := ⟨by decide +kernel, rfl⟩
theorem e_X8_readsFirst_44 : Dc cX8_readsFirst 44 (.iconst 0) 1 45 := ⟨by decide +kernel, rfl⟩
theorem e_X8_readsFirst_45 : Dc cX8_readsFirst 45 (.iaload) 1 46 := ⟨by decide +kernel, rfl⟩
theorem e_X8_readsFirst_46 : Dc cX8_readsFirst 46 (.goto 4) 3 49 := ⟨by decide +kernel, rfl⟩
theorem e_X8_readsFirst_49 : Dc cX8_readsFirst 49 (.iconst 0) 1 50 := ⟨by decide +kernel, rfl⟩
theorem e_X8_readsFirst_50 : Dc cX8_readsFirst 50 (.invokestatic 92) 3 53 := ⟨by decide +kernel, rfl⟩
theorem e_X8_readsFirst_53 : Dc cX8_readsFirst 53 (.iload_n 1) 1 54 := ⟨by decide +kernel, rfl⟩
theorem e_X8_readsFirst_54 : Dc cX8_readsFirst 54 (.ifCond .eq 15) 3 57 := ⟨by decide +kernel, rfl⟩
theorem e_X8_readsFirst_57 : Dc cX8_readsFirst 57 (.aload_n 0) 1 58 := ⟨by decide +kernel, rfl⟩
theorem e_X8_readsFirst_58 : Dc cX8_readsFirst 58 (.getfield 265) 3 61 := ⟨by decide +kernel, rfl⟩
theorem e_X8_readsFirst_61 : Dc cX8_readsFirst 61 (.iconst 3) 1 62 := ⟨by decide +kernel, rfl⟩
theorem e_X8_readsFirst_62 : Dc cX8_readsFirst 62 (.if_icmp .ne 7) 3 65 := ⟨by decide +kernel, rfl⟩
theorem e_X8_readsFirst_65 : Dc cX8_readsFirst 65 (.iconst 1) 1 66 := ⟨by decide +kernel, rfl⟩
theorem e_X8_readsFirst_66 : Dc cX8_readsFirst 66 (.goto 4) 3 69 := ⟨by decide +kernel, rfl⟩
theorem e_X8_readsFirst_69 : Dc cX8_readsFirst 69 (.iconst 0) 1 70 := ⟨by decide +kernel, rfl⟩
theorem e_X8_readsFirst_70 : Dc cX8_readsFirst 70 (.ireturn) 1 71 := ⟨by decide +kernel, rfl⟩
set_option maxHeartbeats 4000000 in
set_option maxRecDepth 20000 in
theorem R_X8_readsFirst (hD : DD E) (s : Sg) : ∀ v τ, (f_X8_readsFirst s) = some (v, τ) → RI l E 5 M_X8_readsFirst [.ref (ead E 70)] s v τ := by
  refine ofI hD (by decide +kernel) (Nat.le_of_ble_eq_true rfl) (fun X C => ?_)
  show MF l E X (fun q : Int32 × Sg => QI E X q.1 q.2) (f_X8_readsFirst s) s 0 [(0, .ref (ead E 70))] []
  unfold f_X8_readsFirst
  refine MF.aload_n C e_X8_readsFirst_0 0 rfl rfl ?_
  refine MF.iconst (v := (nI 4)) C e_X8_readsFirst_1 rfl ?_
  refine MF.bipush (v := (nI 116)) C e_X8_readsFirst_2 (by decide) ?_
  refine MF.bipush (v := (nI 111)) C e_X8_readsFirst_4 (by decide) ?_
  refine MF.bipush (v := (nI 119)) C e_X8_readsFirst_6 (by decide) ?_
  refine MF.bipush (v := (nI 110)) C e_X8_readsFirst_8 (by decide) ?_
  refine MF.iconst (v := (nI 0)) C e_X8_readsFirst_10 rfl ?_
  refine MF.iconst (v := (nI 0)) C e_X8_readsFirst_11 rfl ?_
  refine MF.callVP (As := [.int (nI 4), .int (nI 116), .int (nI 111), .int (nI 119), .int (nI 110), .int (nI 0), .int (nI 0)]) C (R_X8_isCalled hD (nI 4) (nI 116) (nI 111) (nI 119) (nI 110) (nI 0) (nI 0) s) m_X8_isCalled k_X8_283 kO_70 rfl (by decide) e_X8_readsFirst_12 rfl rfl (Nat.le_of_ble_eq_true rfl) (fun v1 => ?_)
  refine MF.if_ne (tgt := 20) C e_X8_readsFirst_15 (by decide) (fun _ => ?_) (fun _ => ?_)
  · refine MF.aload_n C e_X8_readsFirst_20 0 rfl rfl ?_
    refine MF.callVU (As := []) C (R_X8_goOn hD s) m_X8_goOn k_X8_280 kO_70 rfl (by decide) e_X8_readsFirst_21 rfl rfl (Nat.le_of_ble_eq_true rfl) (fun s2 => ?_)
    refine MF.aload_n C e_X8_readsFirst_24 0 rfl rfl ?_
    refine MF.iconst (v := (nI 0)) C e_X8_readsFirst_25 rfl ?_
    refine MF.iconst (v := (nI 0)) C e_X8_readsFirst_26 rfl ?_
    refine MF.iconst (v := (nI 2)) C e_X8_readsFirst_27 rfl ?_
    refine MF.callVI (As := [.int (nI 0), .int (nI 0), .int (nI 2)]) C (R_X8_takes hD (nI 0) (nI 0) (nI 2) s2) m_X8_takes k_X8_287 kO_70 rfl (by decide) e_X8_readsFirst_28 rfl rfl (Nat.le_of_ble_eq_true rfl) (fun v3 s4 => ?_)
    refine MF.istore_n (lv' := [(0, .ref (ead E 70)), (1, .int v3)]) C e_X8_readsFirst_31 (by decide) rfl ?_
    refine MF.aload_n C e_X8_readsFirst_32 0 rfl rfl ?_
    refine MF.getR (j := 89) C cf_X8 l_X8_65 e_X8_readsFirst_33 kF_70_27 ?_
    refine MF.iload_n C e_X8_readsFirst_36 1 rfl rfl ?_
    refine MF.join (fun j : Int32 → Option (Int32 × Sg) => ∀ (a5 : Int32), MF l E X (fun q : Int32 × Sg => QI E X q.1 q.2) (j a5) s4 50 [(0, .ref (ead E 70)), (1, .int v3)] [.int a5, .ref (ead E 89)]) ?_ (fun j6 hj6 => ?_)
    · intro a5
      refine MF.callSU (As := [.ref (ead E 89), .int a5]) C (R_X8_begin hD 89 a5 kA_89 s4) m_X8_begin k_X8_92 (by decide) e_X8_readsFirst_50 rfl rfl (Nat.le_of_ble_eq_true rfl) (fun s7 => ?_)
      refine MF.iload_n C e_X8_readsFirst_53 1 rfl rfl ?_
      refine MF.if_eq (tgt := 69) C e_X8_readsFirst_54 (by decide) (fun _ => ?_) (fun _ => ?_)
      · refine MF.iconst (v := (nI 0)) C e_X8_readsFirst_69 rfl ?_
        exact MF.nret C e_X8_readsFirst_70 rfl
      · refine MF.aload_n C e_X8_readsFirst_57 0 rfl rfl ?_
        refine MF.get C cf_X8 l_X8_265 e_X8_readsFirst_58 kF_70_25 ?_
        refine MF.iconst (v := (nI 3)) C e_X8_readsFirst_61 rfl ?_
        refine MF.icmp_ne (tgt := 69) C e_X8_readsFirst_62 (by decide) (fun _ => ?_) (fun _ => ?_)
        · refine MF.iconst (v := (nI 0)) C e_X8_readsFirst_69 rfl ?_
          exact MF.nret C e_X8_readsFirst_70 rfl
        · refine MF.iconst (v := (nI 1)) C e_X8_readsFirst_65 rfl ?_
          refine MF.goto (tgt := 70) C e_X8_readsFirst_66 (by decide) ?_
          exact MF.nret C e_X8_readsFirst_70 rfl
    refine MF.if_eq (tgt := 49) C e_X8_readsFirst_37 (by decide) (fun _ => ?_) (fun _ => ?_)
    · refine MF.iconst (v := (nI 0)) C e_X8_readsFirst_49 rfl ?_
      exact hj6 (nI 0)
    · refine MF.aload_n C e_X8_readsFirst_40 0 rfl rfl ?_
      refine MF.getR (j := 90) C cf_X8 l_X8_68 e_X8_readsFirst_41 kF_70_28 ?_
      refine MF.iconst (v := (nI 0)) C e_X8_readsFirst_44 rfl ?_
      refine MF.iald C e_X8_readsFirst_45 kA_90 (fun v8 => ?_)
      refine MF.goto (tgt := 50) C e_X8_readsFirst_46 (by decide) ?_
      exact hj6 v8
  · refine MF.iconst (v := (nI 0)) C e_X8_readsFirst_18 rfl ?_
    exact MF.nret C e_X8_readsFirst_19 rfl
theorem e_X8_readsStreet_0 : Dc cX8_readsStreet 0 (.aload_n 0) 1 1 := ⟨by decide +kernel, rfl⟩
theorem e_X8_readsStreet_1 : Dc cX8_readsStreet 1 (.getfield 65) 3 4 := ⟨by decide +kernel, rfl⟩
theorem e_X8_readsStreet_4 : Dc cX8_readsStreet 4 (.iconst 0) 1 5 := ⟨by decide +kernel, rfl⟩
theorem e_X8_readsStreet_5 : Dc cX8_readsStreet 5 (.iaload) 1 6 := ⟨by decide +kernel, rfl⟩
theorem e_X8_readsStreet_6 : Dc cX8_readsStreet 6 (.bipush 7) 2 8 := ⟨by decide +kernel, rfl⟩
theorem e_X8_readsStreet_8 : Dc cX8_readsStreet 8 (.if_icmp .ne 5) 3 11 := ⟨by decide +kernel, rfl⟩
theorem e_X8_readsStreet_11 : Dc cX8_readsStreet 11 (.iconst 0) 1 12 := ⟨by decide +kernel, rfl⟩
theorem e_X8_readsStreet_12 : Dc cX8_readsStreet 12 (.ireturn) 1 13 := ⟨by decide +kernel, rfl⟩
theorem e_X8_readsStreet_13 : Dc cX8_readsStreet 13 (.aload_n 0) 1 14 := ⟨by decide +kernel, rfl⟩
theorem e_X8_readsStreet_14 : Dc cX8_readsStreet 14 (.invokevirtual 280) 3 17 := ⟨by decide +kernel, rfl⟩
theorem e_X8_readsStreet_17 : Dc cX8_readsStreet 17 (.aload_n 0) 1 18 := ⟨by decide +kernel, rfl⟩
theorem e_X8_readsStreet_18 : Dc cX8_readsStreet 18 (.iconst 0) 1 19 := ⟨by decide +kernel, rfl⟩
theorem e_X8_readsStreet_19 : Dc cX8_readsStreet 19 (.iconst 0) 1 20 := ⟨by decide +kernel, rfl⟩
theorem e_X8_readsStreet_20 : Dc cX8_readsStreet 20 (.bipush 7) 2 22 := ⟨by decide +kernel, rfl⟩
theorem e_X8_readsStreet_22 : Dc cX8_readsStreet 22 (.invokevirtual 287) 3 25 := ⟨by decide +kernel, rfl⟩
theorem e_X8_readsStreet_25 : Dc cX8_readsStreet 25 (.ifCond .eq 57) 3 28 := ⟨by decide +kernel, rfl⟩
theorem e_X8_readsStreet_28 : Dc cX8_readsStreet 28 (.aload_n 0) 1 29 := ⟨by decide +kernel, rfl⟩
theorem e_X8_readsStreet_29 : Dc cX8_readsStreet 29 (.getfield 265) 3 32 := ⟨by decide +kernel, rfl⟩
theorem e_X8_readsStreet_32 : Dc cX8_readsStreet 32 (.iconst 2) 1 33 := ⟨by decide +kernel, rfl⟩
theorem e_X8_readsStreet_33 : Dc cX8_readsStreet 33 (.if_icmp .ne 16) 3 36 := ⟨by decide +kernel, rfl⟩
theorem e_X8_readsStreet_36 : Dc cX8_readsStreet 36 (.aload_n 0) 1 37 := ⟨by decide +kernel, rfl⟩
theorem e_X8_readsStreet_37 : Dc cX8_readsStreet 37 (.getfield 268) 3 40 := ⟨by decide +kernel, rfl⟩
theorem e_X8_readsStreet_40 : Dc cX8_readsStreet 40 (.aload_n 0) 1 41 := ⟨by decide +kernel, rfl⟩
theorem e_X8_readsStreet_41 : Dc cX8_readsStreet 41 (.getfield 68) 3 44 := ⟨by decide +kernel, rfl⟩
theorem e_X8_readsStreet_44 : Dc cX8_readsStreet 44 (.iconst 0) 1 45 := ⟨by decide +kernel, rfl⟩
theorem e_X8_readsStreet_45 : Dc cX8_readsStreet 45 (.iaload) 1 46 := ⟨by decide +kernel, rfl⟩
theorem e_X8_readsStreet_46 : Dc cX8_readsStreet 46 (.if_icmp .eq 36) 3 49 := ⟨by decide +kernel, rfl⟩
theorem e_X8_readsStreet_49 : Dc cX8_readsStreet 49 (.aload_n 0) 1 50 := ⟨by decide +kernel, rfl⟩
theorem e_X8_readsStreet_50 : Dc cX8_readsStreet 50 (.iconst 1) 1 51 := ⟨by decide +kernel, rfl⟩
theorem e_X8_readsStreet_51 : Dc cX8_readsStreet 51 (.iconst 0) 1 52 := ⟨by decide +kernel, rfl⟩
theorem e_X8_readsStreet_52 : Dc cX8_readsStreet 52 (.bipush 7) 2 54 := ⟨by decide +kernel, rfl⟩
theorem e_X8_readsStreet_54 : Dc cX8_readsStreet 54 (.invokevirtual 287) 3 57 := ⟨by decide +kernel, rfl⟩
theorem e_X8_readsStreet_57 : Dc cX8_readsStreet 57 (.ifCond .eq 25) 3 60 := ⟨by decide +kernel, rfl⟩
theorem e_X8_readsStreet_60 : Dc cX8_readsStreet 60 (.aload_n 0) 1 61 := ⟨by decide +kernel, rfl⟩
theorem e_X8_readsStreet_61 : Dc cX8_readsStreet 61 (.iconst 2) 1 62 := ⟨by decide +kernel, rfl⟩
theorem e_X8_readsStreet_62 : Dc cX8_readsStreet 62 (.iconst 1) 1 63 := ⟨by decide +kernel, rfl⟩
theorem e_X8_readsStreet_63 : Dc cX8_readsStreet 63 (.bipush 9) 2 65 := ⟨by decide +kernel, rfl⟩
theorem e_X8_readsStreet_65 : Dc cX8_readsStreet 65 (.invokevirtual 287) 3 68 := ⟨by decide +kernel, rfl⟩
theorem e_X8_readsStreet_68 : Dc cX8_readsStreet 68 (.ifCond .eq 14) 3 71 := ⟨by decide +kernel, rfl⟩
theorem e_X8_readsStreet_71 : Dc cX8_readsStreet 71 (.aload_n 0) 1 72 := ⟨by decide +kernel, rfl⟩
theorem e_X8_readsStreet_72 : Dc cX8_readsStreet 72 (.iconst 3) 1 73 := ⟨by decide +kernel, rfl⟩
theorem e_X8_readsStreet_73 : Dc cX8_readsStreet 73 (.iconst 0) 1 74 := ⟨by decide +kernel, rfl⟩
theorem e_X8_readsStreet_74 : Dc cX8_readsStreet 74 (.bipush 15) 2 76 := ⟨by decide +kernel, rfl⟩
theorem e_X8_readsStreet_76 : Dc cX8_readsStreet 76 (.invokevirtual 287) 3 79 := ⟨by decide +kernel, rfl⟩
theorem e_X8_readsStreet_79 : Dc cX8_readsStreet 79 (.ifCond .ne 5) 3 82 := ⟨by decide +kernel, rfl⟩
theorem e_X8_readsStreet_82 : Dc cX8_readsStreet 82 (.iconst 0) 1 83 := ⟨by decide +kernel, rfl⟩
theorem e_X8_readsStreet_83 : Dc cX8_readsStreet 83 (.ireturn) 1 84 := ⟨by decide +kernel, rfl⟩
theorem e_X8_readsStreet_84 : Dc cX8_readsStreet 84 (.aload_n 0) 1 85 := ⟨by decide +kernel, rfl⟩
theorem e_X8_readsStreet_85 : Dc cX8_readsStreet 85 (.getfield 65) 3 88 := ⟨by decide +kernel, rfl⟩
theorem e_X8_readsStreet_88 : Dc cX8_readsStreet 88 (.aload_n 0) 1 89 := ⟨by decide +kernel, rfl⟩
theorem e_X8_readsStreet_89 : Dc cX8_readsStreet 89 (.getfield 68) 3 92 := ⟨by decide +kernel, rfl⟩
theorem e_X8_readsStreet_92 : Dc cX8_readsStreet 92 (.iconst 0) 1 93 := ⟨by decide +kernel, rfl⟩
theorem e_X8_readsStreet_93 : Dc cX8_readsStreet 93 (.iaload) 1 94 := ⟨by decide +kernel, rfl⟩
theorem e_X8_readsStreet_94 : Dc cX8_readsStreet 94 (.aload_n 0) 1 95 := ⟨by decide +kernel, rfl⟩
theorem e_X8_readsStreet_95 : Dc cX8_readsStreet 95 (.getfield 68) 3 98 := ⟨by decide +kernel, rfl⟩
theorem e_X8_readsStreet_98 : Dc cX8_readsStreet 98 (.iconst 1) 1 99 := ⟨by decide +kernel, rfl⟩
theorem e_X8_readsStreet_99 : Dc cX8_readsStreet 99 (.iaload) 1 100 := ⟨by decide +kernel, rfl⟩
theorem e_X8_readsStreet_100 : Dc cX8_readsStreet 100 (.aload_n 0) 1 101 := ⟨by decide +kernel, rfl⟩
theorem e_X8_readsStreet_101 : Dc cX8_readsStreet 101 (.getfield 68) 3 104 := ⟨by decide +kernel, rfl⟩
theorem e_X8_readsStreet_104 : Dc cX8_readsStreet 104 (.iconst 2) 1 105 := ⟨by decide +kernel, rfl⟩
theorem e_X8_readsStreet_105 : Dc cX8_readsStreet 105 (.iaload) 1 106 := ⟨by decide +kernel, rfl⟩
theorem e_X8_readsStreet_106 : Dc cX8_readsStreet 106 (.aload_n 0) 1 107 := ⟨by decide +kernel, rfl⟩
theorem e_X8_readsStreet_107 : Dc cX8_readsStreet 107 (.getfield 68) 3 110 := ⟨by decide +kernel, rfl⟩
theorem e_X8_readsStreet_110 : Dc cX8_readsStreet 110 (.iconst 3) 1 111 := ⟨by decide +kernel, rfl⟩
theorem e_X8_readsStreet_111 : Dc cX8_readsStreet 111 (.iaload) 1 112 := ⟨by decide +kernel, rfl⟩
theorem e_X8_readsStreet_112 : Dc cX8_readsStreet 112 (.invokestatic 107) 3 115 := ⟨by decide +kernel, rfl⟩
theorem e_X8_readsStreet_115 : Dc cX8_readsStreet 115 (.iconst 1) 1 116 := ⟨by decide +kernel, rfl⟩
theorem e_X8_readsStreet_116 : Dc cX8_readsStreet 116 (.ireturn) 1 117 := ⟨by decide +kernel, rfl⟩
set_option maxHeartbeats 4000000 in
set_option maxRecDepth 20000 in
theorem R_X8_readsStreet (hD : DD E) (s : Sg) : ∀ v τ, (f_X8_readsStreet s) = some (v, τ) → RI l E 5 M_X8_readsStreet [.ref (ead E 70)] s v τ := by
  refine ofI hD (by decide +kernel) (Nat.le_of_ble_eq_true rfl) (fun X C => ?_)
  show MF l E X (fun q : Int32 × Sg => QI E X q.1 q.2) (f_X8_readsStreet s) s 0 [(0, .ref (ead E 70))] []
  unfold f_X8_readsStreet
  refine MF.aload_n C e_X8_readsStreet_0 0 rfl rfl ?_
  refine MF.getR (j := 89) C cf_X8 l_X8_65 e_X8_readsStreet_1 kF_70_27 ?_
  refine MF.iconst (v := (nI 0)) C e_X8_readsStreet_4 rfl ?_
  refine MF.iald C e_X8_readsStreet_5 kA_89 (fun v1 => ?_)
  refine MF.bipush (v := (nI 7)) C e_X8_readsStreet_6 (by decide) ?_
  refine MF.icmp_ne (tgt := 13) C e_X8_readsStreet_8 (by decide) (fun _ => ?_) (fun _ => ?_)
  · refine MF.aload_n C e_X8_readsStreet_13 0 rfl rfl ?_
    refine MF.callVU (As := []) C (R_X8_goOn hD s) m_X8_goOn k_X8_280 kO_70 rfl (by decide) e_X8_readsStreet_14 rfl rfl (Nat.le_of_ble_eq_true rfl) (fun s2 => ?_)
    refine MF.aload_n C e_X8_readsStreet_17 0 rfl rfl ?_
    refine MF.iconst (v := (nI 0)) C e_X8_readsStreet_18 rfl ?_
    refine MF.iconst (v := (nI 0)) C e_X8_readsStreet_19 rfl ?_
    refine MF.bipush (v := (nI 7)) C e_X8_readsStreet_20 (by decide) ?_
    refine MF.callVI (As := [.int (nI 0), .int (nI 0), .int (nI 7)]) C (R_X8_takes hD (nI 0) (nI 0) (nI 7) s2) m_X8_takes k_X8_287 kO_70 rfl (by decide) e_X8_readsStreet_22 rfl rfl (Nat.le_of_ble_eq_true rfl) (fun v3 s4 => ?_)
    refine MF.if_eq (tgt := 82) C e_X8_readsStreet_25 (by decide) (fun _ => ?_) (fun _ => ?_)
    · refine MF.iconst (v := (nI 0)) C e_X8_readsStreet_82 rfl ?_
      exact MF.nret C e_X8_readsStreet_83 rfl
    · refine MF.aload_n C e_X8_readsStreet_28 0 rfl rfl ?_
      refine MF.get C cf_X8 l_X8_265 e_X8_readsStreet_29 kF_70_25 ?_
      refine MF.iconst (v := (nI 2)) C e_X8_readsStreet_32 rfl ?_
      refine MF.join (fun j : Unit → Option (Int32 × Sg) => ∀ (_u : Unit), MF l E X (fun q : Int32 × Sg => QI E X q.1 q.2) (j _u) s4 49 [(0, .ref (ead E 70))] []) ?_ (fun j5 hj5 => ?_)
      · intro _
        refine MF.aload_n C e_X8_readsStreet_49 0 rfl rfl ?_
        refine MF.iconst (v := (nI 1)) C e_X8_readsStreet_50 rfl ?_
        refine MF.iconst (v := (nI 0)) C e_X8_readsStreet_51 rfl ?_
        refine MF.bipush (v := (nI 7)) C e_X8_readsStreet_52 (by decide) ?_
        refine MF.callVI (As := [.int (nI 1), .int (nI 0), .int (nI 7)]) C (R_X8_takes hD (nI 1) (nI 0) (nI 7) s4) m_X8_takes k_X8_287 kO_70 rfl (by decide) e_X8_readsStreet_54 rfl rfl (Nat.le_of_ble_eq_true rfl) (fun v6 s7 => ?_)
        refine MF.if_eq (tgt := 82) C e_X8_readsStreet_57 (by decide) (fun _ => ?_) (fun _ => ?_)
        · refine MF.iconst (v := (nI 0)) C e_X8_readsStreet_82 rfl ?_
          exact MF.nret C e_X8_readsStreet_83 rfl
        · refine MF.aload_n C e_X8_readsStreet_60 0 rfl rfl ?_
          refine MF.iconst (v := (nI 2)) C e_X8_readsStreet_61 rfl ?_
          refine MF.iconst (v := (nI 1)) C e_X8_readsStreet_62 rfl ?_
          refine MF.bipush (v := (nI 9)) C e_X8_readsStreet_63 (by decide) ?_
          refine MF.callVI (As := [.int (nI 2), .int (nI 1), .int (nI 9)]) C (R_X8_takes hD (nI 2) (nI 1) (nI 9) s7) m_X8_takes k_X8_287 kO_70 rfl (by decide) e_X8_readsStreet_65 rfl rfl (Nat.le_of_ble_eq_true rfl) (fun v8 s9 => ?_)
          refine MF.if_eq (tgt := 82) C e_X8_readsStreet_68 (by decide) (fun _ => ?_) (fun _ => ?_)
          · refine MF.iconst (v := (nI 0)) C e_X8_readsStreet_82 rfl ?_
            exact MF.nret C e_X8_readsStreet_83 rfl
          · refine MF.aload_n C e_X8_readsStreet_71 0 rfl rfl ?_
            refine MF.iconst (v := (nI 3)) C e_X8_readsStreet_72 rfl ?_
            refine MF.iconst (v := (nI 0)) C e_X8_readsStreet_73 rfl ?_
            refine MF.bipush (v := (nI 15)) C e_X8_readsStreet_74 (by decide) ?_
            refine MF.callVI (As := [.int (nI 3), .int (nI 0), .int (nI 15)]) C (R_X8_takes hD (nI 3) (nI 0) (nI 15) s9) m_X8_takes k_X8_287 kO_70 rfl (by decide) e_X8_readsStreet_76 rfl rfl (Nat.le_of_ble_eq_true rfl) (fun v10 s11 => ?_)
            refine MF.if_ne (tgt := 84) C e_X8_readsStreet_79 (by decide) (fun _ => ?_) (fun _ => ?_)
            · refine MF.aload_n C e_X8_readsStreet_84 0 rfl rfl ?_
              refine MF.getR (j := 89) C cf_X8 l_X8_65 e_X8_readsStreet_85 kF_70_27 ?_
              refine MF.aload_n C e_X8_readsStreet_88 0 rfl rfl ?_
              refine MF.getR (j := 90) C cf_X8 l_X8_68 e_X8_readsStreet_89 kF_70_28 ?_
              refine MF.iconst (v := (nI 0)) C e_X8_readsStreet_92 rfl ?_
              refine MF.iald C e_X8_readsStreet_93 kA_90 (fun v12 => ?_)
              refine MF.aload_n C e_X8_readsStreet_94 0 rfl rfl ?_
              refine MF.getR (j := 90) C cf_X8 l_X8_68 e_X8_readsStreet_95 kF_70_28 ?_
              refine MF.iconst (v := (nI 1)) C e_X8_readsStreet_98 rfl ?_
              refine MF.iald C e_X8_readsStreet_99 kA_90 (fun v13 => ?_)
              refine MF.aload_n C e_X8_readsStreet_100 0 rfl rfl ?_
              refine MF.getR (j := 90) C cf_X8 l_X8_68 e_X8_readsStreet_101 kF_70_28 ?_
              refine MF.iconst (v := (nI 2)) C e_X8_readsStreet_104 rfl ?_
              refine MF.iald C e_X8_readsStreet_105 kA_90 (fun v14 => ?_)
              refine MF.aload_n C e_X8_readsStreet_106 0 rfl rfl ?_
              refine MF.getR (j := 90) C cf_X8 l_X8_68 e_X8_readsStreet_107 kF_70_28 ?_
              refine MF.iconst (v := (nI 3)) C e_X8_readsStreet_110 rfl ?_
              refine MF.iald C e_X8_readsStreet_111 kA_90 (fun v15 => ?_)
              refine MF.callSU (As := [.ref (ead E 89), .int v12, .int v13, .int v14, .int v15]) C (R_X8_layStreet hD 89 v12 v13 v14 v15 kA_89 s11) m_X8_layStreet k_X8_107 (by decide) e_X8_readsStreet_112 rfl rfl (Nat.le_of_ble_eq_true rfl) (fun s16 => ?_)
              refine MF.iconst (v := (nI 1)) C e_X8_readsStreet_115 rfl ?_
              exact MF.nret C e_X8_readsStreet_116 rfl
            · refine MF.iconst (v := (nI 0)) C e_X8_readsStreet_82 rfl ?_
              exact MF.nret C e_X8_readsStreet_83 rfl
      refine MF.icmp_ne (tgt := 49) C e_X8_readsStreet_33 (by decide) (fun _ => ?_) (fun _ => ?_)
      · exact hj5 ()
      · refine MF.aload_n C e_X8_readsStreet_36 0 rfl rfl ?_
        refine MF.get C cf_X8 l_X8_268 e_X8_readsStreet_37 kF_70_26 ?_
        refine MF.aload_n C e_X8_readsStreet_40 0 rfl rfl ?_
        refine MF.getR (j := 90) C cf_X8 l_X8_68 e_X8_readsStreet_41 kF_70_28 ?_
        refine MF.iconst (v := (nI 0)) C e_X8_readsStreet_44 rfl ?_
        refine MF.iald C e_X8_readsStreet_45 kA_90 (fun v17 => ?_)
        refine MF.icmp_eq (tgt := 82) C e_X8_readsStreet_46 (by decide) (fun _ => ?_) (fun _ => ?_)
        · refine MF.iconst (v := (nI 0)) C e_X8_readsStreet_82 rfl ?_
          exact MF.nret C e_X8_readsStreet_83 rfl
        · exact hj5 ()
  · refine MF.iconst (v := (nI 0)) C e_X8_readsStreet_11 rfl ?_
    exact MF.nret C e_X8_readsStreet_12 rfl
theorem e_X8_readsEvent_0 : Dc cX8_readsEvent 0 (.aload_n 0) 1 1 := ⟨by decide +kernel, rfl⟩
theorem e_X8_readsEvent_1 : Dc cX8_readsEvent 1 (.getfield 65) 3 4 := ⟨by decide +kernel, rfl⟩
theorem e_X8_readsEvent_4 : Dc cX8_readsEvent 4 (.iconst 1) 1 5 := ⟨by decide +kernel, rfl⟩
theorem e_X8_readsEvent_5 : Dc cX8_readsEvent 5 (.iaload) 1 6 := ⟨by decide +kernel, rfl⟩
theorem e_X8_readsEvent_6 : Dc cX8_readsEvent 6 (.bipush 8) 2 8 := ⟨by decide +kernel, rfl⟩
theorem e_X8_readsEvent_8 : Dc cX8_readsEvent 8 (.if_icmp .ne 5) 3 11 := ⟨by decide +kernel, rfl⟩
theorem e_X8_readsEvent_11 : Dc cX8_readsEvent 11 (.iconst 0) 1 12 := ⟨by decide +kernel, rfl⟩
theorem e_X8_readsEvent_12 : Dc cX8_readsEvent 12 (.ireturn) 1 13 := ⟨by decide +kernel, rfl⟩
theorem e_X8_readsEvent_13 : Dc cX8_readsEvent 13 (.aload_n 0) 1 14 := ⟨by decide +kernel, rfl⟩
theorem e_X8_readsEvent_14 : Dc cX8_readsEvent 14 (.invokevirtual 280) 3 17 := ⟨by decide +kernel, rfl⟩
theorem e_X8_readsEvent_17 : Dc cX8_readsEvent 17 (.aload_n 0) 1 18 := ⟨by decide +kernel, rfl⟩
theorem e_X8_readsEvent_18 : Dc cX8_readsEvent 18 (.iconst 0) 1 19 := ⟨by decide +kernel, rfl⟩
theorem e_X8_readsEvent_19 : Dc cX8_readsEvent 19 (.iconst 0) 1 20 := ⟨by decide +kernel, rfl⟩
theorem e_X8_readsEvent_20 : Dc cX8_readsEvent 20 (.iconst 5) 1 21 := ⟨by decide +kernel, rfl⟩
theorem e_X8_readsEvent_21 : Dc cX8_readsEvent 21 (.invokevirtual 287) 3 24 := ⟨by decide +kernel, rfl⟩
theorem e_X8_readsEvent_24 : Dc cX8_readsEvent 24 (.ifCond .eq 64) 3 27 := ⟨by decide +kernel, rfl⟩
theorem e_X8_readsEvent_27 : Dc cX8_readsEvent 27 (.aload_n 0) 1 28 := ⟨by decide +kernel, rfl⟩
theorem e_X8_readsEvent_28 : Dc cX8_readsEvent 28 (.iconst 1) 1 29 := ⟨by decide +kernel, rfl⟩
theorem e_X8_readsEvent_29 : Dc cX8_readsEvent 29 (.iconst 0) 1 30 := ⟨by decide +kernel, rfl⟩
theorem e_X8_readsEvent_30 : Dc cX8_readsEvent 30 (.aload_n 0) 1 31 := ⟨by decide +kernel, rfl⟩
theorem e_X8_readsEvent_31 : Dc cX8_readsEvent 31 (.getfield 65) 3 34 := ⟨by decide +kernel, rfl⟩
theorem e_X8_readsEvent_34 : Dc cX8_readsEvent 34 (.iconst 0) 1 35 := ⟨by decide +kernel, rfl⟩
theorem e_X8_readsEvent_35 : Dc cX8_readsEvent 35 (.iaload) 1 36 := ⟨by decide +kernel, rfl⟩
theorem e_X8_readsEvent_36 : Dc cX8_readsEvent 36 (.iconst 1) 1 37 := ⟨by decide +kernel, rfl⟩
theorem e_X8_readsEvent_37 : Dc cX8_readsEvent 37 (.isub) 1 38 := ⟨by decide +kernel, rfl⟩
theorem e_X8_readsEvent_38 : Dc cX8_readsEvent 38 (.invokevirtual 287) 3 41 := ⟨by decide +kernel, rfl⟩
theorem e_X8_readsEvent_41 : Dc cX8_readsEvent 41 (.ifCond .eq 47) 3 44 := ⟨by decide +kernel, rfl⟩
theorem e_X8_readsEvent_44 : Dc cX8_readsEvent 44 (.aload_n 0) 1 45 := ⟨by decide +kernel, rfl⟩
theorem e_X8_readsEvent_45 : Dc cX8_readsEvent 45 (.iconst 2) 1 46 := ⟨by decide +kernel, rfl⟩
theorem e_X8_readsEvent_46 : Dc cX8_readsEvent 46 (.iconst 0) 1 47 := ⟨by decide +kernel, rfl⟩
theorem e_X8_readsEvent_47 : Dc cX8_readsEvent 47 (.bipush 23) 2 49 := ⟨by decide +kernel, rfl⟩
theorem e_X8_readsEvent_49 : Dc cX8_readsEvent 49 (.invokevirtual 287) 3 52 := ⟨by decide +kernel, rfl⟩
theorem e_X8_readsEvent_52 : Dc cX8_readsEvent 52 (.ifCond .eq 36) 3 55 := ⟨by decide +kernel, rfl⟩
theorem e_X8_readsEvent_55 : Dc cX8_readsEvent 55 (.aload_n 0) 1 56 := ⟨by decide +kernel, rfl⟩
theorem e_X8_readsEvent_56 : Dc cX8_readsEvent 56 (.iconst 3) 1 57 := ⟨by decide +kernel, rfl⟩
theorem e_X8_readsEvent_57 : Dc cX8_readsEvent 57 (.iconst 0) 1 58 := ⟨by decide +kernel, rfl⟩
theorem e_X8_readsEvent_58 : Dc cX8_readsEvent 58 (.bipush 9) 2 60 := ⟨by decide +kernel, rfl⟩
theorem e_X8_readsEvent_60 : Dc cX8_readsEvent 60 (.invokevirtual 287) 3 63 := ⟨by decide +kernel, rfl⟩
theorem e_X8_readsEvent_63 : Dc cX8_readsEvent 63 (.ifCond .eq 25) 3 66 := ⟨by decide +kernel, rfl⟩
theorem e_X8_readsEvent_66 : Dc cX8_readsEvent 66 (.aload_n 0) 1 67 := ⟨by decide +kernel, rfl⟩
theorem e_X8_readsEvent_67 : Dc cX8_readsEvent 67 (.iconst 4) 1 68 := ⟨by decide +kernel, rfl⟩
theorem e_X8_readsEvent_68 : Dc cX8_readsEvent 68 (.iconst 0) 1 69 := ⟨by decide +kernel, rfl⟩
theorem e_X8_readsEvent_69 : Dc cX8_readsEvent 69 (.bipush 9) 2 71 := ⟨by decide +kernel, rfl⟩
theorem e_X8_readsEvent_71 : Dc cX8_readsEvent 71 (.invokevirtual 287) 3 74 := ⟨by decide +kernel, rfl⟩
theorem e_X8_readsEvent_74 : Dc cX8_readsEvent 74 (.ifCond .eq 14) 3 77 := ⟨by decide +kernel, rfl⟩
theorem e_X8_readsEvent_77 : Dc cX8_readsEvent 77 (.aload_n 0) 1 78 := ⟨by decide +kernel, rfl⟩
theorem e_X8_readsEvent_78 : Dc cX8_readsEvent 78 (.iconst 5) 1 79 := ⟨by decide +kernel, rfl⟩
theorem e_X8_readsEvent_79 : Dc cX8_readsEvent 79 (.iconst 0) 1 80 := ⟨by decide +kernel, rfl⟩
theorem e_X8_readsEvent_80 : Dc cX8_readsEvent 80 (.bipush 15) 2 82 := ⟨by decide +kernel, rfl⟩
theorem e_X8_readsEvent_82 : Dc cX8_readsEvent 82 (.invokevirtual 287) 3 85 := ⟨by decide +kernel, rfl⟩
theorem e_X8_readsEvent_85 : Dc cX8_readsEvent 85 (.ifCond .ne 5) 3 88 := ⟨by decide +kernel, rfl⟩
theorem e_X8_readsEvent_88 : Dc cX8_readsEvent 88 (.iconst 0) 1 89 := ⟨by decide +kernel, rfl⟩
theorem e_X8_readsEvent_89 : Dc cX8_readsEvent 89 (.ireturn) 1 90 := ⟨by decide +kernel, rfl⟩
theorem e_X8_readsEvent_90 : Dc cX8_readsEvent 90 (.aload_n 0) 1 91 := ⟨by decide +kernel, rfl⟩
theorem e_X8_readsEvent_91 : Dc cX8_readsEvent 91 (.getfield 65) 3 94 := ⟨by decide +kernel, rfl⟩
theorem e_X8_readsEvent_94 : Dc cX8_readsEvent 94 (.aload_n 0) 1 95 := ⟨by decide +kernel, rfl⟩
theorem e_X8_readsEvent_95 : Dc cX8_readsEvent 95 (.getfield 68) 3 98 := ⟨by decide +kernel, rfl⟩
theorem e_X8_readsEvent_98 : Dc cX8_readsEvent 98 (.iconst 0) 1 99 := ⟨by decide +kernel, rfl⟩
theorem e_X8_readsEvent_99 : Dc cX8_readsEvent 99 (.iaload) 1 100 := ⟨by decide +kernel, rfl⟩
theorem e_X8_readsEvent_100 : Dc cX8_readsEvent 100 (.aload_n 0) 1 101 := ⟨by decide +kernel, rfl⟩
theorem e_X8_readsEvent_101 : Dc cX8_readsEvent 101 (.getfield 68) 3 104 := ⟨by decide +kernel, rfl⟩
theorem e_X8_readsEvent_104 : Dc cX8_readsEvent 104 (.iconst 1) 1 105 := ⟨by decide +kernel, rfl⟩
theorem e_X8_readsEvent_105 : Dc cX8_readsEvent 105 (.iaload) 1 106 := ⟨by decide +kernel, rfl⟩
theorem e_X8_readsEvent_106 : Dc cX8_readsEvent 106 (.aload_n 0) 1 107 := ⟨by decide +kernel, rfl⟩
theorem e_X8_readsEvent_107 : Dc cX8_readsEvent 107 (.getfield 68) 3 110 := ⟨by decide +kernel, rfl⟩
theorem e_X8_readsEvent_110 : Dc cX8_readsEvent 110 (.iconst 2) 1 111 := ⟨by decide +kernel, rfl⟩
theorem e_X8_readsEvent_111 : Dc cX8_readsEvent 111 (.iaload) 1 112 := ⟨by decide +kernel, rfl⟩
theorem e_X8_readsEvent_112 : Dc cX8_readsEvent 112 (.aload_n 0) 1 113 := ⟨by decide +kernel, rfl⟩
theorem e_X8_readsEvent_113 : Dc cX8_readsEvent 113 (.getfield 68) 3 116 := ⟨by decide +kernel, rfl⟩
theorem e_X8_readsEvent_116 : Dc cX8_readsEvent 116 (.iconst 3) 1 117 := ⟨by decide +kernel, rfl⟩
theorem e_X8_readsEvent_117 : Dc cX8_readsEvent 117 (.iaload) 1 118 := ⟨by decide +kernel, rfl⟩
theorem e_X8_readsEvent_118 : Dc cX8_readsEvent 118 (.aload_n 0) 1 119 := ⟨by decide +kernel, rfl⟩
theorem e_X8_readsEvent_119 : Dc cX8_readsEvent 119 (.getfield 68) 3 122 := ⟨by decide +kernel, rfl⟩
theorem e_X8_readsEvent_122 : Dc cX8_readsEvent 122 (.iconst 4) 1 123 := ⟨by decide +kernel, rfl⟩
theorem e_X8_readsEvent_123 : Dc cX8_readsEvent 123 (.iaload) 1 124 := ⟨by decide +kernel, rfl⟩
theorem e_X8_readsEvent_124 : Dc cX8_readsEvent 124 (.aload_n 0) 1 125 := ⟨by decide +kernel, rfl⟩
theorem e_X8_readsEvent_125 : Dc cX8_readsEvent 125 (.getfield 68) 3 128 := ⟨by decide +kernel, rfl⟩
theorem e_X8_readsEvent_128 : Dc cX8_readsEvent 128 (.iconst 5) 1 129 := ⟨by decide +kernel, rfl⟩
theorem e_X8_readsEvent_129 : Dc cX8_readsEvent 129 (.iaload) 1 130 := ⟨by decide +kernel, rfl⟩
theorem e_X8_readsEvent_130 : Dc cX8_readsEvent 130 (.invokestatic 122) 3 133 := ⟨by decide +kernel, rfl⟩
theorem e_X8_readsEvent_133 : Dc cX8_readsEvent 133 (.iconst 1) 1 134 := ⟨by decide +kernel, rfl⟩
theorem e_X8_readsEvent_134 : Dc cX8_readsEvent 134 (.ireturn) 1 135 := ⟨by decide +kernel, rfl⟩
set_option maxHeartbeats 4000000 in
set_option maxRecDepth 20000 in
theorem R_X8_readsEvent (hD : DD E) (s : Sg) : ∀ v τ, (f_X8_readsEvent s) = some (v, τ) → RI l E 5 M_X8_readsEvent [.ref (ead E 70)] s v τ := by
  refine ofI hD (by decide +kernel) (Nat.le_of_ble_eq_true rfl) (fun X C => ?_)
  show MF l E X (fun q : Int32 × Sg => QI E X q.1 q.2) (f_X8_readsEvent s) s 0 [(0, .ref (ead E 70))] []
  unfold f_X8_readsEvent
  refine MF.aload_n C e_X8_readsEvent_0 0 rfl rfl ?_
  refine MF.getR (j := 89) C cf_X8 l_X8_65 e_X8_readsEvent_1 kF_70_27 ?_
  refine MF.iconst (v := (nI 1)) C e_X8_readsEvent_4 rfl ?_
  refine MF.iald C e_X8_readsEvent_5 kA_89 (fun v1 => ?_)
  refine MF.bipush (v := (nI 8)) C e_X8_readsEvent_6 (by decide) ?_
  refine MF.icmp_ne (tgt := 13) C e_X8_readsEvent_8 (by decide) (fun _ => ?_) (fun _ => ?_)
  · refine MF.aload_n C e_X8_readsEvent_13 0 rfl rfl ?_
    refine MF.callVU (As := []) C (R_X8_goOn hD s) m_X8_goOn k_X8_280 kO_70 rfl (by decide) e_X8_readsEvent_14 rfl rfl (Nat.le_of_ble_eq_true rfl) (fun s2 => ?_)
    refine MF.aload_n C e_X8_readsEvent_17 0 rfl rfl ?_
    refine MF.iconst (v := (nI 0)) C e_X8_readsEvent_18 rfl ?_
    refine MF.iconst (v := (nI 0)) C e_X8_readsEvent_19 rfl ?_
    refine MF.iconst (v := (nI 5)) C e_X8_readsEvent_20 rfl ?_
    refine MF.callVI (As := [.int (nI 0), .int (nI 0), .int (nI 5)]) C (R_X8_takes hD (nI 0) (nI 0) (nI 5) s2) m_X8_takes k_X8_287 kO_70 rfl (by decide) e_X8_readsEvent_21 rfl rfl (Nat.le_of_ble_eq_true rfl) (fun v3 s4 => ?_)
    refine MF.if_eq (tgt := 88) C e_X8_readsEvent_24 (by decide) (fun _ => ?_) (fun _ => ?_)
    · refine MF.iconst (v := (nI 0)) C e_X8_readsEvent_88 rfl ?_
      exact MF.nret C e_X8_readsEvent_89 rfl
    · refine MF.aload_n C e_X8_readsEvent_27 0 rfl rfl ?_
      refine MF.iconst (v := (nI 1)) C e_X8_readsEvent_28 rfl ?_
      refine MF.iconst (v := (nI 0)) C e_X8_readsEvent_29 rfl ?_
      refine MF.aload_n C e_X8_readsEvent_30 0 rfl rfl ?_
      refine MF.getR (j := 89) C cf_X8 l_X8_65 e_X8_readsEvent_31 kF_70_27 ?_
      refine MF.iconst (v := (nI 0)) C e_X8_readsEvent_34 rfl ?_
      refine MF.iald C e_X8_readsEvent_35 kA_89 (fun v5 => ?_)
      refine MF.iconst (v := (nI 1)) C e_X8_readsEvent_36 rfl ?_
      refine MF.isub C e_X8_readsEvent_37 ?_
      refine MF.callVI (As := [.int (nI 1), .int (nI 0), .int (v5 - (nI 1))]) C (R_X8_takes hD (nI 1) (nI 0) (v5 - (nI 1)) s4) m_X8_takes k_X8_287 kO_70 rfl (by decide) e_X8_readsEvent_38 rfl rfl (Nat.le_of_ble_eq_true rfl) (fun v6 s7 => ?_)
      refine MF.if_eq (tgt := 88) C e_X8_readsEvent_41 (by decide) (fun _ => ?_) (fun _ => ?_)
      · refine MF.iconst (v := (nI 0)) C e_X8_readsEvent_88 rfl ?_
        exact MF.nret C e_X8_readsEvent_89 rfl
      · refine MF.aload_n C e_X8_readsEvent_44 0 rfl rfl ?_
        refine MF.iconst (v := (nI 2)) C e_X8_readsEvent_45 rfl ?_
        refine MF.iconst (v := (nI 0)) C e_X8_readsEvent_46 rfl ?_
        refine MF.bipush (v := (nI 23)) C e_X8_readsEvent_47 (by decide) ?_
        refine MF.callVI (As := [.int (nI 2), .int (nI 0), .int (nI 23)]) C (R_X8_takes hD (nI 2) (nI 0) (nI 23) s7) m_X8_takes k_X8_287 kO_70 rfl (by decide) e_X8_readsEvent_49 rfl rfl (Nat.le_of_ble_eq_true rfl) (fun v8 s9 => ?_)
        refine MF.if_eq (tgt := 88) C e_X8_readsEvent_52 (by decide) (fun _ => ?_) (fun _ => ?_)
        · refine MF.iconst (v := (nI 0)) C e_X8_readsEvent_88 rfl ?_
          exact MF.nret C e_X8_readsEvent_89 rfl
        · refine MF.aload_n C e_X8_readsEvent_55 0 rfl rfl ?_
          refine MF.iconst (v := (nI 3)) C e_X8_readsEvent_56 rfl ?_
          refine MF.iconst (v := (nI 0)) C e_X8_readsEvent_57 rfl ?_
          refine MF.bipush (v := (nI 9)) C e_X8_readsEvent_58 (by decide) ?_
          refine MF.callVI (As := [.int (nI 3), .int (nI 0), .int (nI 9)]) C (R_X8_takes hD (nI 3) (nI 0) (nI 9) s9) m_X8_takes k_X8_287 kO_70 rfl (by decide) e_X8_readsEvent_60 rfl rfl (Nat.le_of_ble_eq_true rfl) (fun v10 s11 => ?_)
          refine MF.if_eq (tgt := 88) C e_X8_readsEvent_63 (by decide) (fun _ => ?_) (fun _ => ?_)
          · refine MF.iconst (v := (nI 0)) C e_X8_readsEvent_88 rfl ?_
            exact MF.nret C e_X8_readsEvent_89 rfl
          · refine MF.aload_n C e_X8_readsEvent_66 0 rfl rfl ?_
            refine MF.iconst (v := (nI 4)) C e_X8_readsEvent_67 rfl ?_
            refine MF.iconst (v := (nI 0)) C e_X8_readsEvent_68 rfl ?_
            refine MF.bipush (v := (nI 9)) C e_X8_readsEvent_69 (by decide) ?_
            refine MF.callVI (As := [.int (nI 4), .int (nI 0), .int (nI 9)]) C (R_X8_takes hD (nI 4) (nI 0) (nI 9) s11) m_X8_takes k_X8_287 kO_70 rfl (by decide) e_X8_readsEvent_71 rfl rfl (Nat.le_of_ble_eq_true rfl) (fun v12 s13 => ?_)
            refine MF.if_eq (tgt := 88) C e_X8_readsEvent_74 (by decide) (fun _ => ?_) (fun _ => ?_)
            · refine MF.iconst (v := (nI 0)) C e_X8_readsEvent_88 rfl ?_
              exact MF.nret C e_X8_readsEvent_89 rfl
            · refine MF.aload_n C e_X8_readsEvent_77 0 rfl rfl ?_
              refine MF.iconst (v := (nI 5)) C e_X8_readsEvent_78 rfl ?_
              refine MF.iconst (v := (nI 0)) C e_X8_readsEvent_79 rfl ?_
              refine MF.bipush (v := (nI 15)) C e_X8_readsEvent_80 (by decide) ?_
              refine MF.callVI (As := [.int (nI 5), .int (nI 0), .int (nI 15)]) C (R_X8_takes hD (nI 5) (nI 0) (nI 15) s13) m_X8_takes k_X8_287 kO_70 rfl (by decide) e_X8_readsEvent_82 rfl rfl (Nat.le_of_ble_eq_true rfl) (fun v14 s15 => ?_)
              refine MF.if_ne (tgt := 90) C e_X8_readsEvent_85 (by decide) (fun _ => ?_) (fun _ => ?_)
              · refine MF.aload_n C e_X8_readsEvent_90 0 rfl rfl ?_
                refine MF.getR (j := 89) C cf_X8 l_X8_65 e_X8_readsEvent_91 kF_70_27 ?_
                refine MF.aload_n C e_X8_readsEvent_94 0 rfl rfl ?_
                refine MF.getR (j := 90) C cf_X8 l_X8_68 e_X8_readsEvent_95 kF_70_28 ?_
                refine MF.iconst (v := (nI 0)) C e_X8_readsEvent_98 rfl ?_
                refine MF.iald C e_X8_readsEvent_99 kA_90 (fun v16 => ?_)
                refine MF.aload_n C e_X8_readsEvent_100 0 rfl rfl ?_
                refine MF.getR (j := 90) C cf_X8 l_X8_68 e_X8_readsEvent_101 kF_70_28 ?_
                refine MF.iconst (v := (nI 1)) C e_X8_readsEvent_104 rfl ?_
                refine MF.iald C e_X8_readsEvent_105 kA_90 (fun v17 => ?_)
                refine MF.aload_n C e_X8_readsEvent_106 0 rfl rfl ?_
                refine MF.getR (j := 90) C cf_X8 l_X8_68 e_X8_readsEvent_107 kF_70_28 ?_
                refine MF.iconst (v := (nI 2)) C e_X8_readsEvent_110 rfl ?_
                refine MF.iald C e_X8_readsEvent_111 kA_90 (fun v18 => ?_)
                refine MF.aload_n C e_X8_readsEvent_112 0 rfl rfl ?_
                refine MF.getR (j := 90) C cf_X8 l_X8_68 e_X8_readsEvent_113 kF_70_28 ?_
                refine MF.iconst (v := (nI 3)) C e_X8_readsEvent_116 rfl ?_
                refine MF.iald C e_X8_readsEvent_117 kA_90 (fun v19 => ?_)
                refine MF.aload_n C e_X8_readsEvent_118 0 rfl rfl ?_
                refine MF.getR (j := 90) C cf_X8 l_X8_68 e_X8_readsEvent_119 kF_70_28 ?_
                refine MF.iconst (v := (nI 4)) C e_X8_readsEvent_122 rfl ?_
                refine MF.iald C e_X8_readsEvent_123 kA_90 (fun v20 => ?_)
                refine MF.aload_n C e_X8_readsEvent_124 0 rfl rfl ?_
                refine MF.getR (j := 90) C cf_X8 l_X8_68 e_X8_readsEvent_125 kF_70_28 ?_
                refine MF.iconst (v := (nI 5)) C e_X8_readsEvent_128 rfl ?_
                refine MF.iald C e_X8_readsEvent_129 kA_90 (fun v21 => ?_)
                refine MF.callSU (As := [.ref (ead E 89), .int v16, .int v17, .int v18, .int v19, .int v20, .int v21]) C (R_X8_layEvent hD 89 v16 v17 v18 v19 v20 v21 kA_89 s15) m_X8_layEvent k_X8_122 (by decide) e_X8_readsEvent_130 rfl rfl (Nat.le_of_ble_eq_true rfl) (fun s22 => ?_)
                refine MF.iconst (v := (nI 1)) C e_X8_readsEvent_133 rfl ?_
                exact MF.nret C e_X8_readsEvent_134 rfl
              · refine MF.iconst (v := (nI 0)) C e_X8_readsEvent_88 rfl ?_
                exact MF.nret C e_X8_readsEvent_89 rfl
  · refine MF.iconst (v := (nI 0)) C e_X8_readsEvent_11 rfl ?_
    exact MF.nret C e_X8_readsEvent_12 rfl
theorem e_X8_readsRent_0 : Dc cX8_readsRent 0 (.aload_n 0) 1 1 := ⟨by decide +kernel, rfl⟩
theorem e_X8_readsRent_1 : Dc cX8_readsRent 1 (.invokevirtual 280) 3 4 := ⟨by decide +kernel, rfl⟩
theorem e_X8_readsRent_4 : Dc cX8_readsRent 4 (.aload_n 0) 1 5 := ⟨by decide +kernel, rfl⟩
theorem e_X8_readsRent_5 : Dc cX8_readsRent 5 (.iconst 0) 1 6 := ⟨by decide +kernel, rfl⟩
theorem e_X8_readsRent_6 : Dc cX8_readsRent 6 (.iconst 0) 1 7 := ⟨by decide +kernel, rfl⟩
theorem e_X8_readsRent_7 : Dc cX8_readsRent 7 (.bipush 15) 2 9 := ⟨by decide +kernel, rfl⟩
theorem e_X8_readsRent_9 : Dc cX8_readsRent 9 (.invokevirtual 287) 3 12 := ⟨by decide +kernel, rfl⟩
theorem e_X8_readsRent_12 : Dc cX8_readsRent 12 (.ifCond .eq 14) 3 15 := ⟨by decide +kernel, rfl⟩
theorem e_X8_readsRent_15 : Dc cX8_readsRent 15 (.aload_n 0) 1 16 := ⟨by decide +kernel, rfl⟩
theorem e_X8_readsRent_16 : Dc cX8_readsRent 16 (.iconst 1) 1 17 := ⟨by decide +kernel, rfl⟩
theorem e_X8_readsRent_17 : Dc cX8_readsRent 17 (.iconst 0) 1 18 := ⟨by decide +kernel, rfl⟩
theorem e_X8_readsRent_18 : Dc cX8_readsRent 18 (.bipush 99) 2 20 := ⟨by decide +kernel, rfl⟩
theorem e_X8_readsRent_20 : Dc cX8_readsRent 20 (.invokevirtual 287) 3 23 := ⟨by decide +kernel, rfl⟩
theorem e_X8_readsRent_23 : Dc cX8_readsRent 23 (.ifCond .ne 5) 3 26 := ⟨by decide +kernel, rfl⟩
theorem e_X8_readsRent_26 : Dc cX8_readsRent 26 (.iconst 0) 1 27 := ⟨by decide +kernel, rfl⟩
theorem e_X8_readsRent_27 : Dc cX8_readsRent 27 (.ireturn) 1 28 := ⟨by decide +kernel, rfl⟩
theorem e_X8_readsRent_28 : Dc cX8_readsRent 28 (.aload_n 0) 1 29 := ⟨by decide +kernel, rfl⟩
theorem e_X8_readsRent_29 : Dc cX8_readsRent 29 (.getfield 65) 3 32 := ⟨by decide +kernel, rfl⟩
theorem e_X8_readsRent_32 : Dc cX8_readsRent 32 (.bipush 81) 2 34 := ⟨by decide +kernel, rfl⟩
theorem e_X8_readsRent_34 : Dc cX8_readsRent 34 (.aload_n 0) 1 35 := ⟨by decide +kernel, rfl⟩
theorem e_X8_readsRent_35 : Dc cX8_readsRent 35 (.getfield 68) 3 38 := ⟨by decide +kernel, rfl⟩
theorem e_X8_readsRent_38 : Dc cX8_readsRent 38 (.iconst 0) 1 39 := ⟨by decide +kernel, rfl⟩
theorem e_X8_readsRent_39 : Dc cX8_readsRent 39 (.iaload) 1 40 := ⟨by decide +kernel, rfl⟩
theorem e_X8_readsRent_40 : Dc cX8_readsRent 40 (.iadd) 1 41 := ⟨by decide +kernel, rfl⟩
theorem e_X8_readsRent_41 : Dc cX8_readsRent 41 (.aload_n 0) 1 42 := ⟨by decide +kernel, rfl⟩
theorem e_X8_readsRent_42 : Dc cX8_readsRent 42 (.getfield 68) 3 45 := ⟨by decide +kernel, rfl⟩
theorem e_X8_readsRent_45 : Dc cX8_readsRent 45 (.iconst 1) 1 46 := ⟨by decide +kernel, rfl⟩
theorem e_X8_readsRent_46 : Dc cX8_readsRent 46 (.iaload) 1 47 := ⟨by decide +kernel, rfl⟩
theorem e_X8_readsRent_47 : Dc cX8_readsRent 47 (.iastore) 1 48 := ⟨by decide +kernel, rfl⟩
theorem e_X8_readsRent_48 : Dc cX8_readsRent 48 (.iconst 1) 1 49 := ⟨by decide +kernel, rfl⟩
theorem e_X8_readsRent_49 : Dc cX8_readsRent 49 (.ireturn) 1 50 := ⟨by decide +kernel, rfl⟩
set_option maxHeartbeats 4000000 in
set_option maxRecDepth 20000 in
theorem R_X8_readsRent (hD : DD E) (s : Sg) : ∀ v τ, (f_X8_readsRent s) = some (v, τ) → RI l E 5 M_X8_readsRent [.ref (ead E 70)] s v τ := by
  refine ofI hD (by decide +kernel) (Nat.le_of_ble_eq_true rfl) (fun X C => ?_)
  show MF l E X (fun q : Int32 × Sg => QI E X q.1 q.2) (f_X8_readsRent s) s 0 [(0, .ref (ead E 70))] []
  unfold f_X8_readsRent
  refine MF.aload_n C e_X8_readsRent_0 0 rfl rfl ?_
  refine MF.callVU (As := []) C (R_X8_goOn hD s) m_X8_goOn k_X8_280 kO_70 rfl (by decide) e_X8_readsRent_1 rfl rfl (Nat.le_of_ble_eq_true rfl) (fun s1 => ?_)
  refine MF.aload_n C e_X8_readsRent_4 0 rfl rfl ?_
  refine MF.iconst (v := (nI 0)) C e_X8_readsRent_5 rfl ?_
  refine MF.iconst (v := (nI 0)) C e_X8_readsRent_6 rfl ?_
  refine MF.bipush (v := (nI 15)) C e_X8_readsRent_7 (by decide) ?_
  refine MF.callVI (As := [.int (nI 0), .int (nI 0), .int (nI 15)]) C (R_X8_takes hD (nI 0) (nI 0) (nI 15) s1) m_X8_takes k_X8_287 kO_70 rfl (by decide) e_X8_readsRent_9 rfl rfl (Nat.le_of_ble_eq_true rfl) (fun v2 s3 => ?_)
  refine MF.if_eq (tgt := 26) C e_X8_readsRent_12 (by decide) (fun _ => ?_) (fun _ => ?_)
  · refine MF.iconst (v := (nI 0)) C e_X8_readsRent_26 rfl ?_
    exact MF.nret C e_X8_readsRent_27 rfl
  · refine MF.aload_n C e_X8_readsRent_15 0 rfl rfl ?_
    refine MF.iconst (v := (nI 1)) C e_X8_readsRent_16 rfl ?_
    refine MF.iconst (v := (nI 0)) C e_X8_readsRent_17 rfl ?_
    refine MF.bipush (v := (nI 99)) C e_X8_readsRent_18 (by decide) ?_
    refine MF.callVI (As := [.int (nI 1), .int (nI 0), .int (nI 99)]) C (R_X8_takes hD (nI 1) (nI 0) (nI 99) s3) m_X8_takes k_X8_287 kO_70 rfl (by decide) e_X8_readsRent_20 rfl rfl (Nat.le_of_ble_eq_true rfl) (fun v4 s5 => ?_)
    refine MF.if_ne (tgt := 28) C e_X8_readsRent_23 (by decide) (fun _ => ?_) (fun _ => ?_)
    · refine MF.aload_n C e_X8_readsRent_28 0 rfl rfl ?_
      refine MF.getR (j := 89) C cf_X8 l_X8_65 e_X8_readsRent_29 kF_70_27 ?_
      refine MF.bipush (v := (nI 81)) C e_X8_readsRent_32 (by decide) ?_
      refine MF.aload_n C e_X8_readsRent_34 0 rfl rfl ?_
      refine MF.getR (j := 90) C cf_X8 l_X8_68 e_X8_readsRent_35 kF_70_28 ?_
      refine MF.iconst (v := (nI 0)) C e_X8_readsRent_38 rfl ?_
      refine MF.iald C e_X8_readsRent_39 kA_90 (fun v6 => ?_)
      refine MF.iadd C e_X8_readsRent_40 ?_
      refine MF.aload_n C e_X8_readsRent_41 0 rfl rfl ?_
      refine MF.getR (j := 90) C cf_X8 l_X8_68 e_X8_readsRent_42 kF_70_28 ?_
      refine MF.iconst (v := (nI 1)) C e_X8_readsRent_45 rfl ?_
      refine MF.iald C e_X8_readsRent_46 kA_90 (fun v7 => ?_)
      refine MF.iast C e_X8_readsRent_47 kA_89 (fun s8 => ?_)
      refine MF.iconst (v := (nI 1)) C e_X8_readsRent_48 rfl ?_
      exact MF.nret C e_X8_readsRent_49 rfl
    · refine MF.iconst (v := (nI 0)) C e_X8_readsRent_26 rfl ?_
      exact MF.nret C e_X8_readsRent_27 rfl
theorem e_X8_readsItem_0 : Dc cX8_readsItem 0 (.aload_n 0) 1 1 := ⟨by decide +kernel, rfl⟩
theorem e_X8_readsItem_1 : Dc cX8_readsItem 1 (.bipush 6) 2 3 := ⟨by decide +kernel, rfl⟩
theorem e_X8_readsItem_3 : Dc cX8_readsItem 3 (.bipush 115) 2 5 := ⟨by decide +kernel, rfl⟩
theorem e_X8_readsItem_5 : Dc cX8_readsItem 5 (.bipush 116) 2 7 := ⟨by decide +kernel, rfl⟩
theorem e_X8_readsItem_7 : Dc cX8_readsItem 7 (.bipush 114) 2 9 := ⟨by decide +kernel, rfl⟩
theorem e_X8_readsItem_9 : Dc cX8_readsItem 9 (.bipush 101) 2 11 := ⟨by decide +kernel, rfl⟩
theorem e_X8_readsItem_11 : Dc cX8_readsItem 11 (.bipush 101) 2 13 := ⟨by decide +kernel, rfl⟩
theorem e_X8_readsItem_13 : Dc cX8_readsItem 13 (.bipush 116) 2 15 := ⟨by decide +kernel, rfl⟩
theorem e_X8_readsItem_15 : Dc cX8_readsItem 15 (.invokevirtual 283) 3 18 := ⟨by decide +kernel, rfl⟩
theorem e_X8_readsItem_18 : Dc cX8_readsItem 18 (.ifCond .eq 8) 3 21 := ⟨by decide +kernel, rfl⟩
theorem e_X8_readsItem_21 : Dc cX8_readsItem 21 (.aload_n 0) 1 22 := ⟨by decide +kernel, rfl⟩
theorem e_X8_readsItem_22 : Dc cX8_readsItem 22 (.invokevirtual 290) 3 25 := ⟨by decide +kernel, rfl⟩
theorem e_X8_readsItem_25 : Dc cX8_readsItem 25 (.ireturn) 1 26 := ⟨by decide +kernel, rfl⟩
theorem e_X8_readsItem_26 : Dc cX8_readsItem 26 (.aload_n 0) 1 27 := ⟨by decide +kernel, rfl⟩
theorem e_X8_readsItem_27 : Dc cX8_readsItem 27 (.iconst 5) 1 28 := ⟨by decide +kernel, rfl⟩
theorem e_X8_readsItem_28 : Dc cX8_readsItem 28 (.bipush 101) 2 30 := ⟨by decide +kernel, rfl⟩
theorem e_X8_readsItem_30 : Dc cX8_readsItem 30 (.bipush 118) 2 32 := ⟨by decide +kernel, rfl⟩
theorem e_X8_readsItem_32 : Dc cX8_readsItem 32 (.bipush 101) 2 34 := ⟨by decide +kernel, rfl⟩
theorem e_X8_readsItem_34 : Dc cX8_readsItem 34 (.bipush 110) 2 36 := ⟨by decide +kernel, rfl⟩
theorem e_X8_readsItem_36 : Dc cX8_readsItem 36 (.bipush 116) 2 38 := ⟨by decide +kernel, rfl⟩
theorem e_X8_readsItem_38 : Dc cX8_readsItem 38 (.iconst 0) 1 39 := ⟨by decide +kernel, rfl⟩
theorem e_X8_readsItem_39 : Dc cX8_readsItem 39 (.invokevirtual 283) 3 42 := ⟨by decide +kernel, rfl⟩
theorem e_X8_readsItem_42 : Dc cX8_readsItem 42 (.ifCond .eq 8) 3 45 := ⟨by decide +kernel, rfl⟩
theorem e_X8_readsItem_45 : Dc cX8_readsItem 45 (.aload_n 0) 1 46 := ⟨by decide +kernel, rfl⟩
theorem e_X8_readsItem_46 : Dc cX8_readsItem 46 (.invokevirtual 293) 3 49 := ⟨by decide +kernel, rfl⟩
theorem e_X8_readsItem_49 : Dc cX8_readsItem 49 (.ireturn) 1 50 := ⟨by decide +kernel, rfl⟩
theorem e_X8_readsItem_50 : Dc cX8_readsItem 50 (.aload_n 0) 1 51 := ⟨by decide +kernel, rfl⟩
theorem e_X8_readsItem_51 : Dc cX8_readsItem 51 (.iconst 4) 1 52 := ⟨by decide +kernel, rfl⟩
theorem e_X8_readsItem_52 : Dc cX8_readsItem 52 (.bipush 114) 2 54 := ⟨by decide +kernel, rfl⟩
theorem e_X8_readsItem_54 : Dc cX8_readsItem 54 (.bipush 101) 2 56 := ⟨by decide +kernel, rfl⟩
theorem e_X8_readsItem_56 : Dc cX8_readsItem 56 (.bipush 110) 2 58 := ⟨by decide +kernel, rfl⟩
theorem e_X8_readsItem_58 : Dc cX8_readsItem 58 (.bipush 116) 2 60 := ⟨by decide +kernel, rfl⟩
theorem e_X8_readsItem_60 : Dc cX8_readsItem 60 (.iconst 0) 1 61 := ⟨by decide +kernel, rfl⟩
theorem e_X8_readsItem_61 : Dc cX8_readsItem 61 (.iconst 0) 1 62 := ⟨by decide +kernel, rfl⟩
theorem e_X8_readsItem_62 : Dc cX8_readsItem 62 (.invokevirtual 283) 3 65 := ⟨by decide +kernel, rfl⟩
theorem e_X8_readsItem_65 : Dc cX8_readsItem 65 (.ifCond .eq 14) 3 68 := ⟨by decide +kernel, rfl⟩
theorem e_X8_readsItem_68 : Dc cX8_readsItem 68 (.aload_n 0) 1 69 := ⟨by decide +kernel, rfl⟩
theorem e_X8_readsItem_69 : Dc cX8_readsItem 69 (.invokevirtual 296) 3 72 := ⟨by decide +kernel, rfl⟩
theorem e_X8_readsItem_72 : Dc cX8_readsItem 72 (.ifCond .eq 7) 3 75 := ⟨by decide +kernel, rfl⟩
theorem e_X8_readsItem_75 : Dc cX8_readsItem 75 (.iconst 1) 1 76 := ⟨by decide +kernel, rfl⟩
theorem e_X8_readsItem_76 : Dc cX8_readsItem 76 (.goto 4) 3 79 := ⟨by decide +kernel, rfl⟩
theorem e_X8_readsItem_79 : Dc cX8_readsItem 79 (.iconst 0) 1 80 := ⟨by decide +kernel, rfl⟩
theorem e_X8_readsItem_80 : Dc cX8_readsItem 80 (.ireturn) 1 81 := ⟨by decide +kernel, rfl⟩
set_option maxHeartbeats 4000000 in
set_option maxRecDepth 20000 in
theorem R_X8_readsItem (hD : DD E) (s : Sg) : ∀ v τ, (f_X8_readsItem s) = some (v, τ) → RI l E 6 M_X8_readsItem [.ref (ead E 70)] s v τ := by
  refine ofI hD (by decide +kernel) (Nat.le_of_ble_eq_true rfl) (fun X C => ?_)
  show MF l E X (fun q : Int32 × Sg => QI E X q.1 q.2) (f_X8_readsItem s) s 0 [(0, .ref (ead E 70))] []
  unfold f_X8_readsItem
  refine MF.aload_n C e_X8_readsItem_0 0 rfl rfl ?_
  refine MF.bipush (v := (nI 6)) C e_X8_readsItem_1 (by decide) ?_
  refine MF.bipush (v := (nI 115)) C e_X8_readsItem_3 (by decide) ?_
  refine MF.bipush (v := (nI 116)) C e_X8_readsItem_5 (by decide) ?_
  refine MF.bipush (v := (nI 114)) C e_X8_readsItem_7 (by decide) ?_
  refine MF.bipush (v := (nI 101)) C e_X8_readsItem_9 (by decide) ?_
  refine MF.bipush (v := (nI 101)) C e_X8_readsItem_11 (by decide) ?_
  refine MF.bipush (v := (nI 116)) C e_X8_readsItem_13 (by decide) ?_
  refine MF.callVP (As := [.int (nI 6), .int (nI 115), .int (nI 116), .int (nI 114), .int (nI 101), .int (nI 101), .int (nI 116)]) C (R_X8_isCalled hD (nI 6) (nI 115) (nI 116) (nI 114) (nI 101) (nI 101) (nI 116) s) m_X8_isCalled k_X8_283 kO_70 rfl (by decide) e_X8_readsItem_15 rfl rfl (Nat.le_of_ble_eq_true rfl) (fun v1 => ?_)
  refine MF.if_eq (tgt := 26) C e_X8_readsItem_18 (by decide) (fun _ => ?_) (fun _ => ?_)
  · refine MF.aload_n C e_X8_readsItem_26 0 rfl rfl ?_
    refine MF.iconst (v := (nI 5)) C e_X8_readsItem_27 rfl ?_
    refine MF.bipush (v := (nI 101)) C e_X8_readsItem_28 (by decide) ?_
    refine MF.bipush (v := (nI 118)) C e_X8_readsItem_30 (by decide) ?_
    refine MF.bipush (v := (nI 101)) C e_X8_readsItem_32 (by decide) ?_
    refine MF.bipush (v := (nI 110)) C e_X8_readsItem_34 (by decide) ?_
    refine MF.bipush (v := (nI 116)) C e_X8_readsItem_36 (by decide) ?_
    refine MF.iconst (v := (nI 0)) C e_X8_readsItem_38 rfl ?_
    refine MF.callVP (As := [.int (nI 5), .int (nI 101), .int (nI 118), .int (nI 101), .int (nI 110), .int (nI 116), .int (nI 0)]) C (R_X8_isCalled hD (nI 5) (nI 101) (nI 118) (nI 101) (nI 110) (nI 116) (nI 0) s) m_X8_isCalled k_X8_283 kO_70 rfl (by decide) e_X8_readsItem_39 rfl rfl (Nat.le_of_ble_eq_true rfl) (fun v2 => ?_)
    refine MF.if_eq (tgt := 50) C e_X8_readsItem_42 (by decide) (fun _ => ?_) (fun _ => ?_)
    · refine MF.aload_n C e_X8_readsItem_50 0 rfl rfl ?_
      refine MF.iconst (v := (nI 4)) C e_X8_readsItem_51 rfl ?_
      refine MF.bipush (v := (nI 114)) C e_X8_readsItem_52 (by decide) ?_
      refine MF.bipush (v := (nI 101)) C e_X8_readsItem_54 (by decide) ?_
      refine MF.bipush (v := (nI 110)) C e_X8_readsItem_56 (by decide) ?_
      refine MF.bipush (v := (nI 116)) C e_X8_readsItem_58 (by decide) ?_
      refine MF.iconst (v := (nI 0)) C e_X8_readsItem_60 rfl ?_
      refine MF.iconst (v := (nI 0)) C e_X8_readsItem_61 rfl ?_
      refine MF.callVP (As := [.int (nI 4), .int (nI 114), .int (nI 101), .int (nI 110), .int (nI 116), .int (nI 0), .int (nI 0)]) C (R_X8_isCalled hD (nI 4) (nI 114) (nI 101) (nI 110) (nI 116) (nI 0) (nI 0) s) m_X8_isCalled k_X8_283 kO_70 rfl (by decide) e_X8_readsItem_62 rfl rfl (Nat.le_of_ble_eq_true rfl) (fun v3 => ?_)
      refine MF.if_eq (tgt := 79) C e_X8_readsItem_65 (by decide) (fun _ => ?_) (fun _ => ?_)
      · refine MF.iconst (v := (nI 0)) C e_X8_readsItem_79 rfl ?_
        exact MF.nret C e_X8_readsItem_80 rfl
      · refine MF.aload_n C e_X8_readsItem_68 0 rfl rfl ?_
        refine MF.callVI (As := []) C (R_X8_readsRent hD s) m_X8_readsRent k_X8_296 kO_70 rfl (by decide) e_X8_readsItem_69 rfl rfl (Nat.le_of_ble_eq_true rfl) (fun v4 s5 => ?_)
        refine MF.if_eq (tgt := 79) C e_X8_readsItem_72 (by decide) (fun _ => ?_) (fun _ => ?_)
        · refine MF.iconst (v := (nI 0)) C e_X8_readsItem_79 rfl ?_
          exact MF.nret C e_X8_readsItem_80 rfl
        · refine MF.iconst (v := (nI 1)) C e_X8_readsItem_75 rfl ?_
          refine MF.goto (tgt := 80) C e_X8_readsItem_76 (by decide) ?_
          exact MF.nret C e_X8_readsItem_80 rfl
    · refine MF.aload_n C e_X8_readsItem_45 0 rfl rfl ?_
      refine MF.callVI (As := []) C (R_X8_readsEvent hD s) m_X8_readsEvent k_X8_293 kO_70 rfl (by decide) e_X8_readsItem_46 rfl rfl (Nat.le_of_ble_eq_true rfl) (fun v6 s7 => ?_)
      exact MF.nret C e_X8_readsItem_49 rfl
  · refine MF.aload_n C e_X8_readsItem_21 0 rfl rfl ?_
    refine MF.callVI (As := []) C (R_X8_readsStreet hD s) m_X8_readsStreet k_X8_290 kO_70 rfl (by decide) e_X8_readsItem_22 rfl rfl (Nat.le_of_ble_eq_true rfl) (fun v8 s9 => ?_)
    exact MF.nret C e_X8_readsItem_25 rfl
theorem e_X8_read_0 : Dc cX8_read 0 (.aload_n 0) 1 1 := ⟨by decide +kernel, rfl⟩
theorem e_X8_read_1 : Dc cX8_read 1 (.iconst 0) 1 2 := ⟨by decide +kernel, rfl⟩
theorem e_X8_read_2 : Dc cX8_read 2 (.invokevirtual 277) 3 5 := ⟨by decide +kernel, rfl⟩
theorem e_X8_read_5 : Dc cX8_read 5 (.aload_n 0) 1 6 := ⟨by decide +kernel, rfl⟩
theorem e_X8_read_6 : Dc cX8_read 6 (.invokevirtual 299) 3 9 := ⟨by decide +kernel, rfl⟩
theorem e_X8_read_9 : Dc cX8_read 9 (.ifCond .ne 11) 3 12 := ⟨by decide +kernel, rfl⟩
theorem e_X8_read_12 : Dc cX8_read 12 (.bipush (-10)) 2 14 := ⟨by decide +kernel, rfl⟩
theorem e_X8_read_14 : Dc cX8_read 14 (.aload_n 0) 1 15 := ⟨by decide +kernel, rfl⟩
theorem e_X8_read_15 : Dc cX8_read 15 (.getfield 259) 3 18 := ⟨by decide +kernel, rfl⟩
theorem e_X8_read_18 : Dc cX8_read 18 (.isub) 1 19 := ⟨by decide +kernel, rfl⟩
theorem e_X8_read_19 : Dc cX8_read 19 (.ireturn) 1 20 := ⟨by decide +kernel, rfl⟩
theorem e_X8_read_20 : Dc cX8_read 20 (.aload_n 0) 1 21 := ⟨by decide +kernel, rfl⟩
theorem e_X8_read_21 : Dc cX8_read 21 (.invokevirtual 280) 3 24 := ⟨by decide +kernel, rfl⟩
theorem e_X8_read_24 : Dc cX8_read 24 (.iconst 1) 1 25 := ⟨by decide +kernel, rfl⟩
theorem e_X8_read_25 : Dc cX8_read 25 (.istore_n 1) 1 26 := ⟨by decide +kernel, rfl⟩
theorem e_X8_read_26 : Dc cX8_read 26 (.aload_n 0) 1 27 := ⟨by decide +kernel, rfl⟩
theorem e_X8_read_27 : Dc cX8_read 27 (.getfield 265) 3 30 := ⟨by decide +kernel, rfl⟩
theorem e_X8_read_30 : Dc cX8_read 30 (.ifCond .eq 36) 3 33 := ⟨by decide +kernel, rfl⟩
theorem e_X8_read_33 : Dc cX8_read 33 (.aload_n 0) 1 34 := ⟨by decide +kernel, rfl⟩
theorem e_X8_read_34 : Dc cX8_read 34 (.invokevirtual 302) 3 37 := ⟨by decide +kernel, rfl⟩
theorem e_X8_read_37 : Dc cX8_read 37 (.ifCond .eq 11) 3 40 := ⟨by decide +kernel, rfl⟩
theorem e_X8_read_40 : Dc cX8_read 40 (.aload_n 0) 1 41 := ⟨by decide +kernel, rfl⟩
theorem e_X8_read_41 : Dc cX8_read 41 (.getfield 265) 3 44 := ⟨by decide +kernel, rfl⟩
theorem e_X8_read_44 : Dc cX8_read 44 (.iconst 3) 1 45 := ⟨by decide +kernel, rfl⟩
theorem e_X8_read_45 : Dc cX8_read 45 (.if_icmp .eq 11) 3 48 := ⟨by decide +kernel, rfl⟩
theorem e_X8_read_48 : Dc cX8_read 48 (.bipush (-10)) 2 50 := ⟨by decide +kernel, rfl⟩
theorem e_X8_read_50 : Dc cX8_read 50 (.aload_n 0) 1 51 := ⟨by decide +kernel, rfl⟩
theorem e_X8_read_51 : Dc cX8_read 51 (.getfield 259) 3 54 := ⟨by decide +kernel, rfl⟩
theorem e_X8_read_54 : Dc cX8_read 54 (.isub) 1 55 := ⟨by decide +kernel, rfl⟩
theorem e_X8_read_55 : Dc cX8_read 55 (.ireturn) 1 56 := ⟨by decide +kernel, rfl⟩
theorem e_X8_read_56 : Dc cX8_read 56 (.aload_n 0) 1 57 := ⟨by decide +kernel, rfl⟩
theorem e_X8_read_57 : Dc cX8_read 57 (.invokevirtual 280) 3 60 := ⟨by decide +kernel, rfl⟩
theorem e_X8_read_60 : Dc cX8_read 60 (.iinc 1 1) 3 63 := ⟨by decide +kernel, rfl⟩
theorem e_X8_read_63 : Dc cX8_read 63 (.goto (-37)) 3 66 := ⟨by decide +kernel, rfl⟩
theorem e_X8_read_66 : Dc cX8_read 66 (.iconst 0) 1 67 := ⟨by decide +kernel, rfl⟩
theorem e_X8_read_67 : Dc cX8_read 67 (.istore_n 2) 1 68 := ⟨by decide +kernel, rfl⟩
theorem e_X8_read_68 : Dc cX8_read 68 (.iload_n 2) 1 69 := ⟨by decide +kernel, rfl⟩
theorem e_X8_read_69 : Dc cX8_read 69 (.bipush 115) 2 71 := ⟨by decide +kernel, rfl⟩
theorem e_X8_read_71 : Dc cX8_read 71 (.if_icmp .ge 21) 3 74 := ⟨by decide +kernel, rfl⟩
theorem e_X8_read_74 : Dc cX8_read 74 (.aload_n 0) 1 75 := ⟨by decide +kernel, rfl⟩
theorem e_X8_read_75 : Dc cX8_read 75 (.getfield 7) 3 78 := ⟨by decide +kernel, rfl⟩
theorem e_X8_read_78 : Dc cX8_read 78 (.iload_n 2) 1 79 := ⟨by decide +kernel, rfl⟩
theorem e_X8_read_79 : Dc cX8_read 79 (.aload_n 0) 1 80 := ⟨by decide +kernel, rfl⟩
theorem e_X8_read_80 : Dc cX8_read 80 (.getfield 65) 3 83 := ⟨by decide +kernel, rfl⟩
theorem e_X8_read_83 : Dc cX8_read 83 (.iload_n 2) 1 84 := ⟨by decide +kernel, rfl⟩
theorem e_X8_read_84 : Dc cX8_read 84 (.iaload) 1 85 := ⟨by decide +kernel, rfl⟩
theorem e_X8_read_85 : Dc cX8_read 85 (.iastore) 1 86 := ⟨by decide +kernel, rfl⟩
theorem e_X8_read_86 : Dc cX8_read 86 (.iinc 2 1) 3 89 := ⟨by decide +kernel, rfl⟩
theorem e_X8_read_89 : Dc cX8_read 89 (.goto (-21)) 3 92 := ⟨by decide +kernel, rfl⟩
theorem e_X8_read_92 : Dc cX8_read 92 (.iload_n 1) 1 93 := ⟨by decide +kernel, rfl⟩
theorem e_X8_read_93 : Dc cX8_read 93 (.ireturn) 1 94 := ⟨by decide +kernel, rfl⟩
set_option maxHeartbeats 4000000 in
set_option maxRecDepth 20000 in
theorem R_X8_read (hD : DD E) (s : Sg) : ∀ v τ, (f_X8_read s) = some (v, τ) → RI l E 7 M_X8_read [.ref (ead E 70)] s v τ := by
  refine ofI hD (by decide +kernel) (Nat.le_of_ble_eq_true rfl) (fun X C => ?_)
  show MF l E X (fun q : Int32 × Sg => QI E X q.1 q.2) (f_X8_read s) s 0 [(0, .ref (ead E 70))] []
  unfold f_X8_read
  refine MF.aload_n C e_X8_read_0 0 rfl rfl ?_
  refine MF.iconst (v := (nI 0)) C e_X8_read_1 rfl ?_
  refine MF.callVU (As := [.int (nI 0)]) C (R_X8_look hD (nI 0) s) m_X8_look k_X8_277 kO_70 rfl (by decide) e_X8_read_2 rfl rfl (Nat.le_of_ble_eq_true rfl) (fun s1 => ?_)
  refine MF.aload_n C e_X8_read_5 0 rfl rfl ?_
  refine MF.callVI (As := []) C (R_X8_readsFirst hD s1) m_X8_readsFirst k_X8_299 kO_70 rfl (by decide) e_X8_read_6 rfl rfl (Nat.le_of_ble_eq_true rfl) (fun v2 s3 => ?_)
  refine MF.if_ne (tgt := 20) C e_X8_read_9 (by decide) (fun _ => ?_) (fun _ => ?_)
  · refine MF.aload_n C e_X8_read_20 0 rfl rfl ?_
    refine MF.callVU (As := []) C (R_X8_goOn hD s3) m_X8_goOn k_X8_280 kO_70 rfl (by decide) e_X8_read_21 rfl rfl (Nat.le_of_ble_eq_true rfl) (fun s4 => ?_)
    refine MF.iconst (v := (nI 1)) C e_X8_read_24 rfl ?_
    refine MF.istore_n (lv' := [(0, .ref (ead E 70)), (1, .int (nI 1))]) C e_X8_read_25 (by decide) rfl ?_
    refine MF.join (fun j : Int32 → Sg → Option (Int32 × Sg) => ∀ (a5 : Int32) (s6 : Sg), MF l E X (fun q : Int32 × Sg => QI E X q.1 q.2) (j a5 s6) s6 66 [(0, .ref (ead E 70)), (1, .int a5)] []) ?_ (fun j7 hj7 => ?_)
    · intro a5 s6
      refine MF.iconst (v := (nI 0)) C e_X8_read_66 rfl ?_
      refine MF.istore_n (lv' := [(0, .ref (ead E 70)), (1, .int a5), (2, .int (nI 0))]) C e_X8_read_67 (by decide) rfl ?_
      refine MF.loop2 (fun i8 s9 => s9) (fun i8 s9 => [(0, .ref (ead E 70)), (1, .int a5), (2, .int i8)]) (fun self10 hself10 i8 s9 => ?_) fu (nI 0) s6
      unfold b_X8_read_68
      refine MF.iload_n C e_X8_read_68 2 rfl rfl ?_
      refine MF.bipush (v := (nI 115)) C e_X8_read_69 (by decide) ?_
      refine MF.icmp_ge (tgt := 92) C e_X8_read_71 (by decide) (fun _ => ?_) (fun _ => ?_)
      · refine MF.iload_n C e_X8_read_92 1 rfl rfl ?_
        exact MF.iret C e_X8_read_93
      · refine MF.aload_n C e_X8_read_74 0 rfl rfl ?_
        refine MF.getR (j := 71) C cf_X8 l_X8_7 e_X8_read_75 kF_70_0 ?_
        refine MF.iload_n C e_X8_read_78 2 rfl rfl ?_
        refine MF.aload_n C e_X8_read_79 0 rfl rfl ?_
        refine MF.getR (j := 89) C cf_X8 l_X8_65 e_X8_read_80 kF_70_27 ?_
        refine MF.iload_n C e_X8_read_83 2 rfl rfl ?_
        refine MF.iald C e_X8_read_84 kA_89 (fun v11 => ?_)
        refine MF.iast C e_X8_read_85 kA_71 (fun s12 => ?_)
        refine MF.iinc (v := (nI 1)) (lv' := [(0, .ref (ead E 70)), (1, .int a5), (2, .int (i8 + (nI 1)))]) C e_X8_read_86 2 rfl rfl (by decide) rfl ?_
        refine MF.goto (tgt := 68) C e_X8_read_89 (by decide) ?_
        exact hself10 (i8 + (nI 1)) s12
    refine MF.loop2 (fun i13 s14 => s14) (fun i13 s14 => [(0, .ref (ead E 70)), (1, .int i13)]) (fun self15 hself15 i13 s14 => ?_) fu (nI 1) s4
    unfold b_X8_read_26
    refine MF.aload_n C e_X8_read_26 0 rfl rfl ?_
    refine MF.get C cf_X8 l_X8_265 e_X8_read_27 kF_70_25 ?_
    refine MF.if_eq (tgt := 66) C e_X8_read_30 (by decide) (fun _ => ?_) (fun _ => ?_)
    · exact hj7 i13 s14
    · refine MF.aload_n C e_X8_read_33 0 rfl rfl ?_
      refine MF.callVI (As := []) C (R_X8_readsItem hD s14) m_X8_readsItem k_X8_302 kO_70 rfl (by decide) e_X8_read_34 rfl rfl (Nat.le_of_ble_eq_true rfl) (fun v16 s17 => ?_)
      refine MF.if_eq (tgt := 48) C e_X8_read_37 (by decide) (fun _ => ?_) (fun _ => ?_)
      · refine MF.bipush (v := (-10 : Int32)) C e_X8_read_48 (by decide) ?_
        refine MF.aload_n C e_X8_read_50 0 rfl rfl ?_
        refine MF.get C cf_X8 l_X8_259 e_X8_read_51 kF_70_23 ?_
        refine MF.isub C e_X8_read_54 ?_
        exact MF.iret C e_X8_read_55
      · refine MF.aload_n C e_X8_read_40 0 rfl rfl ?_
        refine MF.get C cf_X8 l_X8_265 e_X8_read_41 kF_70_25 ?_
        refine MF.iconst (v := (nI 3)) C e_X8_read_44 rfl ?_
        refine MF.icmp_eq (tgt := 56) C e_X8_read_45 (by decide) (fun _ => ?_) (fun _ => ?_)
        · refine MF.aload_n C e_X8_read_56 0 rfl rfl ?_
          refine MF.callVU (As := []) C (R_X8_goOn hD s17) m_X8_goOn k_X8_280 kO_70 rfl (by decide) e_X8_read_57 rfl rfl (Nat.le_of_ble_eq_true rfl) (fun s18 => ?_)
          refine MF.iinc (v := (nI 1)) (lv' := [(0, .ref (ead E 70)), (1, .int (i13 + (nI 1)))]) C e_X8_read_60 1 rfl rfl (by decide) rfl ?_
          refine MF.goto (tgt := 26) C e_X8_read_63 (by decide) ?_
          exact hself15 (i13 + (nI 1)) s18
        · refine MF.bipush (v := (-10 : Int32)) C e_X8_read_48 (by decide) ?_
          refine MF.aload_n C e_X8_read_50 0 rfl rfl ?_
          refine MF.get C cf_X8 l_X8_259 e_X8_read_51 kF_70_23 ?_
          refine MF.isub C e_X8_read_54 ?_
          exact MF.iret C e_X8_read_55
  · refine MF.bipush (v := (-10 : Int32)) C e_X8_read_12 (by decide) ?_
    refine MF.aload_n C e_X8_read_14 0 rfl rfl ?_
    refine MF.get C cf_X8 l_X8_259 e_X8_read_15 kF_70_23 ?_
    refine MF.isub C e_X8_read_18 ?_
    exact MF.iret C e_X8_read_19
theorem e_X8_image_0 : Dc cX8_image 0 (.iload_n 1) 1 1 := ⟨by decide +kernel, rfl⟩
theorem e_X8_image_1 : Dc cX8_image 1 (.i2l) 1 2 := ⟨by decide +kernel, rfl⟩
theorem e_X8_image_2 : Dc cX8_image 2 (.lconst 0) 1 3 := ⟨by decide +kernel, rfl⟩
theorem e_X8_image_3 : Dc cX8_image 3 (.lconst 1) 1 4 := ⟨by decide +kernel, rfl⟩
theorem e_X8_image_4 : Dc cX8_image 4 (.invokestatic 75) 3 7 := ⟨by decide +kernel, rfl⟩
theorem e_X8_image_7 : Dc cX8_image 7 (.ifCond .ne 10) 3 10 := ⟨by decide +kernel, rfl⟩
theorem e_X8_image_10 : Dc cX8_image 10 (.aload_n 0) 1 11 := ⟨by decide +kernel, rfl⟩
theorem e_X8_image_11 : Dc cX8_image 11 (.bipush (-2)) 2 13 := ⟨by decide +kernel, rfl⟩
theorem e_X8_image_13 : Dc cX8_image 13 (.invokevirtual 88) 3 16 := ⟨by decide +kernel, rfl⟩
theorem e_X8_image_16 : Dc cX8_image 16 (.ireturn) 1 17 := ⟨by decide +kernel, rfl⟩
theorem e_X8_image_17 : Dc cX8_image 17 (.iconst 0) 1 18 := ⟨by decide +kernel, rfl⟩
theorem e_X8_image_18 : Dc cX8_image 18 (.istore_n 2) 1 19 := ⟨by decide +kernel, rfl⟩
theorem e_X8_image_19 : Dc cX8_image 19 (.iload_n 2) 1 20 := ⟨by decide +kernel, rfl⟩
theorem e_X8_image_20 : Dc cX8_image 20 (.sipush 515) 3 23 := ⟨by decide +kernel, rfl⟩
theorem e_X8_image_23 : Dc cX8_image 23 (.if_icmp .ge 27) 3 26 := ⟨by decide +kernel, rfl⟩
theorem e_X8_image_26 : Dc cX8_image 26 (.aload_n 0) 1 27 := ⟨by decide +kernel, rfl⟩
theorem e_X8_image_27 : Dc cX8_image 27 (.getfield 13) 3 30 := ⟨by decide +kernel, rfl⟩
theorem e_X8_image_30 : Dc cX8_image 30 (.sipush 515) 3 33 := ⟨by decide +kernel, rfl⟩
theorem e_X8_image_33 : Dc cX8_image 33 (.iload_n 1) 1 34 := ⟨by decide +kernel, rfl⟩
theorem e_X8_image_34 : Dc cX8_image 34 (.imul) 1 35 := ⟨by decide +kernel, rfl⟩
theorem e_X8_image_35 : Dc cX8_image 35 (.iload_n 2) 1 36 := ⟨by decide +kernel, rfl⟩
theorem e_X8_image_36 : Dc cX8_image 36 (.iadd) 1 37 := ⟨by decide +kernel, rfl⟩
theorem e_X8_image_37 : Dc cX8_image 37 (.aload_n 0) 1 38 := ⟨by decide +kernel, rfl⟩
theorem e_X8_image_38 : Dc cX8_image 38 (.getfield 7) 3 41 := ⟨by decide +kernel, rfl⟩
theorem e_X8_image_41 : Dc cX8_image 41 (.iload_n 2) 1 42 := ⟨by decide +kernel, rfl⟩
theorem e_X8_image_42 : Dc cX8_image 42 (.iaload) 1 43 := ⟨by decide +kernel, rfl⟩
theorem e_X8_image_43 : Dc cX8_image 43 (.iastore) 1 44 := ⟨by decide +kernel, rfl⟩
theorem e_X8_image_44 : Dc cX8_image 44 (.iinc 2 1) 3 47 := ⟨by decide +kernel, rfl⟩
theorem e_X8_image_47 : Dc cX8_image 47 (.goto (-28)) 3 50 := ⟨by decide +kernel, rfl⟩
theorem e_X8_image_50 : Dc cX8_image 50 (.aload_n 0) 1 51 := ⟨by decide +kernel, rfl⟩
theorem e_X8_image_51 : Dc cX8_image 51 (.getfield 16) 3 54 := ⟨by decide +kernel, rfl⟩
theorem e_X8_image_54 : Dc cX8_image 54 (.iload_n 1) 1 55 := ⟨by decide +kernel, rfl⟩
theorem e_X8_image_55 : Dc cX8_image 55 (.iconst 1) 1 56 := ⟨by decide +kernel, rfl⟩
theorem e_X8_image_56 : Dc cX8_image 56 (.bastore) 1 57 := ⟨by decide +kernel, rfl⟩
theorem e_X8_image_57 : Dc cX8_image 57 (.iconst 1) 1 58 := ⟨by decide +kernel, rfl⟩
theorem e_X8_image_58 : Dc cX8_image 58 (.ireturn) 1 59 := ⟨by decide +kernel, rfl⟩
set_option maxHeartbeats 4000000 in
set_option maxRecDepth 20000 in
theorem R_X8_image (hD : DD E) (x1 : Int32) (s : Sg) : ∀ v τ, (f_X8_image x1 s) = some (v, τ) → RI l E 1 M_X8_image [.ref (ead E 70), .int x1] s v τ := by
  refine ofI hD (by decide +kernel) (Nat.le_of_ble_eq_true rfl) (fun X C => ?_)
  show MF l E X (fun q : Int32 × Sg => QI E X q.1 q.2) (f_X8_image x1 s) s 0 [(0, .ref (ead E 70)), (1, .int x1)] []
  unfold f_X8_image
  refine MF.iload_n C e_X8_image_0 1 rfl rfl ?_
  refine MF.i2l C e_X8_image_1 ?_
  refine MF.lconst (v := (0 : Int64)) C e_X8_image_2 (by decide) ?_
  refine MF.lconst (v := (1 : Int64)) C e_X8_image_3 (by decide) ?_
  refine MF.callSP (As := [.long (Int32.toInt64 x1), .long (0 : Int64), .long (1 : Int64)]) C (R_X8_in hD (Int32.toInt64 x1) (0 : Int64) (1 : Int64) s) m_X8_in k_X8_75 (by decide) e_X8_image_4 rfl rfl (Nat.le_of_ble_eq_true rfl) (fun v1 => ?_)
  refine MF.if_ne (tgt := 17) C e_X8_image_7 (by decide) (fun _ => ?_) (fun _ => ?_)
  · refine MF.iconst (v := (nI 0)) C e_X8_image_17 rfl ?_
    refine MF.istore_n (lv' := [(0, .ref (ead E 70)), (1, .int x1), (2, .int (nI 0))]) C e_X8_image_18 (by decide) rfl ?_
    refine MF.join (fun j : Sg → Option (Int32 × Sg) => ∀ (s2 : Sg), MF l E X (fun q : Int32 × Sg => QI E X q.1 q.2) (j s2) s2 50 [(0, .ref (ead E 70)), (1, .int x1)] []) ?_ (fun j3 hj3 => ?_)
    · intro s2
      refine MF.aload_n C e_X8_image_50 0 rfl rfl ?_
      refine MF.getR (j := 73) C cf_X8 l_X8_16 e_X8_image_51 kF_70_2 ?_
      refine MF.iload_n C e_X8_image_54 1 rfl rfl ?_
      refine MF.iconst (v := (nI 1)) C e_X8_image_55 rfl ?_
      refine MF.zast C e_X8_image_56 kZ_73 (fun s4 => ?_)
      refine MF.iconst (v := (nI 1)) C e_X8_image_57 rfl ?_
      exact MF.iret C e_X8_image_58
    refine MF.loop2 (fun i5 s6 => s6) (fun i5 s6 => [(0, .ref (ead E 70)), (1, .int x1), (2, .int i5)]) (fun self7 hself7 i5 s6 => ?_) fu (nI 0) s
    unfold b_X8_image_19
    refine MF.iload_n C e_X8_image_19 2 rfl rfl ?_
    refine MF.sipush (v := (nI 515)) C e_X8_image_20 (by decide) ?_
    refine MF.icmp_ge (tgt := 50) C e_X8_image_23 (by decide) (fun _ => ?_) (fun _ => ?_)
    · refine MF.sub [0, 1] rfl ?_
      exact hj3 s6
    · refine MF.aload_n C e_X8_image_26 0 rfl rfl ?_
      refine MF.getR (j := 72) C cf_X8 l_X8_13 e_X8_image_27 kF_70_1 ?_
      refine MF.sipush (v := (nI 515)) C e_X8_image_30 (by decide) ?_
      refine MF.iload_n C e_X8_image_33 1 rfl rfl ?_
      refine MF.imul C e_X8_image_34 ?_
      refine MF.iload_n C e_X8_image_35 2 rfl rfl ?_
      refine MF.iadd C e_X8_image_36 ?_
      refine MF.aload_n C e_X8_image_37 0 rfl rfl ?_
      refine MF.getR (j := 71) C cf_X8 l_X8_7 e_X8_image_38 kF_70_0 ?_
      refine MF.iload_n C e_X8_image_41 2 rfl rfl ?_
      refine MF.iald C e_X8_image_42 kA_71 (fun v8 => ?_)
      refine MF.iast C e_X8_image_43 kA_72 (fun s9 => ?_)
      refine MF.iinc (v := (nI 1)) (lv' := [(0, .ref (ead E 70)), (1, .int x1), (2, .int (i5 + (nI 1)))]) C e_X8_image_44 2 rfl rfl (by decide) rfl ?_
      refine MF.goto (tgt := 19) C e_X8_image_47 (by decide) ?_
      exact hself7 (i5 + (nI 1)) s9
  · refine MF.aload_n C e_X8_image_10 0 rfl rfl ?_
    refine MF.bipush (v := (-2 : Int32)) C e_X8_image_11 (by decide) ?_
    refine MF.callVI (As := [.int (-2 : Int32)]) C (R_X8_bad hD (-2 : Int32) s) m_X8_bad k_X8_88 kO_70 rfl (by decide) e_X8_image_13 rfl rfl (Nat.le_of_ble_eq_true rfl) (fun v10 s11 => ?_)
    exact MF.iret C e_X8_image_16
theorem e_X8_from_0 : Dc cX8_from 0 (.iload_n 1) 1 1 := ⟨by decide +kernel, rfl⟩
theorem e_X8_from_1 : Dc cX8_from 1 (.i2l) 1 2 := ⟨by decide +kernel, rfl⟩
theorem e_X8_from_2 : Dc cX8_from 2 (.lconst 0) 1 3 := ⟨by decide +kernel, rfl⟩
theorem e_X8_from_3 : Dc cX8_from 3 (.lconst 1) 1 4 := ⟨by decide +kernel, rfl⟩
theorem e_X8_from_4 : Dc cX8_from 4 (.invokestatic 75) 3 7 := ⟨by decide +kernel, rfl⟩
theorem e_X8_from_7 : Dc cX8_from 7 (.ifCond .ne 10) 3 10 := ⟨by decide +kernel, rfl⟩
theorem e_X8_from_10 : Dc cX8_from 10 (.aload_n 0) 1 11 := ⟨by decide +kernel, rfl⟩
theorem e_X8_from_11 : Dc cX8_from 11 (.bipush (-2)) 2 13 := ⟨by decide +kernel, rfl⟩
theorem e_X8_from_13 : Dc cX8_from 13 (.invokevirtual 88) 3 16 := ⟨by decide +kernel, rfl⟩
theorem e_X8_from_16 : Dc cX8_from 16 (.ireturn) 1 17 := ⟨by decide +kernel, rfl⟩
theorem e_X8_from_17 : Dc cX8_from 17 (.aload_n 0) 1 18 := ⟨by decide +kernel, rfl⟩
theorem e_X8_from_18 : Dc cX8_from 18 (.getfield 16) 3 21 := ⟨by decide +kernel, rfl⟩
theorem e_X8_from_21 : Dc cX8_from 21 (.iload_n 1) 1 22 := ⟨by decide +kernel, rfl⟩
theorem e_X8_from_22 : Dc cX8_from 22 (.baload) 1 23 := ⟨by decide +kernel, rfl⟩
theorem e_X8_from_23 : Dc cX8_from 23 (.ifCond .ne 8) 3 26 := ⟨by decide +kernel, rfl⟩
theorem e_X8_from_26 : Dc cX8_from 26 (.aload_n 0) 1 27 := ⟨by decide +kernel, rfl⟩
theorem e_X8_from_27 : Dc cX8_from 27 (.invokevirtual 129) 3 30 := ⟨by decide +kernel, rfl⟩
theorem e_X8_from_30 : Dc cX8_from 30 (.ireturn) 1 31 := ⟨by decide +kernel, rfl⟩
theorem e_X8_from_31 : Dc cX8_from 31 (.iconst 0) 1 32 := ⟨by decide +kernel, rfl⟩
theorem e_X8_from_32 : Dc cX8_from 32 (.istore_n 2) 1 33 := ⟨by decide +kernel, rfl⟩
theorem e_X8_from_33 : Dc cX8_from 33 (.iload_n 2) 1 34 := ⟨by decide +kernel, rfl⟩
theorem e_X8_from_34 : Dc cX8_from 34 (.sipush 515) 3 37 := ⟨by decide +kernel, rfl⟩
theorem e_X8_from_37 : Dc cX8_from 37 (.if_icmp .ge 27) 3 40 := ⟨by decide +kernel, rfl⟩
theorem e_X8_from_40 : Dc cX8_from 40 (.aload_n 0) 1 41 := ⟨by decide +kernel, rfl⟩
theorem e_X8_from_41 : Dc cX8_from 41 (.getfield 7) 3 44 := ⟨by decide +kernel, rfl⟩
theorem e_X8_from_44 : Dc cX8_from 44 (.iload_n 2) 1 45 := ⟨by decide +kernel, rfl⟩
theorem e_X8_from_45 : Dc cX8_from 45 (.aload_n 0) 1 46 := ⟨by decide +kernel, rfl⟩
theorem e_X8_from_46 : Dc cX8_from 46 (.getfield 13) 3 49 := ⟨by decide +kernel, rfl⟩
theorem e_X8_from_49 : Dc cX8_from 49 (.sipush 515) 3 52 := ⟨by decide +kernel, rfl⟩
theorem e_X8_from_52 : Dc cX8_from 52 (.iload_n 1) 1 53 := ⟨by decide +kernel, rfl⟩
theorem e_X8_from_53 : Dc cX8_from 53 (.imul) 1 54 := ⟨by decide +kernel, rfl⟩
theorem e_X8_from_54 : Dc cX8_from 54 (.iload_n 2) 1 55 := ⟨by decide +kernel, rfl⟩
theorem e_X8_from_55 : Dc cX8_from 55 (.iadd) 1 56 := ⟨by decide +kernel, rfl⟩
theorem e_X8_from_56 : Dc cX8_from 56 (.iaload) 1 57 := ⟨by decide +kernel, rfl⟩
theorem e_X8_from_57 : Dc cX8_from 57 (.iastore) 1 58 := ⟨by decide +kernel, rfl⟩
theorem e_X8_from_58 : Dc cX8_from 58 (.iinc 2 1) 3 61 := ⟨by decide +kernel, rfl⟩
theorem e_X8_from_61 : Dc cX8_from 61 (.goto (-28)) 3 64 := ⟨by decide +kernel, rfl⟩
theorem e_X8_from_64 : Dc cX8_from 64 (.iconst 1) 1 65 := ⟨by decide +kernel, rfl⟩
theorem e_X8_from_65 : Dc cX8_from 65 (.ireturn) 1 66 := ⟨by decide +kernel, rfl⟩
set_option maxHeartbeats 4000000 in
set_option maxRecDepth 20000 in
theorem R_X8_from (hD : DD E) (x1 : Int32) (s : Sg) : ∀ v τ, (f_X8_from x1 s) = some (v, τ) → RI l E 1 M_X8_from [.ref (ead E 70), .int x1] s v τ := by
  refine ofI hD (by decide +kernel) (Nat.le_of_ble_eq_true rfl) (fun X C => ?_)
  show MF l E X (fun q : Int32 × Sg => QI E X q.1 q.2) (f_X8_from x1 s) s 0 [(0, .ref (ead E 70)), (1, .int x1)] []
  unfold f_X8_from
  refine MF.iload_n C e_X8_from_0 1 rfl rfl ?_
  refine MF.i2l C e_X8_from_1 ?_
  refine MF.lconst (v := (0 : Int64)) C e_X8_from_2 (by decide) ?_
  refine MF.lconst (v := (1 : Int64)) C e_X8_from_3 (by decide) ?_
  refine MF.callSP (As := [.long (Int32.toInt64 x1), .long (0 : Int64), .long (1 : Int64)]) C (R_X8_in hD (Int32.toInt64 x1) (0 : Int64) (1 : Int64) s) m_X8_in k_X8_75 (by decide) e_X8_from_4 rfl rfl (Nat.le_of_ble_eq_true rfl) (fun v1 => ?_)
  refine MF.if_ne (tgt := 17) C e_X8_from_7 (by decide) (fun _ => ?_) (fun _ => ?_)
  · refine MF.aload_n C e_X8_from_17 0 rfl rfl ?_
    refine MF.getR (j := 73) C cf_X8 l_X8_16 e_X8_from_18 kF_70_2 ?_
    refine MF.iload_n C e_X8_from_21 1 rfl rfl ?_
    refine MF.zald C e_X8_from_22 kZ_73 (fun v2 => ?_)
    refine MF.if_ne (tgt := 31) C e_X8_from_23 (by decide) (fun _ => ?_) (fun _ => ?_)
    · refine MF.iconst (v := (nI 0)) C e_X8_from_31 rfl ?_
      refine MF.istore_n (lv' := [(0, .ref (ead E 70)), (1, .int x1), (2, .int (nI 0))]) C e_X8_from_32 (by decide) rfl ?_
      refine MF.loop2 (fun i3 s4 => s4) (fun i3 s4 => [(0, .ref (ead E 70)), (1, .int x1), (2, .int i3)]) (fun self5 hself5 i3 s4 => ?_) fu (nI 0) s
      unfold b_X8_from_33
      refine MF.iload_n C e_X8_from_33 2 rfl rfl ?_
      refine MF.sipush (v := (nI 515)) C e_X8_from_34 (by decide) ?_
      refine MF.icmp_ge (tgt := 64) C e_X8_from_37 (by decide) (fun _ => ?_) (fun _ => ?_)
      · refine MF.iconst (v := (nI 1)) C e_X8_from_64 rfl ?_
        exact MF.iret C e_X8_from_65
      · refine MF.aload_n C e_X8_from_40 0 rfl rfl ?_
        refine MF.getR (j := 71) C cf_X8 l_X8_7 e_X8_from_41 kF_70_0 ?_
        refine MF.iload_n C e_X8_from_44 2 rfl rfl ?_
        refine MF.aload_n C e_X8_from_45 0 rfl rfl ?_
        refine MF.getR (j := 72) C cf_X8 l_X8_13 e_X8_from_46 kF_70_1 ?_
        refine MF.sipush (v := (nI 515)) C e_X8_from_49 (by decide) ?_
        refine MF.iload_n C e_X8_from_52 1 rfl rfl ?_
        refine MF.imul C e_X8_from_53 ?_
        refine MF.iload_n C e_X8_from_54 2 rfl rfl ?_
        refine MF.iadd C e_X8_from_55 ?_
        refine MF.iald C e_X8_from_56 kA_72 (fun v6 => ?_)
        refine MF.iast C e_X8_from_57 kA_71 (fun s7 => ?_)
        refine MF.iinc (v := (nI 1)) (lv' := [(0, .ref (ead E 70)), (1, .int x1), (2, .int (i3 + (nI 1)))]) C e_X8_from_58 2 rfl rfl (by decide) rfl ?_
        refine MF.goto (tgt := 33) C e_X8_from_61 (by decide) ?_
        exact hself5 (i3 + (nI 1)) s7
    · refine MF.aload_n C e_X8_from_26 0 rfl rfl ?_
      refine MF.callVI (As := []) C (R_X8_no hD s) m_X8_no k_X8_129 kO_70 rfl (by decide) e_X8_from_27 rfl rfl (Nat.le_of_ble_eq_true rfl) (fun v8 s9 => ?_)
      exact MF.iret C e_X8_from_30
  · refine MF.aload_n C e_X8_from_10 0 rfl rfl ?_
    refine MF.bipush (v := (-2 : Int32)) C e_X8_from_11 (by decide) ?_
    refine MF.callVI (As := [.int (-2 : Int32)]) C (R_X8_bad hD (-2 : Int32) s) m_X8_bad k_X8_88 kO_70 rfl (by decide) e_X8_from_13 rfl rfl (Nat.le_of_ble_eq_true rfl) (fun v10 s11 => ?_)
    exact MF.iret C e_X8_from_16
theorem e_X8_status_0 : Dc cX8_status 0 (.iload_n 1) 1 1 := ⟨by decide +kernel, rfl⟩
theorem e_X8_status_1 : Dc cX8_status 1 (.i2l) 1 2 := ⟨by decide +kernel, rfl⟩
theorem e_X8_status_2 : Dc cX8_status 2 (.lconst 0) 1 3 := ⟨by decide +kernel, rfl⟩
theorem e_X8_status_3 : Dc cX8_status 3 (.ldc2_w 86) 3 6 := ⟨by decide +kernel, rfl⟩
theorem e_X8_status_6 : Dc cX8_status 6 (.invokestatic 75) 3 9 := ⟨by decide +kernel, rfl⟩
theorem e_X8_status_9 : Dc cX8_status 9 (.ifCond .eq 12) 3 12 := ⟨by decide +kernel, rfl⟩
theorem e_X8_status_12 : Dc cX8_status 12 (.aload_n 0) 1 13 := ⟨by decide +kernel, rfl⟩
theorem e_X8_status_13 : Dc cX8_status 13 (.getfield 20) 3 16 := ⟨by decide +kernel, rfl⟩
theorem e_X8_status_16 : Dc cX8_status 16 (.iload_n 1) 1 17 := ⟨by decide +kernel, rfl⟩
theorem e_X8_status_17 : Dc cX8_status 17 (.iaload) 1 18 := ⟨by decide +kernel, rfl⟩
theorem e_X8_status_18 : Dc cX8_status 18 (.goto 8) 3 21 := ⟨by decide +kernel, rfl⟩
theorem e_X8_status_21 : Dc cX8_status 21 (.aload_n 0) 1 22 := ⟨by decide +kernel, rfl⟩
theorem e_X8_status_22 : Dc cX8_status 22 (.iconst (-1)) 1 23 := ⟨by decide +kernel, rfl⟩
theorem e_X8_status_23 : Dc cX8_status 23 (.invokevirtual 88) 3 26 := ⟨by decide +kernel, rfl⟩
theorem e_X8_status_26 : Dc cX8_status 26 (.ireturn) 1 27 := ⟨by decide +kernel, rfl⟩
set_option maxHeartbeats 4000000 in
set_option maxRecDepth 20000 in
theorem R_X8_status (hD : DD E) (x1 : Int32) (s : Sg) : ∀ v τ, (f_X8_status x1 s) = some (v, τ) → RI l E 1 M_X8_status [.ref (ead E 70), .int x1] s v τ := by
  refine ofI hD (by decide +kernel) (Nat.le_of_ble_eq_true rfl) (fun X C => ?_)
  show MF l E X (fun q : Int32 × Sg => QI E X q.1 q.2) (f_X8_status x1 s) s 0 [(0, .ref (ead E 70)), (1, .int x1)] []
  unfold f_X8_status
  refine MF.iload_n C e_X8_status_0 1 rfl rfl ?_
  refine MF.i2l C e_X8_status_1 ?_
  refine MF.lconst (v := (0 : Int64)) C e_X8_status_2 (by decide) ?_
  refine MF.ldc2 C e_X8_status_3 t_X8_86 ?_
  refine MF.callSP (As := [.long (Int32.toInt64 x1), .long (0 : Int64), .long (2 : Int64)]) C (R_X8_in hD (Int32.toInt64 x1) (0 : Int64) (2 : Int64) s) m_X8_in k_X8_75 (by decide) e_X8_status_6 rfl rfl (Nat.le_of_ble_eq_true rfl) (fun v1 => ?_)
  refine MF.if_eq (tgt := 21) C e_X8_status_9 (by decide) (fun _ => ?_) (fun _ => ?_)
  · refine MF.aload_n C e_X8_status_21 0 rfl rfl ?_
    refine MF.iconst (v := (-1 : Int32)) C e_X8_status_22 rfl ?_
    refine MF.callVI (As := [.int (-1 : Int32)]) C (R_X8_bad hD (-1 : Int32) s) m_X8_bad k_X8_88 kO_70 rfl (by decide) e_X8_status_23 rfl rfl (Nat.le_of_ble_eq_true rfl) (fun v2 s3 => ?_)
    exact MF.iret C e_X8_status_26
  · refine MF.aload_n C e_X8_status_12 0 rfl rfl ?_
    refine MF.getR (j := 74) C cf_X8 l_X8_20 e_X8_status_13 kF_70_3 ?_
    refine MF.iload_n C e_X8_status_16 1 rfl rfl ?_
    refine MF.iald C e_X8_status_17 kA_74 (fun v4 => ?_)
    refine MF.goto (tgt := 26) C e_X8_status_18 (by decide) ?_
    exact MF.iret C e_X8_status_26
theorem e_X8_counted_0 : Dc cX8_counted 0 (.iload_n 1) 1 1 := ⟨by decide +kernel, rfl⟩
theorem e_X8_counted_1 : Dc cX8_counted 1 (.iconst 5) 1 2 := ⟨by decide +kernel, rfl⟩
theorem e_X8_counted_2 : Dc cX8_counted 2 (.if_icmp .ge 12) 3 5 := ⟨by decide +kernel, rfl⟩
theorem e_X8_counted_5 : Dc cX8_counted 5 (.aload_n 0) 1 6 := ⟨by decide +kernel, rfl⟩
theorem e_X8_counted_6 : Dc cX8_counted 6 (.getfield 7) 3 9 := ⟨by decide +kernel, rfl⟩
theorem e_X8_counted_9 : Dc cX8_counted 9 (.iload_n 1) 1 10 := ⟨by decide +kernel, rfl⟩
theorem e_X8_counted_10 : Dc cX8_counted 10 (.iaload) 1 11 := ⟨by decide +kernel, rfl⟩
theorem e_X8_counted_11 : Dc cX8_counted 11 (.goto 7) 3 14 := ⟨by decide +kernel, rfl⟩
theorem e_X8_counted_14 : Dc cX8_counted 14 (.aload_n 0) 1 15 := ⟨by decide +kernel, rfl⟩
theorem e_X8_counted_15 : Dc cX8_counted 15 (.getfield 248) 3 18 := ⟨by decide +kernel, rfl⟩
theorem e_X8_counted_18 : Dc cX8_counted 18 (.ireturn) 1 19 := ⟨by decide +kernel, rfl⟩
set_option maxHeartbeats 4000000 in
set_option maxRecDepth 20000 in
theorem R_X8_counted (hD : DD E) (x1 : Int32) (s : Sg) : ∀ v, (f_X8_counted x1 s) = some v → RI l E 0 M_X8_counted [.ref (ead E 70), .int x1] s v s := by
  refine ofP hD (by decide +kernel) (Nat.le_of_ble_eq_true rfl) (fun X C => ?_)
  show MF l E X (fun q : Int32 => QI E X q s) (f_X8_counted x1 s) s 0 [(0, .ref (ead E 70)), (1, .int x1)] []
  unfold f_X8_counted
  refine MF.iload_n C e_X8_counted_0 1 rfl rfl ?_
  refine MF.iconst (v := (nI 5)) C e_X8_counted_1 rfl ?_
  refine MF.icmp_ge (tgt := 14) C e_X8_counted_2 (by decide) (fun _ => ?_) (fun _ => ?_)
  · refine MF.aload_n C e_X8_counted_14 0 rfl rfl ?_
    refine MF.get C cf_X8 l_X8_248 e_X8_counted_15 kF_70_22 ?_
    exact MF.iretp C e_X8_counted_18
  · refine MF.aload_n C e_X8_counted_5 0 rfl rfl ?_
    refine MF.getR (j := 71) C cf_X8 l_X8_7 e_X8_counted_6 kF_70_0 ?_
    refine MF.iload_n C e_X8_counted_9 1 rfl rfl ?_
    refine MF.iald C e_X8_counted_10 kA_71 (fun v1 => ?_)
    refine MF.goto (tgt := 18) C e_X8_counted_11 (by decide) ?_
    exact MF.iretp C e_X8_counted_18
theorem e_X8_count_0 : Dc cX8_count 0 (.iload_n 1) 1 1 := ⟨by decide +kernel, rfl⟩
theorem e_X8_count_1 : Dc cX8_count 1 (.i2l) 1 2 := ⟨by decide +kernel, rfl⟩
theorem e_X8_count_2 : Dc cX8_count 2 (.lconst 0) 1 3 := ⟨by decide +kernel, rfl⟩
theorem e_X8_count_3 : Dc cX8_count 3 (.ldc2_w 111) 3 6 := ⟨by decide +kernel, rfl⟩
theorem e_X8_count_6 : Dc cX8_count 6 (.invokestatic 75) 3 9 := ⟨by decide +kernel, rfl⟩
theorem e_X8_count_9 : Dc cX8_count 9 (.ifCond .eq 11) 3 12 := ⟨by decide +kernel, rfl⟩
theorem e_X8_count_12 : Dc cX8_count 12 (.aload_n 0) 1 13 := ⟨by decide +kernel, rfl⟩
theorem e_X8_count_13 : Dc cX8_count 13 (.iload_n 1) 1 14 := ⟨by decide +kernel, rfl⟩
theorem e_X8_count_14 : Dc cX8_count 14 (.invokevirtual 305) 3 17 := ⟨by decide +kernel, rfl⟩
theorem e_X8_count_17 : Dc cX8_count 17 (.goto 9) 3 20 := ⟨by decide +kernel, rfl⟩
theorem e_X8_count_20 : Dc cX8_count 20 (.aload_n 0) 1 21 := ⟨by decide +kernel, rfl⟩
theorem e_X8_count_21 : Dc cX8_count 21 (.bipush (-2)) 2 23 := ⟨by decide +kernel, rfl⟩
theorem e_X8_count_23 : Dc cX8_count 23 (.invokevirtual 88) 3 26 := ⟨by decide +kernel, rfl⟩
theorem e_X8_count_26 : Dc cX8_count 26 (.ireturn) 1 27 := ⟨by decide +kernel, rfl⟩
set_option maxHeartbeats 4000000 in
set_option maxRecDepth 20000 in
theorem R_X8_count (hD : DD E) (x1 : Int32) (s : Sg) : ∀ v τ, (f_X8_count x1 s) = some (v, τ) → RI l E 1 M_X8_count [.ref (ead E 70), .int x1] s v τ := by
  refine ofI hD (by decide +kernel) (Nat.le_of_ble_eq_true rfl) (fun X C => ?_)
  show MF l E X (fun q : Int32 × Sg => QI E X q.1 q.2) (f_X8_count x1 s) s 0 [(0, .ref (ead E 70)), (1, .int x1)] []
  unfold f_X8_count
  refine MF.iload_n C e_X8_count_0 1 rfl rfl ?_
  refine MF.i2l C e_X8_count_1 ?_
  refine MF.lconst (v := (0 : Int64)) C e_X8_count_2 (by decide) ?_
  refine MF.ldc2 C e_X8_count_3 t_X8_111 ?_
  refine MF.callSP (As := [.long (Int32.toInt64 x1), .long (0 : Int64), .long (5 : Int64)]) C (R_X8_in hD (Int32.toInt64 x1) (0 : Int64) (5 : Int64) s) m_X8_in k_X8_75 (by decide) e_X8_count_6 rfl rfl (Nat.le_of_ble_eq_true rfl) (fun v1 => ?_)
  refine MF.if_eq (tgt := 20) C e_X8_count_9 (by decide) (fun _ => ?_) (fun _ => ?_)
  · refine MF.aload_n C e_X8_count_20 0 rfl rfl ?_
    refine MF.bipush (v := (-2 : Int32)) C e_X8_count_21 (by decide) ?_
    refine MF.callVI (As := [.int (-2 : Int32)]) C (R_X8_bad hD (-2 : Int32) s) m_X8_bad k_X8_88 kO_70 rfl (by decide) e_X8_count_23 rfl rfl (Nat.le_of_ble_eq_true rfl) (fun v2 s3 => ?_)
    exact MF.iret C e_X8_count_26
  · refine MF.aload_n C e_X8_count_12 0 rfl rfl ?_
    refine MF.iload_n C e_X8_count_13 1 rfl rfl ?_
    refine MF.callVP (As := [.int x1]) C (R_X8_counted hD x1 s) m_X8_counted k_X8_305 kO_70 rfl (by decide) e_X8_count_14 rfl rfl (Nat.le_of_ble_eq_true rfl) (fun v4 => ?_)
    refine MF.goto (tgt := 26) C e_X8_count_17 (by decide) ?_
    exact MF.iret C e_X8_count_26
theorem e_X8_sums_0 : Dc cX8_sums 0 (.lload_n 1) 1 1 := ⟨by decide +kernel, rfl⟩
theorem e_X8_sums_1 : Dc cX8_sums 1 (.lstore 5) 2 3 := ⟨by decide +kernel, rfl⟩
theorem e_X8_sums_3 : Dc cX8_sums 3 (.iconst 0) 1 4 := ⟨by decide +kernel, rfl⟩
theorem e_X8_sums_4 : Dc cX8_sums 4 (.istore 7) 2 6 := ⟨by decide +kernel, rfl⟩
theorem e_X8_sums_6 : Dc cX8_sums 6 (.iload 7) 2 8 := ⟨by decide +kernel, rfl⟩
theorem e_X8_sums_8 : Dc cX8_sums 8 (.iload 4) 2 10 := ⟨by decide +kernel, rfl⟩
theorem e_X8_sums_10 : Dc cX8_sums 10 (.if_icmp .ge 28) 3 13 := ⟨by decide +kernel, rfl⟩
theorem e_X8_sums_13 : Dc cX8_sums 13 (.ldc2_w 308) 3 16 := ⟨by decide +kernel, rfl⟩
theorem e_X8_sums_16 : Dc cX8_sums 16 (.lload 5) 2 18 := ⟨by decide +kernel, rfl⟩
theorem e_X8_sums_18 : Dc cX8_sums 18 (.lmul) 1 19 := ⟨by decide +kernel, rfl⟩
theorem e_X8_sums_19 : Dc cX8_sums 19 (.aload_n 0) 1 20 := ⟨by decide +kernel, rfl⟩
theorem e_X8_sums_20 : Dc cX8_sums 20 (.getfield 7) 3 23 := ⟨by decide +kernel, rfl⟩
theorem e_X8_sums_23 : Dc cX8_sums 23 (.iload_n 3) 1 24 := ⟨by decide +kernel, rfl⟩
theorem e_X8_sums_24 : Dc cX8_sums 24 (.iload 7) 2 26 := ⟨by decide +kernel, rfl⟩
theorem e_X8_sums_26 : Dc cX8_sums 26 (.iadd) 1 27 := ⟨by decide +kernel, rfl⟩
theorem e_X8_sums_27 : Dc cX8_sums 27 (.iaload) 1 28 := ⟨by decide +kernel, rfl⟩
theorem e_X8_sums_28 : Dc cX8_sums 28 (.i2l) 1 29 := ⟨by decide +kernel, rfl⟩
theorem e_X8_sums_29 : Dc cX8_sums 29 (.ladd) 1 30 := ⟨by decide +kernel, rfl⟩
theorem e_X8_sums_30 : Dc cX8_sums 30 (.lstore 5) 2 32 := ⟨by decide +kernel, rfl⟩
theorem e_X8_sums_32 : Dc cX8_sums 32 (.iinc 7 1) 3 35 := ⟨by decide +kernel, rfl⟩
theorem e_X8_sums_35 : Dc cX8_sums 35 (.goto (-29)) 3 38 := ⟨by decide +kernel, rfl⟩
theorem e_X8_sums_38 : Dc cX8_sums 38 (.lload 5) 2 40 := ⟨by decide +kernel, rfl⟩
theorem e_X8_sums_40 : Dc cX8_sums 40 (.lreturn) 1 41 := ⟨by decide +kernel, rfl⟩
set_option maxHeartbeats 4000000 in
set_option maxRecDepth 20000 in
theorem R_X8_sums (hD : DD E) (x1 : Int64) (x3 : Int32) (x4 : Int32) (s : Sg) : ∀ v, (f_X8_sums x1 x3 x4 s) = some v → RLg l E 0 M_X8_sums [.ref (ead E 70), .long x1, .int x3, .int x4] s v s := by
  refine ofL hD (by decide +kernel) (Nat.le_of_ble_eq_true rfl) (fun X C => ?_)
  show MF l E X (fun q : Int64 => QL E X q s) (f_X8_sums x1 x3 x4 s) s 0 [(0, .ref (ead E 70)), (1, .long x1), (3, .int x3), (4, .int x4)] []
  unfold f_X8_sums
  refine MF.lload_n C e_X8_sums_0 1 rfl rfl ?_
  refine MF.lstore (lv' := [(0, .ref (ead E 70)), (1, .long x1), (3, .int x3), (4, .int x4), (5, .long x1)]) C e_X8_sums_1 (by decide) rfl ?_
  refine MF.iconst (v := (nI 0)) C e_X8_sums_3 rfl ?_
  refine MF.istore (lv' := [(0, .ref (ead E 70)), (1, .long x1), (3, .int x3), (4, .int x4), (5, .long x1), (7, .int (nI 0))]) C e_X8_sums_4 (by decide) rfl ?_
  refine MF.sub [0, 2, 3, 4, 5] rfl ?_
  refine MF.loop2 (fun i1 i2 => s) (fun i1 i2 => [(0, .ref (ead E 70)), (3, .int x3), (4, .int x4), (5, .long i1), (7, .int i2)]) (fun self3 hself3 i1 i2 => ?_) fu x1 (nI 0)
  unfold b_X8_sums_6
  refine MF.iload C e_X8_sums_6 4 rfl ?_
  refine MF.iload C e_X8_sums_8 2 rfl ?_
  refine MF.icmp_ge (tgt := 38) C e_X8_sums_10 (by decide) (fun _ => ?_) (fun _ => ?_)
  · refine MF.lload C e_X8_sums_38 3 rfl ?_
    exact MF.lretp C e_X8_sums_40
  · refine MF.ldc2 C e_X8_sums_13 t_X8_308 ?_
    refine MF.lload C e_X8_sums_16 3 rfl ?_
    refine MF.lmul C e_X8_sums_18 ?_
    refine MF.aload_n C e_X8_sums_19 0 rfl rfl ?_
    refine MF.getR (j := 71) C cf_X8 l_X8_7 e_X8_sums_20 kF_70_0 ?_
    refine MF.iload_n C e_X8_sums_23 1 rfl rfl ?_
    refine MF.iload C e_X8_sums_24 4 rfl ?_
    refine MF.iadd C e_X8_sums_26 ?_
    refine MF.iald C e_X8_sums_27 kA_71 (fun v4 => ?_)
    refine MF.i2l C e_X8_sums_28 ?_
    refine MF.ladd C e_X8_sums_29 ?_
    refine MF.nmL (fun v5 => ?_)
    refine MF.lstore (lv' := [(0, .ref (ead E 70)), (3, .int x3), (4, .int x4), (5, .long v5), (7, .int i2)]) C e_X8_sums_30 (by decide) rfl ?_
    refine MF.iinc (v := (nI 1)) (lv' := [(0, .ref (ead E 70)), (3, .int x3), (4, .int x4), (5, .long v5), (7, .int (i2 + (nI 1)))]) C e_X8_sums_32 4 rfl rfl (by decide) rfl ?_
    refine MF.goto (tgt := 6) C e_X8_sums_35 (by decide) ?_
    exact hself3 v5 (i2 + (nI 1))
theorem e_X8_digest_0 : Dc cX8_digest 0 (.ldc2_w 310) 3 3 := ⟨by decide +kernel, rfl⟩
theorem e_X8_digest_3 : Dc cX8_digest 3 (.lstore_n 1) 1 4 := ⟨by decide +kernel, rfl⟩
theorem e_X8_digest_4 : Dc cX8_digest 4 (.iconst 0) 1 5 := ⟨by decide +kernel, rfl⟩
theorem e_X8_digest_5 : Dc cX8_digest 5 (.istore_n 3) 1 6 := ⟨by decide +kernel, rfl⟩
theorem e_X8_digest_6 : Dc cX8_digest 6 (.iload_n 3) 1 7 := ⟨by decide +kernel, rfl⟩
theorem e_X8_digest_7 : Dc cX8_digest 7 (.bipush 6) 2 9 := ⟨by decide +kernel, rfl⟩
theorem e_X8_digest_9 : Dc cX8_digest 9 (.if_icmp .ge 22) 3 12 := ⟨by decide +kernel, rfl⟩
theorem e_X8_digest_12 : Dc cX8_digest 12 (.ldc2_w 308) 3 15 := ⟨by decide +kernel, rfl⟩
theorem e_X8_digest_15 : Dc cX8_digest 15 (.lload_n 1) 1 16 := ⟨by decide +kernel, rfl⟩
theorem e_X8_digest_16 : Dc cX8_digest 16 (.lmul) 1 17 := ⟨by decide +kernel, rfl⟩
theorem e_X8_digest_17 : Dc cX8_digest 17 (.aload_n 0) 1 18 := ⟨by decide +kernel, rfl⟩
theorem e_X8_digest_18 : Dc cX8_digest 18 (.iload_n 3) 1 19 := ⟨by decide +kernel, rfl⟩
theorem e_X8_digest_19 : Dc cX8_digest 19 (.invokevirtual 305) 3 22 := ⟨by decide +kernel, rfl⟩
theorem e_X8_digest_22 : Dc cX8_digest 22 (.i2l) 1 23 := ⟨by decide +kernel, rfl⟩
theorem e_X8_digest_23 : Dc cX8_digest 23 (.ladd) 1 24 := ⟨by decide +kernel, rfl⟩
theorem e_X8_digest_24 : Dc cX8_digest 24 (.lstore_n 1) 1 25 := ⟨by decide +kernel, rfl⟩
theorem e_X8_digest_25 : Dc cX8_digest 25 (.iinc 3 1) 3 28 := ⟨by decide +kernel, rfl⟩
theorem e_X8_digest_28 : Dc cX8_digest 28 (.goto (-22)) 3 31 := ⟨by decide +kernel, rfl⟩
theorem e_X8_digest_31 : Dc cX8_digest 31 (.aload_n 0) 1 32 := ⟨by decide +kernel, rfl⟩
theorem e_X8_digest_32 : Dc cX8_digest 32 (.lload_n 1) 1 33 := ⟨by decide +kernel, rfl⟩
theorem e_X8_digest_33 : Dc cX8_digest 33 (.iconst 5) 1 34 := ⟨by decide +kernel, rfl⟩
theorem e_X8_digest_34 : Dc cX8_digest 34 (.iconst 4) 1 35 := ⟨by decide +kernel, rfl⟩
theorem e_X8_digest_35 : Dc cX8_digest 35 (.aload_n 0) 1 36 := ⟨by decide +kernel, rfl⟩
theorem e_X8_digest_36 : Dc cX8_digest 36 (.invokevirtual 71) 3 39 := ⟨by decide +kernel, rfl⟩
theorem e_X8_digest_39 : Dc cX8_digest 39 (.imul) 1 40 := ⟨by decide +kernel, rfl⟩
theorem e_X8_digest_40 : Dc cX8_digest 40 (.invokevirtual 312) 3 43 := ⟨by decide +kernel, rfl⟩
theorem e_X8_digest_43 : Dc cX8_digest 43 (.lstore_n 1) 1 44 := ⟨by decide +kernel, rfl⟩
theorem e_X8_digest_44 : Dc cX8_digest 44 (.aload_n 0) 1 45 := ⟨by decide +kernel, rfl⟩
theorem e_X8_digest_45 : Dc cX8_digest 45 (.lload_n 1) 1 46 := ⟨by decide +kernel, rfl⟩
theorem e_X8_digest_46 : Dc cX8_digest 46 (.bipush 33) 2 48 := ⟨by decide +kernel, rfl⟩
theorem e_X8_digest_48 : Dc cX8_digest 48 (.bipush 6) 2 50 := ⟨by decide +kernel, rfl⟩
theorem e_X8_digest_50 : Dc cX8_digest 50 (.aload_n 0) 1 51 := ⟨by decide +kernel, rfl⟩
theorem e_X8_digest_51 : Dc cX8_digest 51 (.invokevirtual 79) 3 54 := ⟨by decide +kernel, rfl⟩
theorem e_X8_digest_54 : Dc cX8_digest 54 (.imul) 1 55 := ⟨by decide +kernel, rfl⟩
theorem e_X8_digest_55 : Dc cX8_digest 55 (.invokevirtual 312) 3 58 := ⟨by decide +kernel, rfl⟩
theorem e_X8_digest_58 : Dc cX8_digest 58 (.lstore_n 1) 1 59 := ⟨by decide +kernel, rfl⟩
theorem e_X8_digest_59 : Dc cX8_digest 59 (.aload_n 0) 1 60 := ⟨by decide +kernel, rfl⟩
theorem e_X8_digest_60 : Dc cX8_digest 60 (.lload_n 1) 1 61 := ⟨by decide +kernel, rfl⟩
theorem e_X8_digest_61 : Dc cX8_digest 61 (.bipush 81) 2 63 := ⟨by decide +kernel, rfl⟩
theorem e_X8_digest_63 : Dc cX8_digest 63 (.bipush 16) 2 65 := ⟨by decide +kernel, rfl⟩
theorem e_X8_digest_65 : Dc cX8_digest 65 (.invokevirtual 312) 3 68 := ⟨by decide +kernel, rfl⟩
theorem e_X8_digest_68 : Dc cX8_digest 68 (.lstore_n 1) 1 69 := ⟨by decide +kernel, rfl⟩
theorem e_X8_digest_69 : Dc cX8_digest 69 (.aload_n 0) 1 70 := ⟨by decide +kernel, rfl⟩
theorem e_X8_digest_70 : Dc cX8_digest 70 (.lload_n 1) 1 71 := ⟨by decide +kernel, rfl⟩
theorem e_X8_digest_71 : Dc cX8_digest 71 (.bipush 97) 2 73 := ⟨by decide +kernel, rfl⟩
theorem e_X8_digest_73 : Dc cX8_digest 73 (.iconst 3) 1 74 := ⟨by decide +kernel, rfl⟩
theorem e_X8_digest_74 : Dc cX8_digest 74 (.aload_n 0) 1 75 := ⟨by decide +kernel, rfl⟩
theorem e_X8_digest_75 : Dc cX8_digest 75 (.getfield 7) 3 78 := ⟨by decide +kernel, rfl⟩
theorem e_X8_digest_78 : Dc cX8_digest 78 (.iconst 3) 1 79 := ⟨by decide +kernel, rfl⟩
theorem e_X8_digest_79 : Dc cX8_digest 79 (.iaload) 1 80 := ⟨by decide +kernel, rfl⟩
theorem e_X8_digest_80 : Dc cX8_digest 80 (.imul) 1 81 := ⟨by decide +kernel, rfl⟩
theorem e_X8_digest_81 : Dc cX8_digest 81 (.invokevirtual 312) 3 84 := ⟨by decide +kernel, rfl⟩
theorem e_X8_digest_84 : Dc cX8_digest 84 (.lreturn) 1 85 := ⟨by decide +kernel, rfl⟩
set_option maxHeartbeats 4000000 in
set_option maxRecDepth 20000 in
theorem R_X8_digest (hD : DD E) (s : Sg) : ∀ v, (f_X8_digest s) = some v → RLg l E 1 M_X8_digest [.ref (ead E 70)] s v s := by
  refine ofL hD (by decide +kernel) (Nat.le_of_ble_eq_true rfl) (fun X C => ?_)
  show MF l E X (fun q : Int64 => QL E X q s) (f_X8_digest s) s 0 [(0, .ref (ead E 70))] []
  unfold f_X8_digest
  refine MF.ldc2 C e_X8_digest_0 t_X8_310 ?_
  refine MF.lstore_n (lv' := [(0, .ref (ead E 70)), (1, .long (911 : Int64))]) C e_X8_digest_3 (by decide) rfl ?_
  refine MF.iconst (v := (nI 0)) C e_X8_digest_4 rfl ?_
  refine MF.istore_n (lv' := [(0, .ref (ead E 70)), (1, .long (911 : Int64)), (3, .int (nI 0))]) C e_X8_digest_5 (by decide) rfl ?_
  refine MF.join (fun j : Int64 → Option Int64 => ∀ (a1 : Int64), MF l E X (fun q : Int64 => QL E X q s) (j a1) s 31 [(0, .ref (ead E 70)), (1, .long a1)] []) ?_ (fun j2 hj2 => ?_)
  · intro a1
    refine MF.aload_n C e_X8_digest_31 0 rfl rfl ?_
    refine MF.lload_n C e_X8_digest_32 1 rfl rfl ?_
    refine MF.iconst (v := (nI 5)) C e_X8_digest_33 rfl ?_
    refine MF.iconst (v := (nI 4)) C e_X8_digest_34 rfl ?_
    refine MF.aload_n C e_X8_digest_35 0 rfl rfl ?_
    refine MF.callVP (As := []) C (R_X8_streets hD s) m_X8_streets k_X8_71 kO_70 rfl (by decide) e_X8_digest_36 rfl rfl (Nat.le_of_ble_eq_true rfl) (fun v3 => ?_)
    refine MF.imul C e_X8_digest_39 ?_
    refine MF.callVL (As := [.long a1, .int (nI 5), .int ((nI 4) * v3)]) C (R_X8_sums hD a1 (nI 5) ((nI 4) * v3) s) m_X8_sums k_X8_312 kO_70 rfl (by decide) e_X8_digest_40 rfl rfl (Nat.le_of_ble_eq_true rfl) (fun v4 => ?_)
    refine MF.lstore_n (lv' := [(0, .ref (ead E 70)), (1, .long v4)]) C e_X8_digest_43 (by decide) rfl ?_
    refine MF.aload_n C e_X8_digest_44 0 rfl rfl ?_
    refine MF.lload_n C e_X8_digest_45 1 rfl rfl ?_
    refine MF.bipush (v := (nI 33)) C e_X8_digest_46 (by decide) ?_
    refine MF.bipush (v := (nI 6)) C e_X8_digest_48 (by decide) ?_
    refine MF.aload_n C e_X8_digest_50 0 rfl rfl ?_
    refine MF.callVP (As := []) C (R_X8_events hD s) m_X8_events k_X8_79 kO_70 rfl (by decide) e_X8_digest_51 rfl rfl (Nat.le_of_ble_eq_true rfl) (fun v5 => ?_)
    refine MF.imul C e_X8_digest_54 ?_
    refine MF.callVL (As := [.long v4, .int (nI 33), .int ((nI 6) * v5)]) C (R_X8_sums hD v4 (nI 33) ((nI 6) * v5) s) m_X8_sums k_X8_312 kO_70 rfl (by decide) e_X8_digest_55 rfl rfl (Nat.le_of_ble_eq_true rfl) (fun v6 => ?_)
    refine MF.lstore_n (lv' := [(0, .ref (ead E 70)), (1, .long v6)]) C e_X8_digest_58 (by decide) rfl ?_
    refine MF.aload_n C e_X8_digest_59 0 rfl rfl ?_
    refine MF.lload_n C e_X8_digest_60 1 rfl rfl ?_
    refine MF.bipush (v := (nI 81)) C e_X8_digest_61 (by decide) ?_
    refine MF.bipush (v := (nI 16)) C e_X8_digest_63 (by decide) ?_
    refine MF.callVL (As := [.long v6, .int (nI 81), .int (nI 16)]) C (R_X8_sums hD v6 (nI 81) (nI 16) s) m_X8_sums k_X8_312 kO_70 rfl (by decide) e_X8_digest_65 rfl rfl (Nat.le_of_ble_eq_true rfl) (fun v7 => ?_)
    refine MF.lstore_n (lv' := [(0, .ref (ead E 70)), (1, .long v7)]) C e_X8_digest_68 (by decide) rfl ?_
    refine MF.aload_n C e_X8_digest_69 0 rfl rfl ?_
    refine MF.lload_n C e_X8_digest_70 1 rfl rfl ?_
    refine MF.bipush (v := (nI 97)) C e_X8_digest_71 (by decide) ?_
    refine MF.iconst (v := (nI 3)) C e_X8_digest_73 rfl ?_
    refine MF.aload_n C e_X8_digest_74 0 rfl rfl ?_
    refine MF.getR (j := 71) C cf_X8 l_X8_7 e_X8_digest_75 kF_70_0 ?_
    refine MF.iconst (v := (nI 3)) C e_X8_digest_78 rfl ?_
    refine MF.iald C e_X8_digest_79 kA_71 (fun v8 => ?_)
    refine MF.imul C e_X8_digest_80 ?_
    refine MF.callVL (As := [.long v7, .int (nI 97), .int ((nI 3) * v8)]) C (R_X8_sums hD v7 (nI 97) ((nI 3) * v8) s) m_X8_sums k_X8_312 kO_70 rfl (by decide) e_X8_digest_81 rfl rfl (Nat.le_of_ble_eq_true rfl) (fun v9 => ?_)
    exact MF.lretp C e_X8_digest_84
  refine MF.loop2 (fun i10 i11 => s) (fun i10 i11 => [(0, .ref (ead E 70)), (1, .long i10), (3, .int i11)]) (fun self12 hself12 i10 i11 => ?_) fu (911 : Int64) (nI 0)
  unfold b_X8_digest_6
  refine MF.iload_n C e_X8_digest_6 2 rfl rfl ?_
  refine MF.bipush (v := (nI 6)) C e_X8_digest_7 (by decide) ?_
  refine MF.icmp_ge (tgt := 31) C e_X8_digest_9 (by decide) (fun _ => ?_) (fun _ => ?_)
  · refine MF.sub [0, 1] rfl ?_
    exact hj2 i10
  · refine MF.ldc2 C e_X8_digest_12 t_X8_308 ?_
    refine MF.lload_n C e_X8_digest_15 1 rfl rfl ?_
    refine MF.lmul C e_X8_digest_16 ?_
    refine MF.aload_n C e_X8_digest_17 0 rfl rfl ?_
    refine MF.iload_n C e_X8_digest_18 2 rfl rfl ?_
    refine MF.callVP (As := [.int i11]) C (R_X8_counted hD i11 s) m_X8_counted k_X8_305 kO_70 rfl (by decide) e_X8_digest_19 rfl rfl (Nat.le_of_ble_eq_true rfl) (fun v13 => ?_)
    refine MF.i2l C e_X8_digest_22 ?_
    refine MF.ladd C e_X8_digest_23 ?_
    refine MF.nmL (fun v14 => ?_)
    refine MF.lstore_n (lv' := [(0, .ref (ead E 70)), (1, .long v14), (3, .int i11)]) C e_X8_digest_24 (by decide) rfl ?_
    refine MF.iinc (v := (nI 1)) (lv' := [(0, .ref (ead E 70)), (1, .long v14), (3, .int (i11 + (nI 1)))]) C e_X8_digest_25 2 rfl rfl (by decide) rfl ?_
    refine MF.goto (tgt := 6) C e_X8_digest_28 (by decide) ?_
    exact hself12 v14 (i11 + (nI 1))
end WK
