section WK
variable {l : Launch} {E : EX}
theorem e_X7_town_0 : Dc cX7_town 0 (.aload_n 0) 1 1 := ⟨by decide +kernel, rfl⟩
theorem e_X7_town_1 : Dc cX7_town 1 (.getfield 62) 3 4 := ⟨by decide +kernel, rfl⟩
theorem e_X7_town_4 : Dc cX7_town 4 (.iconst 0) 1 5 := ⟨by decide +kernel, rfl⟩
theorem e_X7_town_5 : Dc cX7_town 5 (.iload_n 1) 1 6 := ⟨by decide +kernel, rfl⟩
theorem e_X7_town_6 : Dc cX7_town 6 (.iastore) 1 7 := ⟨by decide +kernel, rfl⟩
theorem e_X7_town_7 : Dc cX7_town 7 (.aload_n 0) 1 8 := ⟨by decide +kernel, rfl⟩
theorem e_X7_town_8 : Dc cX7_town 8 (.iconst 0) 1 9 := ⟨by decide +kernel, rfl⟩
theorem e_X7_town_9 : Dc cX7_town 9 (.invokevirtual 79) 3 12 := ⟨by decide +kernel, rfl⟩
theorem e_X7_town_12 : Dc cX7_town 12 (.ireturn) 1 13 := ⟨by decide +kernel, rfl⟩
set_option maxHeartbeats 4000000 in
set_option maxRecDepth 20000 in
theorem R_X7_town (hD : DD E) (x1 : Int32) (s : Sg) : ∀ v τ, (f_X7_town x1 s) = some (v, τ) → RI l E 6 M_X7_town [.ref (ead E 0), .int x1] s v τ := by
  refine ofI hD (by decide +kernel) (Nat.le_of_ble_eq_true rfl) (fun X C => ?_)
  show MF l E X (fun q : Int32 × Sg => QI E X q.1 q.2) (f_X7_town x1 s) s 0 [(0, .ref (ead E 0)), (1, .int x1)] []
  unfold f_X7_town
  refine MF.aload_n C e_X7_town_0 0 rfl rfl ?_
  refine MF.getR (j := 69) C cf_X7 l_X7_62 e_X7_town_1 kF_0_9 ?_
  refine MF.iconst (v := (nI 0)) C e_X7_town_4 rfl ?_
  refine MF.iload_n C e_X7_town_5 1 rfl rfl ?_
  refine MF.iast C e_X7_town_6 kA_69 (fun s1 => ?_)
  refine MF.aload_n C e_X7_town_7 0 rfl rfl ?_
  refine MF.iconst (v := (nI 0)) C e_X7_town_8 rfl ?_
  refine MF.callVI (As := [.int (nI 0)]) C (R_X7_tell hD (nI 0) s1) m_X7_tell k_X7_79 kO_0 rfl (by decide) e_X7_town_9 rfl rfl (Nat.le_of_ble_eq_true rfl) (fun v2 s3 => ?_)
  exact MF.iret C e_X7_town_12
theorem e_X7_street_0 : Dc cX7_street 0 (.aload_n 0) 1 1 := ⟨by decide +kernel, rfl⟩
theorem e_X7_street_1 : Dc cX7_street 1 (.getfield 62) 3 4 := ⟨by decide +kernel, rfl⟩
theorem e_X7_street_4 : Dc cX7_street 4 (.iconst 0) 1 5 := ⟨by decide +kernel, rfl⟩
theorem e_X7_street_5 : Dc cX7_street 5 (.iload_n 1) 1 6 := ⟨by decide +kernel, rfl⟩
theorem e_X7_street_6 : Dc cX7_street 6 (.iastore) 1 7 := ⟨by decide +kernel, rfl⟩
theorem e_X7_street_7 : Dc cX7_street 7 (.aload_n 0) 1 8 := ⟨by decide +kernel, rfl⟩
theorem e_X7_street_8 : Dc cX7_street 8 (.getfield 62) 3 11 := ⟨by decide +kernel, rfl⟩
theorem e_X7_street_11 : Dc cX7_street 11 (.iconst 1) 1 12 := ⟨by decide +kernel, rfl⟩
theorem e_X7_street_12 : Dc cX7_street 12 (.iload_n 2) 1 13 := ⟨by decide +kernel, rfl⟩
theorem e_X7_street_13 : Dc cX7_street 13 (.iastore) 1 14 := ⟨by decide +kernel, rfl⟩
theorem e_X7_street_14 : Dc cX7_street 14 (.aload_n 0) 1 15 := ⟨by decide +kernel, rfl⟩
theorem e_X7_street_15 : Dc cX7_street 15 (.getfield 62) 3 18 := ⟨by decide +kernel, rfl⟩
theorem e_X7_street_18 : Dc cX7_street 18 (.iconst 2) 1 19 := ⟨by decide +kernel, rfl⟩
theorem e_X7_street_19 : Dc cX7_street 19 (.iload_n 3) 1 20 := ⟨by decide +kernel, rfl⟩
theorem e_X7_street_20 : Dc cX7_street 20 (.iastore) 1 21 := ⟨by decide +kernel, rfl⟩
theorem e_X7_street_21 : Dc cX7_street 21 (.aload_n 0) 1 22 := ⟨by decide +kernel, rfl⟩
theorem e_X7_street_22 : Dc cX7_street 22 (.getfield 62) 3 25 := ⟨by decide +kernel, rfl⟩
theorem e_X7_street_25 : Dc cX7_street 25 (.iconst 3) 1 26 := ⟨by decide +kernel, rfl⟩
theorem e_X7_street_26 : Dc cX7_street 26 (.iload 4) 2 28 := ⟨by decide +kernel, rfl⟩
theorem e_X7_street_28 : Dc cX7_street 28 (.iastore) 1 29 := ⟨by decide +kernel, rfl⟩
theorem e_X7_street_29 : Dc cX7_street 29 (.aload_n 0) 1 30 := ⟨by decide +kernel, rfl⟩
theorem e_X7_street_30 : Dc cX7_street 30 (.iconst 1) 1 31 := ⟨by decide +kernel, rfl⟩
theorem e_X7_street_31 : Dc cX7_street 31 (.invokevirtual 79) 3 34 := ⟨by decide +kernel, rfl⟩
theorem e_X7_street_34 : Dc cX7_street 34 (.ireturn) 1 35 := ⟨by decide +kernel, rfl⟩
set_option maxHeartbeats 4000000 in
set_option maxRecDepth 20000 in
theorem R_X7_street (hD : DD E) (x1 : Int32) (x2 : Int32) (x3 : Int32) (x4 : Int32) (s : Sg) : ∀ v τ, (f_X7_street x1 x2 x3 x4 s) = some (v, τ) → RI l E 6 M_X7_street [.ref (ead E 0), .int x1, .int x2, .int x3, .int x4] s v τ := by
  refine ofI hD (by decide +kernel) (Nat.le_of_ble_eq_true rfl) (fun X C => ?_)
  show MF l E X (fun q : Int32 × Sg => QI E X q.1 q.2) (f_X7_street x1 x2 x3 x4 s) s 0 [(0, .ref (ead E 0)), (1, .int x1), (2, .int x2), (3, .int x3), (4, .int x4)] []
  unfold f_X7_street
  refine MF.aload_n C e_X7_street_0 0 rfl rfl ?_
  refine MF.getR (j := 69) C cf_X7 l_X7_62 e_X7_street_1 kF_0_9 ?_
  refine MF.iconst (v := (nI 0)) C e_X7_street_4 rfl ?_
  refine MF.iload_n C e_X7_street_5 1 rfl rfl ?_
  refine MF.iast C e_X7_street_6 kA_69 (fun s1 => ?_)
  refine MF.aload_n C e_X7_street_7 0 rfl rfl ?_
  refine MF.getR (j := 69) C cf_X7 l_X7_62 e_X7_street_8 kF_0_9 ?_
  refine MF.iconst (v := (nI 1)) C e_X7_street_11 rfl ?_
  refine MF.iload_n C e_X7_street_12 2 rfl rfl ?_
  refine MF.iast C e_X7_street_13 kA_69 (fun s2 => ?_)
  refine MF.aload_n C e_X7_street_14 0 rfl rfl ?_
  refine MF.getR (j := 69) C cf_X7 l_X7_62 e_X7_street_15 kF_0_9 ?_
  refine MF.iconst (v := (nI 2)) C e_X7_street_18 rfl ?_
  refine MF.iload_n C e_X7_street_19 3 rfl rfl ?_
  refine MF.iast C e_X7_street_20 kA_69 (fun s3 => ?_)
  refine MF.aload_n C e_X7_street_21 0 rfl rfl ?_
  refine MF.getR (j := 69) C cf_X7 l_X7_62 e_X7_street_22 kF_0_9 ?_
  refine MF.iconst (v := (nI 3)) C e_X7_street_25 rfl ?_
  refine MF.iload C e_X7_street_26 4 rfl ?_
  refine MF.iast C e_X7_street_28 kA_69 (fun s4 => ?_)
  refine MF.aload_n C e_X7_street_29 0 rfl rfl ?_
  refine MF.iconst (v := (nI 1)) C e_X7_street_30 rfl ?_
  refine MF.callVI (As := [.int (nI 1)]) C (R_X7_tell hD (nI 1) s4) m_X7_tell k_X7_79 kO_0 rfl (by decide) e_X7_street_31 rfl rfl (Nat.le_of_ble_eq_true rfl) (fun v5 s6 => ?_)
  exact MF.iret C e_X7_street_34
theorem e_X7_event_0 : Dc cX7_event 0 (.aload_n 0) 1 1 := ⟨by decide +kernel, rfl⟩
theorem e_X7_event_1 : Dc cX7_event 1 (.getfield 62) 3 4 := ⟨by decide +kernel, rfl⟩
theorem e_X7_event_4 : Dc cX7_event 4 (.iconst 0) 1 5 := ⟨by decide +kernel, rfl⟩
theorem e_X7_event_5 : Dc cX7_event 5 (.iload_n 1) 1 6 := ⟨by decide +kernel, rfl⟩
theorem e_X7_event_6 : Dc cX7_event 6 (.iastore) 1 7 := ⟨by decide +kernel, rfl⟩
theorem e_X7_event_7 : Dc cX7_event 7 (.aload_n 0) 1 8 := ⟨by decide +kernel, rfl⟩
theorem e_X7_event_8 : Dc cX7_event 8 (.getfield 62) 3 11 := ⟨by decide +kernel, rfl⟩
theorem e_X7_event_11 : Dc cX7_event 11 (.iconst 1) 1 12 := ⟨by decide +kernel, rfl⟩
theorem e_X7_event_12 : Dc cX7_event 12 (.iload_n 2) 1 13 := ⟨by decide +kernel, rfl⟩
theorem e_X7_event_13 : Dc cX7_event 13 (.iastore) 1 14 := ⟨by decide +kernel, rfl⟩
theorem e_X7_event_14 : Dc cX7_event 14 (.aload_n 0) 1 15 := ⟨by decide +kernel, rfl⟩
theorem e_X7_event_15 : Dc cX7_event 15 (.getfield 62) 3 18 := ⟨by decide +kernel, rfl⟩
theorem e_X7_event_18 : Dc cX7_event 18 (.iconst 2) 1 19 := ⟨by decide +kernel, rfl⟩
theorem e_X7_event_19 : Dc cX7_event 19 (.iload_n 3) 1 20 := ⟨by decide +kernel, rfl⟩
theorem e_X7_event_20 : Dc cX7_event 20 (.iastore) 1 21 := ⟨by decide +kernel, rfl⟩
theorem e_X7_event_21 : Dc cX7_event 21 (.aload_n 0) 1 22 := ⟨by decide +kernel, rfl⟩
theorem e_X7_event_22 : Dc cX7_event 22 (.getfield 62) 3 25 := ⟨by decide +kernel, rfl⟩
theorem e_X7_event_25 : Dc cX7_event 25 (.iconst 3) 1 26 := ⟨by decide +kernel, rfl⟩
theorem e_X7_event_26 : Dc cX7_event 26 (.iload 4) 2 28 := ⟨by decide +kernel, rfl⟩
theorem e_X7_event_28 : Dc cX7_event 28 (.iastore) 1 29 := ⟨by decide +kernel, rfl⟩
theorem e_X7_event_29 : Dc cX7_event 29 (.aload_n 0) 1 30 := ⟨by decide +kernel, rfl⟩
theorem e_X7_event_30 : Dc cX7_event 30 (.getfield 62) 3 33 := ⟨by decide +kernel, rfl⟩
theorem e_X7_event_33 : Dc cX7_event 33 (.iconst 4) 1 34 := ⟨by decide +kernel, rfl⟩
theorem e_X7_event_34 : Dc cX7_event 34 (.iload 5) 2 36 := ⟨by decide +kernel, rfl⟩
theorem e_X7_event_36 : Dc cX7_event 36 (.iastore) 1 37 := ⟨by decide +kernel, rfl⟩
theorem e_X7_event_37 : Dc cX7_event 37 (.aload_n 0) 1 38 := ⟨by decide +kernel, rfl⟩
theorem e_X7_event_38 : Dc cX7_event 38 (.getfield 62) 3 41 := ⟨by decide +kernel, rfl⟩
theorem e_X7_event_41 : Dc cX7_event 41 (.iconst 5) 1 42 := ⟨by decide +kernel, rfl⟩
theorem e_X7_event_42 : Dc cX7_event 42 (.iload 6) 2 44 := ⟨by decide +kernel, rfl⟩
theorem e_X7_event_44 : Dc cX7_event 44 (.iastore) 1 45 := ⟨by decide +kernel, rfl⟩
theorem e_X7_event_45 : Dc cX7_event 45 (.aload_n 0) 1 46 := ⟨by decide +kernel, rfl⟩
theorem e_X7_event_46 : Dc cX7_event 46 (.iconst 2) 1 47 := ⟨by decide +kernel, rfl⟩
theorem e_X7_event_47 : Dc cX7_event 47 (.invokevirtual 79) 3 50 := ⟨by decide +kernel, rfl⟩
theorem e_X7_event_50 : Dc cX7_event 50 (.ireturn) 1 51 := ⟨by decide +kernel, rfl⟩
set_option maxHeartbeats 4000000 in
set_option maxRecDepth 20000 in
theorem R_X7_event (hD : DD E) (x1 : Int32) (x2 : Int32) (x3 : Int32) (x4 : Int32) (x5 : Int32) (x6 : Int32) (s : Sg) : ∀ v τ, (f_X7_event x1 x2 x3 x4 x5 x6 s) = some (v, τ) → RI l E 6 M_X7_event [.ref (ead E 0), .int x1, .int x2, .int x3, .int x4, .int x5, .int x6] s v τ := by
  refine ofI hD (by decide +kernel) (Nat.le_of_ble_eq_true rfl) (fun X C => ?_)
  show MF l E X (fun q : Int32 × Sg => QI E X q.1 q.2) (f_X7_event x1 x2 x3 x4 x5 x6 s) s 0 [(0, .ref (ead E 0)), (1, .int x1), (2, .int x2), (3, .int x3), (4, .int x4), (5, .int x5), (6, .int x6)] []
  unfold f_X7_event
  refine MF.aload_n C e_X7_event_0 0 rfl rfl ?_
  refine MF.getR (j := 69) C cf_X7 l_X7_62 e_X7_event_1 kF_0_9 ?_
  refine MF.iconst (v := (nI 0)) C e_X7_event_4 rfl ?_
  refine MF.iload_n C e_X7_event_5 1 rfl rfl ?_
  refine MF.iast C e_X7_event_6 kA_69 (fun s1 => ?_)
  refine MF.aload_n C e_X7_event_7 0 rfl rfl ?_
  refine MF.getR (j := 69) C cf_X7 l_X7_62 e_X7_event_8 kF_0_9 ?_
  refine MF.iconst (v := (nI 1)) C e_X7_event_11 rfl ?_
  refine MF.iload_n C e_X7_event_12 2 rfl rfl ?_
  refine MF.iast C e_X7_event_13 kA_69 (fun s2 => ?_)
  refine MF.aload_n C e_X7_event_14 0 rfl rfl ?_
  refine MF.getR (j := 69) C cf_X7 l_X7_62 e_X7_event_15 kF_0_9 ?_
  refine MF.iconst (v := (nI 2)) C e_X7_event_18 rfl ?_
  refine MF.iload_n C e_X7_event_19 3 rfl rfl ?_
  refine MF.iast C e_X7_event_20 kA_69 (fun s3 => ?_)
  refine MF.aload_n C e_X7_event_21 0 rfl rfl ?_
  refine MF.getR (j := 69) C cf_X7 l_X7_62 e_X7_event_22 kF_0_9 ?_
  refine MF.iconst (v := (nI 3)) C e_X7_event_25 rfl ?_
  refine MF.iload C e_X7_event_26 4 rfl ?_
  refine MF.iast C e_X7_event_28 kA_69 (fun s4 => ?_)
  refine MF.aload_n C e_X7_event_29 0 rfl rfl ?_
  refine MF.getR (j := 69) C cf_X7 l_X7_62 e_X7_event_30 kF_0_9 ?_
  refine MF.iconst (v := (nI 4)) C e_X7_event_33 rfl ?_
  refine MF.iload C e_X7_event_34 5 rfl ?_
  refine MF.iast C e_X7_event_36 kA_69 (fun s5 => ?_)
  refine MF.aload_n C e_X7_event_37 0 rfl rfl ?_
  refine MF.getR (j := 69) C cf_X7 l_X7_62 e_X7_event_38 kF_0_9 ?_
  refine MF.iconst (v := (nI 5)) C e_X7_event_41 rfl ?_
  refine MF.iload C e_X7_event_42 6 rfl ?_
  refine MF.iast C e_X7_event_44 kA_69 (fun s6 => ?_)
  refine MF.aload_n C e_X7_event_45 0 rfl rfl ?_
  refine MF.iconst (v := (nI 2)) C e_X7_event_46 rfl ?_
  refine MF.callVI (As := [.int (nI 2)]) C (R_X7_tell hD (nI 2) s6) m_X7_tell k_X7_79 kO_0 rfl (by decide) e_X7_event_47 rfl rfl (Nat.le_of_ble_eq_true rfl) (fun v7 s8 => ?_)
  exact MF.iret C e_X7_event_50
theorem e_X7_back_0 : Dc cX7_back 0 (.iload_n 1) 1 1 := ⟨by decide +kernel, rfl⟩
theorem e_X7_back_1 : Dc cX7_back 1 (.aload_n 0) 1 2 := ⟨by decide +kernel, rfl⟩
theorem e_X7_back_2 : Dc cX7_back 2 (.getfield 10) 3 5 := ⟨by decide +kernel, rfl⟩
theorem e_X7_back_5 : Dc cX7_back 5 (.getfield 83) 3 8 := ⟨by decide +kernel, rfl⟩
theorem e_X7_back_8 : Dc cX7_back 8 (.invokevirtual 87) 3 11 := ⟨by decide +kernel, rfl⟩
theorem e_X7_back_11 : Dc cX7_back 11 (.invokestatic 93) 3 14 := ⟨by decide +kernel, rfl⟩
theorem e_X7_back_14 : Dc cX7_back 14 (.ifCond .ne 8) 3 17 := ⟨by decide +kernel, rfl⟩
theorem e_X7_back_17 : Dc cX7_back 17 (.aload_n 0) 1 18 := ⟨by decide +kernel, rfl⟩
theorem e_X7_back_18 : Dc cX7_back 18 (.invokevirtual 97) 3 21 := ⟨by decide +kernel, rfl⟩
theorem e_X7_back_21 : Dc cX7_back 21 (.ireturn) 1 22 := ⟨by decide +kernel, rfl⟩
theorem e_X7_back_22 : Dc cX7_back 22 (.aload_n 0) 1 23 := ⟨by decide +kernel, rfl⟩
theorem e_X7_back_23 : Dc cX7_back 23 (.getfield 10) 3 26 := ⟨by decide +kernel, rfl⟩
theorem e_X7_back_26 : Dc cX7_back 26 (.iload_n 1) 1 27 := ⟨by decide +kernel, rfl⟩
theorem e_X7_back_27 : Dc cX7_back 27 (.invokevirtual 100) 3 30 := ⟨by decide +kernel, rfl⟩
theorem e_X7_back_30 : Dc cX7_back 30 (.aload_n 0) 1 31 := ⟨by decide +kernel, rfl⟩
theorem e_X7_back_31 : Dc cX7_back 31 (.getfield 10) 3 34 := ⟨by decide +kernel, rfl⟩
theorem e_X7_back_34 : Dc cX7_back 34 (.getfield 83) 3 37 := ⟨by decide +kernel, rfl⟩
theorem e_X7_back_37 : Dc cX7_back 37 (.invokevirtual 87) 3 40 := ⟨by decide +kernel, rfl⟩
theorem e_X7_back_40 : Dc cX7_back 40 (.ireturn) 1 41 := ⟨by decide +kernel, rfl⟩
set_option maxHeartbeats 4000000 in
set_option maxRecDepth 20000 in
theorem R_X7_back (hD : DD E) (x1 : Int32) (s : Sg) : ∀ v τ, (f_X7_back x1 s) = some (v, τ) → RI l E 5 M_X7_back [.ref (ead E 0), .int x1] s v τ := by
  refine ofI hD (by decide +kernel) (Nat.le_of_ble_eq_true rfl) (fun X C => ?_)
  show MF l E X (fun q : Int32 × Sg => QI E X q.1 q.2) (f_X7_back x1 s) s 0 [(0, .ref (ead E 0)), (1, .int x1)] []
  unfold f_X7_back
  refine MF.iload_n C e_X7_back_0 1 rfl rfl ?_
  refine MF.aload_n C e_X7_back_1 0 rfl rfl ?_
  refine MF.getR (j := 1) C cf_X7 l_X7_10 e_X7_back_2 kF_0_0 ?_
  refine MF.getRN (j := 4) C cf_X5 l_X7_83 e_X7_back_5 (iTo.f1 kT_1) ?_
  refine MF.callVP (As := []) C (R_X2_size hD 4 kR_4 s) m_X2_size k_X7_87 (iRo.o kR_4) rfl (by decide) e_X7_back_8 rfl rfl (Nat.le_of_ble_eq_true rfl) (fun v1 => ?_)
  refine MF.callSP (As := [.int x1, .int v1]) C (R_X7_isBelow hD x1 v1 s) m_X7_isBelow k_X7_93 (by decide) e_X7_back_11 rfl rfl (Nat.le_of_ble_eq_true rfl) (fun v2 => ?_)
  refine MF.if_ne (tgt := 22) C e_X7_back_14 (by decide) (fun _ => ?_) (fun _ => ?_)
  · refine MF.aload_n C e_X7_back_22 0 rfl rfl ?_
    refine MF.getR (j := 1) C cf_X7 l_X7_10 e_X7_back_23 kF_0_0 ?_
    refine MF.iload_n C e_X7_back_26 1 rfl rfl ?_
    refine MF.callVU (As := [.int x1]) C (R_X5_dropEvent hD 1 x1 kT_1 s) m_X5_dropEvent k_X7_100 (iTo.o kT_1) rfl (by decide) e_X7_back_27 rfl rfl (Nat.le_of_ble_eq_true rfl) (fun s3 => ?_)
    refine MF.aload_n C e_X7_back_30 0 rfl rfl ?_
    refine MF.getR (j := 1) C cf_X7 l_X7_10 e_X7_back_31 kF_0_0 ?_
    refine MF.getRN (j := 4) C cf_X5 l_X7_83 e_X7_back_34 (iTo.f1 kT_1) ?_
    refine MF.callVP (As := []) C (R_X2_size hD 4 kR_4 s3) m_X2_size k_X7_87 (iRo.o kR_4) rfl (by decide) e_X7_back_37 rfl rfl (Nat.le_of_ble_eq_true rfl) (fun v4 => ?_)
    exact MF.iret C e_X7_back_40
  · refine MF.aload_n C e_X7_back_17 0 rfl rfl ?_
    refine MF.callVI (As := []) C (R_X7_refuseBad hD s) m_X7_refuseBad k_X7_97 kO_0 rfl (by decide) e_X7_back_18 rfl rfl (Nat.le_of_ble_eq_true rfl) (fun v5 s6 => ?_)
    exact MF.iret C e_X7_back_21
theorem e_X7_law_0 : Dc cX7_law 0 (.iload_n 1) 1 1 := ⟨by decide +kernel, rfl⟩
theorem e_X7_law_1 : Dc cX7_law 1 (.getstatic 104) 3 4 := ⟨by decide +kernel, rfl⟩
theorem e_X7_law_4 : Dc cX7_law 4 (.iconst 0) 1 5 := ⟨by decide +kernel, rfl⟩
theorem e_X7_law_5 : Dc cX7_law 5 (.iaload) 1 6 := ⟨by decide +kernel, rfl⟩
theorem e_X7_law_6 : Dc cX7_law 6 (.invokestatic 93) 3 9 := ⟨by decide +kernel, rfl⟩
theorem e_X7_law_9 : Dc cX7_law 9 (.ifCond .ne 8) 3 12 := ⟨by decide +kernel, rfl⟩
theorem e_X7_law_12 : Dc cX7_law 12 (.aload_n 0) 1 13 := ⟨by decide +kernel, rfl⟩
theorem e_X7_law_13 : Dc cX7_law 13 (.invokevirtual 97) 3 16 := ⟨by decide +kernel, rfl⟩
theorem e_X7_law_16 : Dc cX7_law 16 (.ireturn) 1 17 := ⟨by decide +kernel, rfl⟩
theorem e_X7_law_17 : Dc cX7_law 17 (.aload_n 0) 1 18 := ⟨by decide +kernel, rfl⟩
theorem e_X7_law_18 : Dc cX7_law 18 (.getfield 10) 3 21 := ⟨by decide +kernel, rfl⟩
theorem e_X7_law_21 : Dc cX7_law 21 (.iload_n 1) 1 22 := ⟨by decide +kernel, rfl⟩
theorem e_X7_law_22 : Dc cX7_law 22 (.invokevirtual 107) 3 25 := ⟨by decide +kernel, rfl⟩
theorem e_X7_law_25 : Dc cX7_law 25 (.ireturn) 1 26 := ⟨by decide +kernel, rfl⟩
set_option maxHeartbeats 4000000 in
set_option maxRecDepth 20000 in
theorem R_X7_law (hD : DD E) (x1 : Int32) (s : Sg) : ∀ v τ, (f_X7_law x1 s) = some (v, τ) → RI l E 5 M_X7_law [.ref (ead E 0), .int x1] s v τ := by
  refine ofI hD (by decide +kernel) (Nat.le_of_ble_eq_true rfl) (fun X C => ?_)
  show MF l E X (fun q : Int32 × Sg => QI E X q.1 q.2) (f_X7_law x1 s) s 0 [(0, .ref (ead E 0)), (1, .int x1)] []
  unfold f_X7_law
  refine MF.iload_n C e_X7_law_0 1 rfl rfl ?_
  refine MF.getT (t := 1) C (by decide) l_X7_104 e_X7_law_1 ?_
  refine MF.iconst (v := (nI 0)) C e_X7_law_4 rfl ?_
  refine MF.tald C (by decide) e_X7_law_5 (fun v1 => ?_)
  refine MF.callSP (As := [.int x1, .int v1]) C (R_X7_isBelow hD x1 v1 s) m_X7_isBelow k_X7_93 (by decide) e_X7_law_6 rfl rfl (Nat.le_of_ble_eq_true rfl) (fun v2 => ?_)
  refine MF.if_ne (tgt := 17) C e_X7_law_9 (by decide) (fun _ => ?_) (fun _ => ?_)
  · refine MF.aload_n C e_X7_law_17 0 rfl rfl ?_
    refine MF.getR (j := 1) C cf_X7 l_X7_10 e_X7_law_18 kF_0_0 ?_
    refine MF.iload_n C e_X7_law_21 1 rfl rfl ?_
    refine MF.callVI (As := [.int x1]) C (R_X5_changeLaw hD 1 x1 kT_1 s) m_X5_changeLaw k_X7_107 (iTo.o kT_1) rfl (by decide) e_X7_law_22 rfl rfl (Nat.le_of_ble_eq_true rfl) (fun v3 s4 => ?_)
    exact MF.iret C e_X7_law_25
  · refine MF.aload_n C e_X7_law_12 0 rfl rfl ?_
    refine MF.callVI (As := []) C (R_X7_refuseBad hD s) m_X7_refuseBad k_X7_97 kO_0 rfl (by decide) e_X7_law_13 rfl rfl (Nat.le_of_ble_eq_true rfl) (fun v5 s6 => ?_)
    exact MF.iret C e_X7_law_16
theorem e_X7_refuseNo_0 : Dc cX7_refuseNo 0 (.aload_n 0) 1 1 := ⟨by decide +kernel, rfl⟩
theorem e_X7_refuseNo_1 : Dc cX7_refuseNo 1 (.dup) 1 2 := ⟨by decide +kernel, rfl⟩
theorem e_X7_refuseNo_2 : Dc cX7_refuseNo 2 (.getfield 73) 3 5 := ⟨by decide +kernel, rfl⟩
theorem e_X7_refuseNo_5 : Dc cX7_refuseNo 5 (.iconst 1) 1 6 := ⟨by decide +kernel, rfl⟩
theorem e_X7_refuseNo_6 : Dc cX7_refuseNo 6 (.iadd) 1 7 := ⟨by decide +kernel, rfl⟩
theorem e_X7_refuseNo_7 : Dc cX7_refuseNo 7 (.putfield 73) 3 10 := ⟨by decide +kernel, rfl⟩
theorem e_X7_refuseNo_10 : Dc cX7_refuseNo 10 (.bipush (-3)) 2 12 := ⟨by decide +kernel, rfl⟩
theorem e_X7_refuseNo_12 : Dc cX7_refuseNo 12 (.ireturn) 1 13 := ⟨by decide +kernel, rfl⟩
set_option maxHeartbeats 4000000 in
set_option maxRecDepth 20000 in
theorem R_X7_refuseNo (hD : DD E) (s : Sg) : ∀ v τ, (f_X7_refuseNo s) = some (v, τ) → RI l E 0 M_X7_refuseNo [.ref (ead E 0)] s v τ := by
  refine ofI hD (by decide +kernel) (Nat.le_of_ble_eq_true rfl) (fun X C => ?_)
  show MF l E X (fun q : Int32 × Sg => QI E X q.1 q.2) (f_X7_refuseNo s) s 0 [(0, .ref (ead E 0))] []
  unfold f_X7_refuseNo
  refine MF.aload_n C e_X7_refuseNo_0 0 rfl rfl ?_
  refine MF.dup C e_X7_refuseNo_1 rfl ?_
  refine MF.get C cf_X7 l_X7_73 e_X7_refuseNo_2 kF_0_12 ?_
  refine MF.iconst (v := (nI 1)) C e_X7_refuseNo_5 rfl ?_
  refine MF.iadd C e_X7_refuseNo_6 ?_
  refine MF.put C cf_X7 l_X7_73 p_X7_12 e_X7_refuseNo_7 kF_0_12 rfl ?_
  refine MF.nmS (fun s1 => ?_)
  refine MF.bipush (v := (-3 : Int32)) C e_X7_refuseNo_10 (by decide) ?_
  exact MF.iret C e_X7_refuseNo_12
theorem e_X7_undo_0 : Dc cX7_undo 0 (.aload_n 0) 1 1 := ⟨by decide +kernel, rfl⟩
theorem e_X7_undo_1 : Dc cX7_undo 1 (.getfield 10) 3 4 := ⟨by decide +kernel, rfl⟩
theorem e_X7_undo_4 : Dc cX7_undo 4 (.getfield 110) 3 7 := ⟨by decide +kernel, rfl⟩
theorem e_X7_undo_7 : Dc cX7_undo 7 (.invokevirtual 87) 3 10 := ⟨by decide +kernel, rfl⟩
theorem e_X7_undo_10 : Dc cX7_undo 10 (.ifCond .ne 8) 3 13 := ⟨by decide +kernel, rfl⟩
theorem e_X7_undo_13 : Dc cX7_undo 13 (.aload_n 0) 1 14 := ⟨by decide +kernel, rfl⟩
theorem e_X7_undo_14 : Dc cX7_undo 14 (.invokevirtual 113) 3 17 := ⟨by decide +kernel, rfl⟩
theorem e_X7_undo_17 : Dc cX7_undo 17 (.ireturn) 1 18 := ⟨by decide +kernel, rfl⟩
theorem e_X7_undo_18 : Dc cX7_undo 18 (.aload_n 0) 1 19 := ⟨by decide +kernel, rfl⟩
theorem e_X7_undo_19 : Dc cX7_undo 19 (.getfield 10) 3 22 := ⟨by decide +kernel, rfl⟩
theorem e_X7_undo_22 : Dc cX7_undo 22 (.invokevirtual 116) 3 25 := ⟨by decide +kernel, rfl⟩
theorem e_X7_undo_25 : Dc cX7_undo 25 (.aload_n 0) 1 26 := ⟨by decide +kernel, rfl⟩
theorem e_X7_undo_26 : Dc cX7_undo 26 (.getfield 10) 3 29 := ⟨by decide +kernel, rfl⟩
theorem e_X7_undo_29 : Dc cX7_undo 29 (.getfield 83) 3 32 := ⟨by decide +kernel, rfl⟩
theorem e_X7_undo_32 : Dc cX7_undo 32 (.invokevirtual 87) 3 35 := ⟨by decide +kernel, rfl⟩
theorem e_X7_undo_35 : Dc cX7_undo 35 (.ireturn) 1 36 := ⟨by decide +kernel, rfl⟩
set_option maxHeartbeats 4000000 in
set_option maxRecDepth 20000 in
theorem R_X7_undo (hD : DD E) (s : Sg) : ∀ v τ, (f_X7_undo s) = some (v, τ) → RI l E 4 M_X7_undo [.ref (ead E 0)] s v τ := by
  refine ofI hD (by decide +kernel) (Nat.le_of_ble_eq_true rfl) (fun X C => ?_)
  show MF l E X (fun q : Int32 × Sg => QI E X q.1 q.2) (f_X7_undo s) s 0 [(0, .ref (ead E 0))] []
  unfold f_X7_undo
  refine MF.aload_n C e_X7_undo_0 0 rfl rfl ?_
  refine MF.getR (j := 1) C cf_X7 l_X7_10 e_X7_undo_1 kF_0_0 ?_
  refine MF.getRN (j := 8) C cf_X5 l_X7_110 e_X7_undo_4 (iTo.f3 kT_1) ?_
  refine MF.callVP (As := []) C (R_X2_size hD 8 kR_8 s) m_X2_size k_X7_87 (iRo.o kR_8) rfl (by decide) e_X7_undo_7 rfl rfl (Nat.le_of_ble_eq_true rfl) (fun v1 => ?_)
  refine MF.if_ne (tgt := 18) C e_X7_undo_10 (by decide) (fun _ => ?_) (fun _ => ?_)
  · refine MF.aload_n C e_X7_undo_18 0 rfl rfl ?_
    refine MF.getR (j := 1) C cf_X7 l_X7_10 e_X7_undo_19 kF_0_0 ?_
    refine MF.callVU (As := []) C (R_X5_goBack hD 1 kT_1 s) m_X5_goBack k_X7_116 (iTo.o kT_1) rfl (by decide) e_X7_undo_22 rfl rfl (Nat.le_of_ble_eq_true rfl) (fun s2 => ?_)
    refine MF.aload_n C e_X7_undo_25 0 rfl rfl ?_
    refine MF.getR (j := 1) C cf_X7 l_X7_10 e_X7_undo_26 kF_0_0 ?_
    refine MF.getRN (j := 4) C cf_X5 l_X7_83 e_X7_undo_29 (iTo.f1 kT_1) ?_
    refine MF.callVP (As := []) C (R_X2_size hD 4 kR_4 s2) m_X2_size k_X7_87 (iRo.o kR_4) rfl (by decide) e_X7_undo_32 rfl rfl (Nat.le_of_ble_eq_true rfl) (fun v3 => ?_)
    exact MF.iret C e_X7_undo_35
  · refine MF.aload_n C e_X7_undo_13 0 rfl rfl ?_
    refine MF.callVI (As := []) C (R_X7_refuseNo hD s) m_X7_refuseNo k_X7_113 kO_0 rfl (by decide) e_X7_undo_14 rfl rfl (Nat.le_of_ble_eq_true rfl) (fun v4 s5 => ?_)
    exact MF.iret C e_X7_undo_17
theorem e_X7_rent_0 : Dc cX7_rent 0 (.aload_n 0) 1 1 := ⟨by decide +kernel, rfl⟩
theorem e_X7_rent_1 : Dc cX7_rent 1 (.getfield 62) 3 4 := ⟨by decide +kernel, rfl⟩
theorem e_X7_rent_4 : Dc cX7_rent 4 (.iconst 0) 1 5 := ⟨by decide +kernel, rfl⟩
theorem e_X7_rent_5 : Dc cX7_rent 5 (.iload_n 1) 1 6 := ⟨by decide +kernel, rfl⟩
theorem e_X7_rent_6 : Dc cX7_rent 6 (.iastore) 1 7 := ⟨by decide +kernel, rfl⟩
theorem e_X7_rent_7 : Dc cX7_rent 7 (.aload_n 0) 1 8 := ⟨by decide +kernel, rfl⟩
theorem e_X7_rent_8 : Dc cX7_rent 8 (.getfield 62) 3 11 := ⟨by decide +kernel, rfl⟩
theorem e_X7_rent_11 : Dc cX7_rent 11 (.iconst 1) 1 12 := ⟨by decide +kernel, rfl⟩
theorem e_X7_rent_12 : Dc cX7_rent 12 (.iload_n 2) 1 13 := ⟨by decide +kernel, rfl⟩
theorem e_X7_rent_13 : Dc cX7_rent 13 (.iastore) 1 14 := ⟨by decide +kernel, rfl⟩
theorem e_X7_rent_14 : Dc cX7_rent 14 (.aload_n 0) 1 15 := ⟨by decide +kernel, rfl⟩
theorem e_X7_rent_15 : Dc cX7_rent 15 (.iconst 3) 1 16 := ⟨by decide +kernel, rfl⟩
theorem e_X7_rent_16 : Dc cX7_rent 16 (.invokevirtual 79) 3 19 := ⟨by decide +kernel, rfl⟩
theorem e_X7_rent_19 : Dc cX7_rent 19 (.ireturn) 1 20 := ⟨by decide +kernel, rfl⟩
set_option maxHeartbeats 4000000 in
set_option maxRecDepth 20000 in
theorem R_X7_rent (hD : DD E) (x1 : Int32) (x2 : Int32) (s : Sg) : ∀ v τ, (f_X7_rent x1 x2 s) = some (v, τ) → RI l E 6 M_X7_rent [.ref (ead E 0), .int x1, .int x2] s v τ := by
  refine ofI hD (by decide +kernel) (Nat.le_of_ble_eq_true rfl) (fun X C => ?_)
  show MF l E X (fun q : Int32 × Sg => QI E X q.1 q.2) (f_X7_rent x1 x2 s) s 0 [(0, .ref (ead E 0)), (1, .int x1), (2, .int x2)] []
  unfold f_X7_rent
  refine MF.aload_n C e_X7_rent_0 0 rfl rfl ?_
  refine MF.getR (j := 69) C cf_X7 l_X7_62 e_X7_rent_1 kF_0_9 ?_
  refine MF.iconst (v := (nI 0)) C e_X7_rent_4 rfl ?_
  refine MF.iload_n C e_X7_rent_5 1 rfl rfl ?_
  refine MF.iast C e_X7_rent_6 kA_69 (fun s1 => ?_)
  refine MF.aload_n C e_X7_rent_7 0 rfl rfl ?_
  refine MF.getR (j := 69) C cf_X7 l_X7_62 e_X7_rent_8 kF_0_9 ?_
  refine MF.iconst (v := (nI 1)) C e_X7_rent_11 rfl ?_
  refine MF.iload_n C e_X7_rent_12 2 rfl rfl ?_
  refine MF.iast C e_X7_rent_13 kA_69 (fun s2 => ?_)
  refine MF.aload_n C e_X7_rent_14 0 rfl rfl ?_
  refine MF.iconst (v := (nI 3)) C e_X7_rent_15 rfl ?_
  refine MF.callVI (As := [.int (nI 3)]) C (R_X7_tell hD (nI 3) s2) m_X7_tell k_X7_79 kO_0 rfl (by decide) e_X7_rent_16 rfl rfl (Nat.le_of_ble_eq_true rfl) (fun v3 s4 => ?_)
  exact MF.iret C e_X7_rent_19
theorem e_X7_type_0 : Dc cX7_type 0 (.iload_n 1) 1 1 := ⟨by decide +kernel, rfl⟩
theorem e_X7_type_1 : Dc cX7_type 1 (.sipush 128) 3 4 := ⟨by decide +kernel, rfl⟩
theorem e_X7_type_4 : Dc cX7_type 4 (.invokestatic 93) 3 7 := ⟨by decide +kernel, rfl⟩
theorem e_X7_type_7 : Dc cX7_type 7 (.ifCond .ne 8) 3 10 := ⟨by decide +kernel, rfl⟩
theorem e_X7_type_10 : Dc cX7_type 10 (.aload_n 0) 1 11 := ⟨by decide +kernel, rfl⟩
theorem e_X7_type_11 : Dc cX7_type 11 (.invokevirtual 97) 3 14 := ⟨by decide +kernel, rfl⟩
theorem e_X7_type_14 : Dc cX7_type 14 (.ireturn) 1 15 := ⟨by decide +kernel, rfl⟩
theorem e_X7_type_15 : Dc cX7_type 15 (.aload_n 0) 1 16 := ⟨by decide +kernel, rfl⟩
theorem e_X7_type_16 : Dc cX7_type 16 (.getfield 28) 3 19 := ⟨by decide +kernel, rfl⟩
theorem e_X7_type_19 : Dc cX7_type 19 (.invokevirtual 119) 3 22 := ⟨by decide +kernel, rfl⟩
theorem e_X7_type_22 : Dc cX7_type 22 (.ifCond .eq 8) 3 25 := ⟨by decide +kernel, rfl⟩
theorem e_X7_type_25 : Dc cX7_type 25 (.aload_n 0) 1 26 := ⟨by decide +kernel, rfl⟩
theorem e_X7_type_26 : Dc cX7_type 26 (.invokevirtual 123) 3 29 := ⟨by decide +kernel, rfl⟩
theorem e_X7_type_29 : Dc cX7_type 29 (.ireturn) 1 30 := ⟨by decide +kernel, rfl⟩
theorem e_X7_type_30 : Dc cX7_type 30 (.aload_n 0) 1 31 := ⟨by decide +kernel, rfl⟩
theorem e_X7_type_31 : Dc cX7_type 31 (.getfield 28) 3 34 := ⟨by decide +kernel, rfl⟩
theorem e_X7_type_34 : Dc cX7_type 34 (.iload_n 1) 1 35 := ⟨by decide +kernel, rfl⟩
theorem e_X7_type_35 : Dc cX7_type 35 (.invokevirtual 126) 3 38 := ⟨by decide +kernel, rfl⟩
theorem e_X7_type_38 : Dc cX7_type 38 (.aload_n 0) 1 39 := ⟨by decide +kernel, rfl⟩
theorem e_X7_type_39 : Dc cX7_type 39 (.getfield 28) 3 42 := ⟨by decide +kernel, rfl⟩
theorem e_X7_type_42 : Dc cX7_type 42 (.invokevirtual 129) 3 45 := ⟨by decide +kernel, rfl⟩
theorem e_X7_type_45 : Dc cX7_type 45 (.ireturn) 1 46 := ⟨by decide +kernel, rfl⟩
set_option maxHeartbeats 4000000 in
set_option maxRecDepth 20000 in
theorem R_X7_type (hD : DD E) (x1 : Int32) (s : Sg) : ∀ v τ, (f_X7_type x1 s) = some (v, τ) → RI l E 2 M_X7_type [.ref (ead E 0), .int x1] s v τ := by
  refine ofI hD (by decide +kernel) (Nat.le_of_ble_eq_true rfl) (fun X C => ?_)
  show MF l E X (fun q : Int32 × Sg => QI E X q.1 q.2) (f_X7_type x1 s) s 0 [(0, .ref (ead E 0)), (1, .int x1)] []
  unfold f_X7_type
  refine MF.iload_n C e_X7_type_0 1 rfl rfl ?_
  refine MF.sipush (v := (nI 128)) C e_X7_type_1 (by decide) ?_
  refine MF.callSP (As := [.int x1, .int (nI 128)]) C (R_X7_isBelow hD x1 (nI 128) s) m_X7_isBelow k_X7_93 (by decide) e_X7_type_4 rfl rfl (Nat.le_of_ble_eq_true rfl) (fun v1 => ?_)
  refine MF.if_ne (tgt := 15) C e_X7_type_7 (by decide) (fun _ => ?_) (fun _ => ?_)
  · refine MF.aload_n C e_X7_type_15 0 rfl rfl ?_
    refine MF.getR (j := 49) C cf_X7 l_X7_28 e_X7_type_16 kF_0_4 ?_
    refine MF.callVP (As := []) C (R_X4_isFull hD s) m_X4_isFull k_X7_119 kO_49 rfl (by decide) e_X7_type_19 rfl rfl (Nat.le_of_ble_eq_true rfl) (fun v2 => ?_)
    refine MF.if_eq (tgt := 30) C e_X7_type_22 (by decide) (fun _ => ?_) (fun _ => ?_)
    · refine MF.aload_n C e_X7_type_30 0 rfl rfl ?_
      refine MF.getR (j := 49) C cf_X7 l_X7_28 e_X7_type_31 kF_0_4 ?_
      refine MF.iload_n C e_X7_type_34 1 rfl rfl ?_
      refine MF.callVU (As := [.int x1]) C (R_X4_add hD x1 s) m_X4_add k_X7_126 kO_49 rfl (by decide) e_X7_type_35 rfl rfl (Nat.le_of_ble_eq_true rfl) (fun s3 => ?_)
      refine MF.aload_n C e_X7_type_38 0 rfl rfl ?_
      refine MF.getR (j := 49) C cf_X7 l_X7_28 e_X7_type_39 kF_0_4 ?_
      refine MF.callVP (As := []) C (R_X4_size hD s3) m_X4_size k_X7_129 kO_49 rfl (by decide) e_X7_type_42 rfl rfl (Nat.le_of_ble_eq_true rfl) (fun v4 => ?_)
      exact MF.iret C e_X7_type_45
    · refine MF.aload_n C e_X7_type_25 0 rfl rfl ?_
      refine MF.callVI (As := []) C (R_X7_refuseFull hD s) m_X7_refuseFull k_X7_123 kO_0 rfl (by decide) e_X7_type_26 rfl rfl (Nat.le_of_ble_eq_true rfl) (fun v5 s6 => ?_)
      exact MF.iret C e_X7_type_29
  · refine MF.aload_n C e_X7_type_10 0 rfl rfl ?_
    refine MF.callVI (As := []) C (R_X7_refuseBad hD s) m_X7_refuseBad k_X7_97 kO_0 rfl (by decide) e_X7_type_11 rfl rfl (Nat.le_of_ble_eq_true rfl) (fun v7 s8 => ?_)
    exact MF.iret C e_X7_type_14
theorem e_X7_clear_0 : Dc cX7_clear 0 (.aload_n 0) 1 1 := ⟨by decide +kernel, rfl⟩
theorem e_X7_clear_1 : Dc cX7_clear 1 (.getfield 28) 3 4 := ⟨by decide +kernel, rfl⟩
theorem e_X7_clear_4 : Dc cX7_clear 4 (.invokevirtual 129) 3 7 := ⟨by decide +kernel, rfl⟩
theorem e_X7_clear_7 : Dc cX7_clear 7 (.istore_n 1) 1 8 := ⟨by decide +kernel, rfl⟩
theorem e_X7_clear_8 : Dc cX7_clear 8 (.aload_n 0) 1 9 := ⟨by decide +kernel, rfl⟩
theorem e_X7_clear_9 : Dc cX7_clear 9 (.getfield 28) 3 12 := ⟨by decide +kernel, rfl⟩
theorem e_X7_clear_12 : Dc cX7_clear 12 (.invokevirtual 130) 3 15 := ⟨by decide +kernel, rfl⟩
theorem e_X7_clear_15 : Dc cX7_clear 15 (.iload_n 1) 1 16 := ⟨by decide +kernel, rfl⟩
theorem e_X7_clear_16 : Dc cX7_clear 16 (.ireturn) 1 17 := ⟨by decide +kernel, rfl⟩
set_option maxHeartbeats 4000000 in
set_option maxRecDepth 20000 in
theorem R_X7_clear (hD : DD E) (s : Sg) : ∀ v τ, (f_X7_clear s) = some (v, τ) → RI l E 1 M_X7_clear [.ref (ead E 0)] s v τ := by
  refine ofI hD (by decide +kernel) (Nat.le_of_ble_eq_true rfl) (fun X C => ?_)
  show MF l E X (fun q : Int32 × Sg => QI E X q.1 q.2) (f_X7_clear s) s 0 [(0, .ref (ead E 0))] []
  unfold f_X7_clear
  refine MF.aload_n C e_X7_clear_0 0 rfl rfl ?_
  refine MF.getR (j := 49) C cf_X7 l_X7_28 e_X7_clear_1 kF_0_4 ?_
  refine MF.callVP (As := []) C (R_X4_size hD s) m_X4_size k_X7_129 kO_49 rfl (by decide) e_X7_clear_4 rfl rfl (Nat.le_of_ble_eq_true rfl) (fun v1 => ?_)
  refine MF.istore_n (lv' := [(0, .ref (ead E 0)), (1, .int v1)]) C e_X7_clear_7 (by decide) rfl ?_
  refine MF.aload_n C e_X7_clear_8 0 rfl rfl ?_
  refine MF.getR (j := 49) C cf_X7 l_X7_28 e_X7_clear_9 kF_0_4 ?_
  refine MF.callVU (As := []) C (R_X4_empty hD s) m_X4_empty k_X7_130 kO_49 rfl (by decide) e_X7_clear_12 rfl rfl (Nat.le_of_ble_eq_true rfl) (fun s2 => ?_)
  refine MF.iload_n C e_X7_clear_15 1 rfl rfl ?_
  exact MF.iret C e_X7_clear_16
theorem e_X7_read_0 : Dc cX7_read 0 (.aload_n 0) 1 1 := ⟨by decide +kernel, rfl⟩
theorem e_X7_read_1 : Dc cX7_read 1 (.getfield 28) 3 4 := ⟨by decide +kernel, rfl⟩
theorem e_X7_read_4 : Dc cX7_read 4 (.aload_n 0) 1 5 := ⟨by decide +kernel, rfl⟩
theorem e_X7_read_5 : Dc cX7_read 5 (.getfield 16) 3 8 := ⟨by decide +kernel, rfl⟩
theorem e_X7_read_8 : Dc cX7_read 8 (.invokevirtual 133) 3 11 := ⟨by decide +kernel, rfl⟩
theorem e_X7_read_11 : Dc cX7_read 11 (.istore_n 1) 1 12 := ⟨by decide +kernel, rfl⟩
theorem e_X7_read_12 : Dc cX7_read 12 (.iload_n 1) 1 13 := ⟨by decide +kernel, rfl⟩
theorem e_X7_read_13 : Dc cX7_read 13 (.ifCond .lt 14) 3 16 := ⟨by decide +kernel, rfl⟩
theorem e_X7_read_16 : Dc cX7_read 16 (.aload_n 0) 1 17 := ⟨by decide +kernel, rfl⟩
theorem e_X7_read_17 : Dc cX7_read 17 (.getfield 10) 3 20 := ⟨by decide +kernel, rfl⟩
theorem e_X7_read_20 : Dc cX7_read 20 (.aload_n 0) 1 21 := ⟨by decide +kernel, rfl⟩
theorem e_X7_read_21 : Dc cX7_read 21 (.getfield 16) 3 24 := ⟨by decide +kernel, rfl⟩
theorem e_X7_read_24 : Dc cX7_read 24 (.invokevirtual 137) 3 27 := ⟨by decide +kernel, rfl⟩
theorem e_X7_read_27 : Dc cX7_read 27 (.iload_n 1) 1 28 := ⟨by decide +kernel, rfl⟩
theorem e_X7_read_28 : Dc cX7_read 28 (.ireturn) 1 29 := ⟨by decide +kernel, rfl⟩
set_option maxHeartbeats 4000000 in
set_option maxRecDepth 20000 in
theorem R_X7_read (hD : DD E) (s : Sg) : ∀ v τ, (f_X7_read s) = some (v, τ) → RI l E 8 M_X7_read [.ref (ead E 0)] s v τ := by
  refine ofI hD (by decide +kernel) (Nat.le_of_ble_eq_true rfl) (fun X C => ?_)
  show MF l E X (fun q : Int32 × Sg => QI E X q.1 q.2) (f_X7_read s) s 0 [(0, .ref (ead E 0))] []
  unfold f_X7_read
  refine MF.aload_n C e_X7_read_0 0 rfl rfl ?_
  refine MF.getR (j := 49) C cf_X7 l_X7_28 e_X7_read_1 kF_0_4 ?_
  refine MF.aload_n C e_X7_read_4 0 rfl rfl ?_
  refine MF.getR (j := 13) C cf_X7 l_X7_16 e_X7_read_5 kF_0_1 ?_
  refine MF.callVI (As := [.ref (ead E 13)]) C (R_X4_readInto hD 13 kT_13 s) m_X4_readInto k_X7_133 kO_49 rfl (by decide) e_X7_read_8 rfl rfl (Nat.le_of_ble_eq_true rfl) (fun v1 s2 => ?_)
  refine MF.istore_n (lv' := [(0, .ref (ead E 0)), (1, .int v1)]) C e_X7_read_11 (by decide) rfl ?_
  refine MF.iload_n C e_X7_read_12 1 rfl rfl ?_
  refine MF.if_lt (tgt := 27) C e_X7_read_13 (by decide) (fun _ => ?_) (fun _ => ?_)
  · refine MF.iload_n C e_X7_read_27 1 rfl rfl ?_
    exact MF.iret C e_X7_read_28
  · refine MF.aload_n C e_X7_read_16 0 rfl rfl ?_
    refine MF.getR (j := 1) C cf_X7 l_X7_10 e_X7_read_17 kF_0_0 ?_
    refine MF.aload_n C e_X7_read_20 0 rfl rfl ?_
    refine MF.getR (j := 13) C cf_X7 l_X7_16 e_X7_read_21 kF_0_1 ?_
    refine MF.callVU (As := [.ref (ead E 13)]) C (R_X5_copy hD 1 13 kT_1 kT_13 s2) m_X5_copy k_X7_137 (iTo.o kT_1) rfl (by decide) e_X7_read_24 rfl rfl (Nat.le_of_ble_eq_true rfl) (fun s3 => ?_)
    refine MF.iload_n C e_X7_read_27 1 rfl rfl ?_
    exact MF.iret C e_X7_read_28
theorem e_X7_of_0 : Dc cX7_of 0 (.iload_n 1) 1 1 := ⟨by decide +kernel, rfl⟩
theorem e_X7_of_1 : Dc cX7_of 1 (.aload_n 0) 1 2 := ⟨by decide +kernel, rfl⟩
theorem e_X7_of_2 : Dc cX7_of 2 (.getfield 10) 3 5 := ⟨by decide +kernel, rfl⟩
theorem e_X7_of_5 : Dc cX7_of 5 (.getfield 83) 3 8 := ⟨by decide +kernel, rfl⟩
theorem e_X7_of_8 : Dc cX7_of 8 (.invokevirtual 87) 3 11 := ⟨by decide +kernel, rfl⟩
theorem e_X7_of_11 : Dc cX7_of 11 (.invokestatic 93) 3 14 := ⟨by decide +kernel, rfl⟩
theorem e_X7_of_14 : Dc cX7_of 14 (.ifCond .eq 12) 3 17 := ⟨by decide +kernel, rfl⟩
theorem e_X7_of_17 : Dc cX7_of 17 (.iload_n 2) 1 18 := ⟨by decide +kernel, rfl⟩
theorem e_X7_of_18 : Dc cX7_of 18 (.bipush 10) 2 20 := ⟨by decide +kernel, rfl⟩
theorem e_X7_of_20 : Dc cX7_of 20 (.invokestatic 93) 3 23 := ⟨by decide +kernel, rfl⟩
theorem e_X7_of_23 : Dc cX7_of 23 (.ifCond .ne 8) 3 26 := ⟨by decide +kernel, rfl⟩
theorem e_X7_of_26 : Dc cX7_of 26 (.aload_n 0) 1 27 := ⟨by decide +kernel, rfl⟩
theorem e_X7_of_27 : Dc cX7_of 27 (.invokevirtual 97) 3 30 := ⟨by decide +kernel, rfl⟩
theorem e_X7_of_30 : Dc cX7_of 30 (.ireturn) 1 31 := ⟨by decide +kernel, rfl⟩
theorem e_X7_of_31 : Dc cX7_of 31 (.iload_n 2) 1 32 := ⟨by decide +kernel, rfl⟩
theorem e_X7_of_32 : Dc cX7_of 32 (.tableswitch 68 6 9 #[32, 41, 50, 59]) 32 64 := ⟨by decide +kernel, rfl⟩
theorem e_X7_of_64 : Dc cX7_of 64 (.aload_n 0) 1 65 := ⟨by decide +kernel, rfl⟩
theorem e_X7_of_65 : Dc cX7_of 65 (.getfield 10) 3 68 := ⟨by decide +kernel, rfl⟩
theorem e_X7_of_68 : Dc cX7_of 68 (.iload_n 1) 1 69 := ⟨by decide +kernel, rfl⟩
theorem e_X7_of_69 : Dc cX7_of 69 (.invokevirtual 141) 3 72 := ⟨by decide +kernel, rfl⟩
theorem e_X7_of_72 : Dc cX7_of 72 (.ireturn) 1 73 := ⟨by decide +kernel, rfl⟩
theorem e_X7_of_73 : Dc cX7_of 73 (.aload_n 0) 1 74 := ⟨by decide +kernel, rfl⟩
theorem e_X7_of_74 : Dc cX7_of 74 (.getfield 10) 3 77 := ⟨by decide +kernel, rfl⟩
theorem e_X7_of_77 : Dc cX7_of 77 (.iload_n 1) 1 78 := ⟨by decide +kernel, rfl⟩
theorem e_X7_of_78 : Dc cX7_of 78 (.invokevirtual 144) 3 81 := ⟨by decide +kernel, rfl⟩
theorem e_X7_of_81 : Dc cX7_of 81 (.ireturn) 1 82 := ⟨by decide +kernel, rfl⟩
theorem e_X7_of_82 : Dc cX7_of 82 (.aload_n 0) 1 83 := ⟨by decide +kernel, rfl⟩
theorem e_X7_of_83 : Dc cX7_of 83 (.getfield 10) 3 86 := ⟨by decide +kernel, rfl⟩
theorem e_X7_of_86 : Dc cX7_of 86 (.iload_n 1) 1 87 := ⟨by decide +kernel, rfl⟩
theorem e_X7_of_87 : Dc cX7_of 87 (.invokevirtual 147) 3 90 := ⟨by decide +kernel, rfl⟩
theorem e_X7_of_90 : Dc cX7_of 90 (.ireturn) 1 91 := ⟨by decide +kernel, rfl⟩
theorem e_X7_of_91 : Dc cX7_of 91 (.aload_n 0) 1 92 := ⟨by decide +kernel, rfl⟩
theorem e_X7_of_92 : Dc cX7_of 92 (.getfield 10) 3 95 := ⟨by decide +kernel, rfl⟩
theorem e_X7_of_95 : Dc cX7_of 95 (.iload_n 1) 1 96 := ⟨by decide +kernel, rfl⟩
theorem e_X7_of_96 : Dc cX7_of 96 (.invokevirtual 150) 3 99 := ⟨by decide +kernel, rfl⟩
theorem e_X7_of_99 : Dc cX7_of 99 (.ireturn) 1 100 := ⟨by decide +kernel, rfl⟩
theorem e_X7_of_100 : Dc cX7_of 100 (.aload_n 0) 1 101 := ⟨by decide +kernel, rfl⟩
theorem e_X7_of_101 : Dc cX7_of 101 (.getfield 10) 3 104 := ⟨by decide +kernel, rfl⟩
theorem e_X7_of_104 : Dc cX7_of 104 (.getfield 83) 3 107 := ⟨by decide +kernel, rfl⟩
theorem e_X7_of_107 : Dc cX7_of 107 (.iload_n 1) 1 108 := ⟨by decide +kernel, rfl⟩
theorem e_X7_of_108 : Dc cX7_of 108 (.iload_n 2) 1 109 := ⟨by decide +kernel, rfl⟩
theorem e_X7_of_109 : Dc cX7_of 109 (.invokevirtual 153) 3 112 := ⟨by decide +kernel, rfl⟩
theorem e_X7_of_112 : Dc cX7_of 112 (.ireturn) 1 113 := ⟨by decide +kernel, rfl⟩
set_option maxHeartbeats 4000000 in
set_option maxRecDepth 20000 in
theorem R_X7_of (hD : DD E) (x1 : Int32) (x2 : Int32) (s : Sg) : ∀ v τ, (f_X7_of x1 x2 s) = some (v, τ) → RI l E 3 M_X7_of [.ref (ead E 0), .int x1, .int x2] s v τ := by
  refine ofI hD (by decide +kernel) (Nat.le_of_ble_eq_true rfl) (fun X C => ?_)
  show MF l E X (fun q : Int32 × Sg => QI E X q.1 q.2) (f_X7_of x1 x2 s) s 0 [(0, .ref (ead E 0)), (1, .int x1), (2, .int x2)] []
  unfold f_X7_of
  refine MF.iload_n C e_X7_of_0 1 rfl rfl ?_
  refine MF.aload_n C e_X7_of_1 0 rfl rfl ?_
  refine MF.getR (j := 1) C cf_X7 l_X7_10 e_X7_of_2 kF_0_0 ?_
  refine MF.getRN (j := 4) C cf_X5 l_X7_83 e_X7_of_5 (iTo.f1 kT_1) ?_
  refine MF.callVP (As := []) C (R_X2_size hD 4 kR_4 s) m_X2_size k_X7_87 (iRo.o kR_4) rfl (by decide) e_X7_of_8 rfl rfl (Nat.le_of_ble_eq_true rfl) (fun v1 => ?_)
  refine MF.callSP (As := [.int x1, .int v1]) C (R_X7_isBelow hD x1 v1 s) m_X7_isBelow k_X7_93 (by decide) e_X7_of_11 rfl rfl (Nat.le_of_ble_eq_true rfl) (fun v2 => ?_)
  refine MF.if_eq (tgt := 26) C e_X7_of_14 (by decide) (fun _ => ?_) (fun _ => ?_)
  · refine MF.aload_n C e_X7_of_26 0 rfl rfl ?_
    refine MF.callVI (As := []) C (R_X7_refuseBad hD s) m_X7_refuseBad k_X7_97 kO_0 rfl (by decide) e_X7_of_27 rfl rfl (Nat.le_of_ble_eq_true rfl) (fun v3 s4 => ?_)
    exact MF.iret C e_X7_of_30
  · refine MF.iload_n C e_X7_of_17 2 rfl rfl ?_
    refine MF.bipush (v := (nI 10)) C e_X7_of_18 (by decide) ?_
    refine MF.callSP (As := [.int x2, .int (nI 10)]) C (R_X7_isBelow hD x2 (nI 10) s) m_X7_isBelow k_X7_93 (by decide) e_X7_of_20 rfl rfl (Nat.le_of_ble_eq_true rfl) (fun v5 => ?_)
    refine MF.if_ne (tgt := 31) C e_X7_of_23 (by decide) (fun _ => ?_) (fun _ => ?_)
    · refine MF.iload_n C e_X7_of_31 2 rfl rfl ?_
      refine MF.split (fun h0 => ?_) (fun h0 => ?_)
      · refine MF.tabIn (tgt := 64) C e_X7_of_32 h0 (by decide) (by decide) rfl (by decide) ?_
        refine MF.aload_n C e_X7_of_64 0 rfl rfl ?_
        refine MF.getR (j := 1) C cf_X7 l_X7_10 e_X7_of_65 kF_0_0 ?_
        refine MF.iload_n C e_X7_of_68 1 rfl rfl ?_
        refine MF.callVP (As := [.int x1]) C (R_X5_needed hD 1 x1 kT_1 s) m_X5_needed k_X7_141 (iTo.o kT_1) rfl (by decide) e_X7_of_69 rfl rfl (Nat.le_of_ble_eq_true rfl) (fun v6 => ?_)
        exact MF.iret C e_X7_of_72
      · refine MF.split (fun h1 => ?_) (fun h1 => ?_)
        · refine MF.tabIn (tgt := 73) C e_X7_of_32 h1 (by decide) (by decide) rfl (by decide) ?_
          refine MF.aload_n C e_X7_of_73 0 rfl rfl ?_
          refine MF.getR (j := 1) C cf_X7 l_X7_10 e_X7_of_74 kF_0_0 ?_
          refine MF.iload_n C e_X7_of_77 1 rfl rfl ?_
          refine MF.callVP (As := [.int x1]) C (R_X5_rankGiven hD 1 x1 kT_1 s) m_X5_rankGiven k_X7_144 (iTo.o kT_1) rfl (by decide) e_X7_of_78 rfl rfl (Nat.le_of_ble_eq_true rfl) (fun v7 => ?_)
          exact MF.iret C e_X7_of_81
        · refine MF.split (fun h2 => ?_) (fun h2 => ?_)
          · refine MF.tabIn (tgt := 82) C e_X7_of_32 h2 (by decide) (by decide) rfl (by decide) ?_
            refine MF.aload_n C e_X7_of_82 0 rfl rfl ?_
            refine MF.getR (j := 1) C cf_X7 l_X7_10 e_X7_of_83 kF_0_0 ?_
            refine MF.iload_n C e_X7_of_86 1 rfl rfl ?_
            refine MF.callVP (As := [.int x1]) C (R_X5_hoursGiven hD 1 x1 kT_1 s) m_X5_hoursGiven k_X7_147 (iTo.o kT_1) rfl (by decide) e_X7_of_87 rfl rfl (Nat.le_of_ble_eq_true rfl) (fun v8 => ?_)
            exact MF.iret C e_X7_of_90
          · refine MF.split (fun h3 => ?_) (fun h3 => ?_)
            · refine MF.tabIn (tgt := 91) C e_X7_of_32 h3 (by decide) (by decide) rfl (by decide) ?_
              refine MF.aload_n C e_X7_of_91 0 rfl rfl ?_
              refine MF.getR (j := 1) C cf_X7 l_X7_10 e_X7_of_92 kF_0_0 ?_
              refine MF.iload_n C e_X7_of_95 1 rfl rfl ?_
              refine MF.callVP (As := [.int x1]) C (R_X5_streetsOf hD 1 x1 kT_1 s) m_X5_streetsOf k_X7_150 (iTo.o kT_1) rfl (by decide) e_X7_of_96 rfl rfl (Nat.le_of_ble_eq_true rfl) (fun v9 => ?_)
              exact MF.iret C e_X7_of_99
            · refine MF.tabOut (tgt := 100) C e_X7_of_32 (by have q0 : _ ≠ (6 : Int) := i32_ne h0; have q1 : _ ≠ (7 : Int) := i32_ne h1; have q2 : _ ≠ (8 : Int) := i32_ne h2; have q3 : _ ≠ (9 : Int) := i32_ne h3; omega) (by decide) ?_
              refine MF.aload_n C e_X7_of_100 0 rfl rfl ?_
              refine MF.getR (j := 1) C cf_X7 l_X7_10 e_X7_of_101 kF_0_0 ?_
              refine MF.getRN (j := 4) C cf_X5 l_X7_83 e_X7_of_104 (iTo.f1 kT_1) ?_
              refine MF.iload_n C e_X7_of_107 1 rfl rfl ?_
              refine MF.iload_n C e_X7_of_108 2 rfl rfl ?_
              refine MF.callVP (As := [.int x1, .int x2]) C (R_X2_cell hD 4 x1 x2 kR_4 s) m_X2_cell k_X7_153 (iRo.o kR_4) rfl (by decide) e_X7_of_109 rfl rfl (Nat.le_of_ble_eq_true rfl) (fun v10 => ?_)
              exact MF.iret C e_X7_of_112
    · refine MF.aload_n C e_X7_of_26 0 rfl rfl ?_
      refine MF.callVI (As := []) C (R_X7_refuseBad hD s) m_X7_refuseBad k_X7_97 kO_0 rfl (by decide) e_X7_of_27 rfl rfl (Nat.le_of_ble_eq_true rfl) (fun v11 s12 => ?_)
      exact MF.iret C e_X7_of_30
theorem e_X7_isStreet_0 : Dc cX7_isStreet 0 (.iload_n 1) 1 1 := ⟨by decide +kernel, rfl⟩
theorem e_X7_isStreet_1 : Dc cX7_isStreet 1 (.aload_n 0) 1 2 := ⟨by decide +kernel, rfl⟩
theorem e_X7_isStreet_2 : Dc cX7_isStreet 2 (.getfield 10) 3 5 := ⟨by decide +kernel, rfl⟩
theorem e_X7_isStreet_5 : Dc cX7_isStreet 5 (.getfield 214) 3 8 := ⟨by decide +kernel, rfl⟩
theorem e_X7_isStreet_8 : Dc cX7_isStreet 8 (.invokevirtual 87) 3 11 := ⟨by decide +kernel, rfl⟩
theorem e_X7_isStreet_11 : Dc cX7_isStreet 11 (.invokestatic 93) 3 14 := ⟨by decide +kernel, rfl⟩
theorem e_X7_isStreet_14 : Dc cX7_isStreet 14 (.ireturn) 1 15 := ⟨by decide +kernel, rfl⟩
set_option maxHeartbeats 4000000 in
set_option maxRecDepth 20000 in
theorem R_X7_isStreet (hD : DD E) (x1 : Int32) (s : Sg) : ∀ v, (f_X7_isStreet x1 s) = some v → RI l E 1 M_X7_isStreet [.ref (ead E 0), .int x1] s v s := by
  refine ofP hD (by decide +kernel) (Nat.le_of_ble_eq_true rfl) (fun X C => ?_)
  show MF l E X (fun q : Int32 => QI E X q s) (f_X7_isStreet x1 s) s 0 [(0, .ref (ead E 0)), (1, .int x1)] []
  unfold f_X7_isStreet
  refine MF.iload_n C e_X7_isStreet_0 1 rfl rfl ?_
  refine MF.aload_n C e_X7_isStreet_1 0 rfl rfl ?_
  refine MF.getR (j := 1) C cf_X7 l_X7_10 e_X7_isStreet_2 kF_0_0 ?_
  refine MF.getRN (j := 2) C cf_X5 l_X7_214 e_X7_isStreet_5 (iTo.f0 kT_1) ?_
  refine MF.callVP (As := []) C (R_X2_size hD 2 kR_2 s) m_X2_size k_X7_87 (iRo.o kR_2) rfl (by decide) e_X7_isStreet_8 rfl rfl (Nat.le_of_ble_eq_true rfl) (fun v1 => ?_)
  refine MF.callSP (As := [.int x1, .int v1]) C (R_X7_isBelow hD x1 v1 s) m_X7_isBelow k_X7_93 (by decide) e_X7_isStreet_11 rfl rfl (Nat.le_of_ble_eq_true rfl) (fun v2 => ?_)
  exact MF.nretp C e_X7_isStreet_14 rfl
theorem e_X7_name_0 : Dc cX7_name 0 (.aload_n 0) 1 1 := ⟨by decide +kernel, rfl⟩
theorem e_X7_name_1 : Dc cX7_name 1 (.iload_n 1) 1 2 := ⟨by decide +kernel, rfl⟩
theorem e_X7_name_2 : Dc cX7_name 2 (.invokevirtual 157) 3 5 := ⟨by decide +kernel, rfl⟩
theorem e_X7_name_5 : Dc cX7_name 5 (.ifCond .eq 10) 3 8 := ⟨by decide +kernel, rfl⟩
theorem e_X7_name_8 : Dc cX7_name 8 (.iload_n 2) 1 9 := ⟨by decide +kernel, rfl⟩
theorem e_X7_name_9 : Dc cX7_name 9 (.invokestatic 161) 3 12 := ⟨by decide +kernel, rfl⟩
theorem e_X7_name_12 : Dc cX7_name 12 (.ifCond .ne 8) 3 15 := ⟨by decide +kernel, rfl⟩
theorem e_X7_name_15 : Dc cX7_name 15 (.aload_n 0) 1 16 := ⟨by decide +kernel, rfl⟩
theorem e_X7_name_16 : Dc cX7_name 16 (.invokevirtual 97) 3 19 := ⟨by decide +kernel, rfl⟩
theorem e_X7_name_19 : Dc cX7_name 19 (.ireturn) 1 20 := ⟨by decide +kernel, rfl⟩
theorem e_X7_name_20 : Dc cX7_name 20 (.aload_n 0) 1 21 := ⟨by decide +kernel, rfl⟩
theorem e_X7_name_21 : Dc cX7_name 21 (.getfield 44) 3 24 := ⟨by decide +kernel, rfl⟩
theorem e_X7_name_24 : Dc cX7_name 24 (.aload_n 0) 1 25 := ⟨by decide +kernel, rfl⟩
theorem e_X7_name_25 : Dc cX7_name 25 (.getfield 10) 3 28 := ⟨by decide +kernel, rfl⟩
theorem e_X7_name_28 : Dc cX7_name 28 (.invokevirtual 164) 3 31 := ⟨by decide +kernel, rfl⟩
theorem e_X7_name_31 : Dc cX7_name 31 (.aload_n 0) 1 32 := ⟨by decide +kernel, rfl⟩
theorem e_X7_name_32 : Dc cX7_name 32 (.getfield 44) 3 35 := ⟨by decide +kernel, rfl⟩
theorem e_X7_name_35 : Dc cX7_name 35 (.iload_n 1) 1 36 := ⟨by decide +kernel, rfl⟩
theorem e_X7_name_36 : Dc cX7_name 36 (.iload_n 2) 1 37 := ⟨by decide +kernel, rfl⟩
theorem e_X7_name_37 : Dc cX7_name 37 (.invokevirtual 167) 3 40 := ⟨by decide +kernel, rfl⟩
theorem e_X7_name_40 : Dc cX7_name 40 (.ireturn) 1 41 := ⟨by decide +kernel, rfl⟩
set_option maxHeartbeats 4000000 in
set_option maxRecDepth 20000 in
theorem R_X7_name (hD : DD E) (x1 : Int32) (x2 : Int32) (s : Sg) : ∀ v τ, (f_X7_name x1 x2 s) = some (v, τ) → RI l E 6 M_X7_name [.ref (ead E 0), .int x1, .int x2] s v τ := by
  refine ofI hD (by decide +kernel) (Nat.le_of_ble_eq_true rfl) (fun X C => ?_)
  show MF l E X (fun q : Int32 × Sg => QI E X q.1 q.2) (f_X7_name x1 x2 s) s 0 [(0, .ref (ead E 0)), (1, .int x1), (2, .int x2)] []
  unfold f_X7_name
  refine MF.aload_n C e_X7_name_0 0 rfl rfl ?_
  refine MF.iload_n C e_X7_name_1 1 rfl rfl ?_
  refine MF.callVP (As := [.int x1]) C (R_X7_isStreet hD x1 s) m_X7_isStreet k_X7_157 kO_0 rfl (by decide) e_X7_name_2 rfl rfl (Nat.le_of_ble_eq_true rfl) (fun v1 => ?_)
  refine MF.if_eq (tgt := 15) C e_X7_name_5 (by decide) (fun _ => ?_) (fun _ => ?_)
  · refine MF.aload_n C e_X7_name_15 0 rfl rfl ?_
    refine MF.callVI (As := []) C (R_X7_refuseBad hD s) m_X7_refuseBad k_X7_97 kO_0 rfl (by decide) e_X7_name_16 rfl rfl (Nat.le_of_ble_eq_true rfl) (fun v2 s3 => ?_)
    exact MF.iret C e_X7_name_19
  · refine MF.iload_n C e_X7_name_8 2 rfl rfl ?_
    refine MF.callSP (As := [.int x2]) C (R_X7_isHour hD x2 s) m_X7_isHour k_X7_161 (by decide) e_X7_name_9 rfl rfl (Nat.le_of_ble_eq_true rfl) (fun v4 => ?_)
    refine MF.if_ne (tgt := 20) C e_X7_name_12 (by decide) (fun _ => ?_) (fun _ => ?_)
    · refine MF.aload_n C e_X7_name_20 0 rfl rfl ?_
      refine MF.getR (j := 61) C cf_X7 l_X7_44 e_X7_name_21 kF_0_6 ?_
      refine MF.aload_n C e_X7_name_24 0 rfl rfl ?_
      refine MF.getR (j := 1) C cf_X7 l_X7_10 e_X7_name_25 kF_0_0 ?_
      refine MF.callVU (As := [.ref (ead E 1)]) C (R_X1_write hD 1 kT_1 s) m_X1_write k_X7_164 kO_61 rfl (by decide) e_X7_name_28 rfl rfl (Nat.le_of_ble_eq_true rfl) (fun s5 => ?_)
      refine MF.aload_n C e_X7_name_31 0 rfl rfl ?_
      refine MF.getR (j := 61) C cf_X7 l_X7_44 e_X7_name_32 kF_0_6 ?_
      refine MF.iload_n C e_X7_name_35 1 rfl rfl ?_
      refine MF.iload_n C e_X7_name_36 2 rfl rfl ?_
      refine MF.callVP (As := [.int x1, .int x2]) C (R_X1_at hD x1 x2 s5) m_X1_at k_X7_167 kO_61 rfl (by decide) e_X7_name_37 rfl rfl (Nat.le_of_ble_eq_true rfl) (fun v6 => ?_)
      exact MF.iret C e_X7_name_40
    · refine MF.aload_n C e_X7_name_15 0 rfl rfl ?_
      refine MF.callVI (As := []) C (R_X7_refuseBad hD s) m_X7_refuseBad k_X7_97 kO_0 rfl (by decide) e_X7_name_16 rfl rfl (Nat.le_of_ble_eq_true rfl) (fun v7 s8 => ?_)
      exact MF.iret C e_X7_name_19
theorem e_X7_changes_0 : Dc cX7_changes 0 (.aload_n 0) 1 1 := ⟨by decide +kernel, rfl⟩
theorem e_X7_changes_1 : Dc cX7_changes 1 (.iload_n 1) 1 2 := ⟨by decide +kernel, rfl⟩
theorem e_X7_changes_2 : Dc cX7_changes 2 (.invokevirtual 157) 3 5 := ⟨by decide +kernel, rfl⟩
theorem e_X7_changes_5 : Dc cX7_changes 5 (.ifCond .ne 8) 3 8 := ⟨by decide +kernel, rfl⟩
theorem e_X7_changes_8 : Dc cX7_changes 8 (.aload_n 0) 1 9 := ⟨by decide +kernel, rfl⟩
theorem e_X7_changes_9 : Dc cX7_changes 9 (.invokevirtual 97) 3 12 := ⟨by decide +kernel, rfl⟩
theorem e_X7_changes_12 : Dc cX7_changes 12 (.ireturn) 1 13 := ⟨by decide +kernel, rfl⟩
theorem e_X7_changes_13 : Dc cX7_changes 13 (.aload_n 0) 1 14 := ⟨by decide +kernel, rfl⟩
theorem e_X7_changes_14 : Dc cX7_changes 14 (.getfield 35) 3 17 := ⟨by decide +kernel, rfl⟩
theorem e_X7_changes_17 : Dc cX7_changes 17 (.aload_n 0) 1 18 := ⟨by decide +kernel, rfl⟩
theorem e_X7_changes_18 : Dc cX7_changes 18 (.getfield 10) 3 21 := ⟨by decide +kernel, rfl⟩
theorem e_X7_changes_21 : Dc cX7_changes 21 (.invokevirtual 170) 3 24 := ⟨by decide +kernel, rfl⟩
theorem e_X7_changes_24 : Dc cX7_changes 24 (.aload_n 0) 1 25 := ⟨by decide +kernel, rfl⟩
theorem e_X7_changes_25 : Dc cX7_changes 25 (.getfield 35) 3 28 := ⟨by decide +kernel, rfl⟩
theorem e_X7_changes_28 : Dc cX7_changes 28 (.iload_n 1) 1 29 := ⟨by decide +kernel, rfl⟩
theorem e_X7_changes_29 : Dc cX7_changes 29 (.iconst (-1)) 1 30 := ⟨by decide +kernel, rfl⟩
theorem e_X7_changes_30 : Dc cX7_changes 30 (.invokevirtual 173) 3 33 := ⟨by decide +kernel, rfl⟩
theorem e_X7_changes_33 : Dc cX7_changes 33 (.ireturn) 1 34 := ⟨by decide +kernel, rfl⟩
set_option maxHeartbeats 4000000 in
set_option maxRecDepth 20000 in
theorem R_X7_changes (hD : DD E) (x1 : Int32) (s : Sg) : ∀ v τ, (f_X7_changes x1 s) = some (v, τ) → RI l E 5 M_X7_changes [.ref (ead E 0), .int x1] s v τ := by
  refine ofI hD (by decide +kernel) (Nat.le_of_ble_eq_true rfl) (fun X C => ?_)
  show MF l E X (fun q : Int32 × Sg => QI E X q.1 q.2) (f_X7_changes x1 s) s 0 [(0, .ref (ead E 0)), (1, .int x1)] []
  unfold f_X7_changes
  refine MF.aload_n C e_X7_changes_0 0 rfl rfl ?_
  refine MF.iload_n C e_X7_changes_1 1 rfl rfl ?_
  refine MF.callVP (As := [.int x1]) C (R_X7_isStreet hD x1 s) m_X7_isStreet k_X7_157 kO_0 rfl (by decide) e_X7_changes_2 rfl rfl (Nat.le_of_ble_eq_true rfl) (fun v1 => ?_)
  refine MF.if_ne (tgt := 13) C e_X7_changes_5 (by decide) (fun _ => ?_) (fun _ => ?_)
  · refine MF.aload_n C e_X7_changes_13 0 rfl rfl ?_
    refine MF.getR (j := 52) C cf_X7 l_X7_35 e_X7_changes_14 kF_0_5 ?_
    refine MF.aload_n C e_X7_changes_17 0 rfl rfl ?_
    refine MF.getR (j := 1) C cf_X7 l_X7_10 e_X7_changes_18 kF_0_0 ?_
    refine MF.callVU (As := [.ref (ead E 1)]) C (R_X0_plan hD 1 kT_1 s) m_X0_plan k_X7_170 kO_52 rfl (by decide) e_X7_changes_21 rfl rfl (Nat.le_of_ble_eq_true rfl) (fun s2 => ?_)
    refine MF.aload_n C e_X7_changes_24 0 rfl rfl ?_
    refine MF.getR (j := 52) C cf_X7 l_X7_35 e_X7_changes_25 kF_0_5 ?_
    refine MF.iload_n C e_X7_changes_28 1 rfl rfl ?_
    refine MF.iconst (v := (-1 : Int32)) C e_X7_changes_29 rfl ?_
    refine MF.callVI (As := [.int x1, .int (-1 : Int32)]) C (R_X0_renamings hD x1 (-1 : Int32) s2) m_X0_renamings k_X7_173 kO_52 rfl (by decide) e_X7_changes_30 rfl rfl (Nat.le_of_ble_eq_true rfl) (fun v3 s4 => ?_)
    exact MF.iret C e_X7_changes_33
  · refine MF.aload_n C e_X7_changes_8 0 rfl rfl ?_
    refine MF.callVI (As := []) C (R_X7_refuseBad hD s) m_X7_refuseBad k_X7_97 kO_0 rfl (by decide) e_X7_changes_9 rfl rfl (Nat.le_of_ble_eq_true rfl) (fun v5 s6 => ?_)
    exact MF.iret C e_X7_changes_12
theorem e_X7_which_0 : Dc cX7_which 0 (.iload_n 1) 1 1 := ⟨by decide +kernel, rfl⟩
theorem e_X7_which_1 : Dc cX7_which 1 (.ifCond .lt 22) 3 4 := ⟨by decide +kernel, rfl⟩
theorem e_X7_which_4 : Dc cX7_which 4 (.iload_n 2) 1 5 := ⟨by decide +kernel, rfl⟩
theorem e_X7_which_5 : Dc cX7_which 5 (.invokestatic 161) 3 8 := ⟨by decide +kernel, rfl⟩
theorem e_X7_which_8 : Dc cX7_which 8 (.ifCond .eq 15) 3 11 := ⟨by decide +kernel, rfl⟩
theorem e_X7_which_11 : Dc cX7_which 11 (.iload_n 3) 1 12 := ⟨by decide +kernel, rfl⟩
theorem e_X7_which_12 : Dc cX7_which 12 (.invokestatic 161) 3 15 := ⟨by decide +kernel, rfl⟩
theorem e_X7_which_15 : Dc cX7_which 15 (.ifCond .eq 8) 3 18 := ⟨by decide +kernel, rfl⟩
theorem e_X7_which_18 : Dc cX7_which 18 (.iload_n 3) 1 19 := ⟨by decide +kernel, rfl⟩
theorem e_X7_which_19 : Dc cX7_which 19 (.iload_n 2) 1 20 := ⟨by decide +kernel, rfl⟩
theorem e_X7_which_20 : Dc cX7_which 20 (.if_icmp .ge 8) 3 23 := ⟨by decide +kernel, rfl⟩
theorem e_X7_which_23 : Dc cX7_which 23 (.aload_n 0) 1 24 := ⟨by decide +kernel, rfl⟩
theorem e_X7_which_24 : Dc cX7_which 24 (.invokevirtual 97) 3 27 := ⟨by decide +kernel, rfl⟩
theorem e_X7_which_27 : Dc cX7_which 27 (.ireturn) 1 28 := ⟨by decide +kernel, rfl⟩
theorem e_X7_which_28 : Dc cX7_which 28 (.aload_n 0) 1 29 := ⟨by decide +kernel, rfl⟩
theorem e_X7_which_29 : Dc cX7_which 29 (.getfield 44) 3 32 := ⟨by decide +kernel, rfl⟩
theorem e_X7_which_32 : Dc cX7_which 32 (.aload_n 0) 1 33 := ⟨by decide +kernel, rfl⟩
theorem e_X7_which_33 : Dc cX7_which 33 (.getfield 10) 3 36 := ⟨by decide +kernel, rfl⟩
theorem e_X7_which_36 : Dc cX7_which 36 (.invokevirtual 164) 3 39 := ⟨by decide +kernel, rfl⟩
theorem e_X7_which_39 : Dc cX7_which 39 (.iconst 0) 1 40 := ⟨by decide +kernel, rfl⟩
theorem e_X7_which_40 : Dc cX7_which 40 (.istore 4) 2 42 := ⟨by decide +kernel, rfl⟩
theorem e_X7_which_42 : Dc cX7_which 42 (.iload_n 2) 1 43 := ⟨by decide +kernel, rfl⟩
theorem e_X7_which_43 : Dc cX7_which 43 (.istore 5) 2 45 := ⟨by decide +kernel, rfl⟩
theorem e_X7_which_45 : Dc cX7_which 45 (.iload 5) 2 47 := ⟨by decide +kernel, rfl⟩
theorem e_X7_which_47 : Dc cX7_which 47 (.iload_n 3) 1 48 := ⟨by decide +kernel, rfl⟩
theorem e_X7_which_48 : Dc cX7_which 48 (.if_icmp .gt 24) 3 51 := ⟨by decide +kernel, rfl⟩
theorem e_X7_which_51 : Dc cX7_which 51 (.iload 4) 2 53 := ⟨by decide +kernel, rfl⟩
theorem e_X7_which_53 : Dc cX7_which 53 (.aload_n 0) 1 54 := ⟨by decide +kernel, rfl⟩
theorem e_X7_which_54 : Dc cX7_which 54 (.getfield 44) 3 57 := ⟨by decide +kernel, rfl⟩
theorem e_X7_which_57 : Dc cX7_which 57 (.iload_n 1) 1 58 := ⟨by decide +kernel, rfl⟩
theorem e_X7_which_58 : Dc cX7_which 58 (.iload 5) 2 60 := ⟨by decide +kernel, rfl⟩
theorem e_X7_which_60 : Dc cX7_which 60 (.invokevirtual 176) 3 63 := ⟨by decide +kernel, rfl⟩
theorem e_X7_which_63 : Dc cX7_which 63 (.ior) 1 64 := ⟨by decide +kernel, rfl⟩
theorem e_X7_which_64 : Dc cX7_which 64 (.istore 4) 2 66 := ⟨by decide +kernel, rfl⟩
theorem e_X7_which_66 : Dc cX7_which 66 (.iinc 5 1) 3 69 := ⟨by decide +kernel, rfl⟩
theorem e_X7_which_69 : Dc cX7_which 69 (.goto (-24)) 3 72 := ⟨by decide +kernel, rfl⟩
theorem e_X7_which_72 : Dc cX7_which 72 (.iload 4) 2 74 := ⟨by decide +kernel, rfl⟩
theorem e_X7_which_74 : Dc cX7_which 74 (.ireturn) 1 75 := ⟨by decide +kernel, rfl⟩
set_option maxHeartbeats 4000000 in
set_option maxRecDepth 20000 in
theorem R_X7_which (hD : DD E) (x1 : Int32) (x2 : Int32) (x3 : Int32) (s : Sg) : ∀ v τ, (f_X7_which x1 x2 x3 s) = some (v, τ) → RI l E 6 M_X7_which [.ref (ead E 0), .int x1, .int x2, .int x3] s v τ := by
  refine ofI hD (by decide +kernel) (Nat.le_of_ble_eq_true rfl) (fun X C => ?_)
  show MF l E X (fun q : Int32 × Sg => QI E X q.1 q.2) (f_X7_which x1 x2 x3 s) s 0 [(0, .ref (ead E 0)), (1, .int x1), (2, .int x2), (3, .int x3)] []
  unfold f_X7_which
  refine MF.iload_n C e_X7_which_0 1 rfl rfl ?_
  refine MF.if_lt (tgt := 23) C e_X7_which_1 (by decide) (fun _ => ?_) (fun _ => ?_)
  · refine MF.aload_n C e_X7_which_23 0 rfl rfl ?_
    refine MF.callVI (As := []) C (R_X7_refuseBad hD s) m_X7_refuseBad k_X7_97 kO_0 rfl (by decide) e_X7_which_24 rfl rfl (Nat.le_of_ble_eq_true rfl) (fun v1 s2 => ?_)
    exact MF.iret C e_X7_which_27
  · refine MF.iload_n C e_X7_which_4 2 rfl rfl ?_
    refine MF.callSP (As := [.int x2]) C (R_X7_isHour hD x2 s) m_X7_isHour k_X7_161 (by decide) e_X7_which_5 rfl rfl (Nat.le_of_ble_eq_true rfl) (fun v3 => ?_)
    refine MF.if_eq (tgt := 23) C e_X7_which_8 (by decide) (fun _ => ?_) (fun _ => ?_)
    · refine MF.aload_n C e_X7_which_23 0 rfl rfl ?_
      refine MF.callVI (As := []) C (R_X7_refuseBad hD s) m_X7_refuseBad k_X7_97 kO_0 rfl (by decide) e_X7_which_24 rfl rfl (Nat.le_of_ble_eq_true rfl) (fun v4 s5 => ?_)
      exact MF.iret C e_X7_which_27
    · refine MF.iload_n C e_X7_which_11 3 rfl rfl ?_
      refine MF.callSP (As := [.int x3]) C (R_X7_isHour hD x3 s) m_X7_isHour k_X7_161 (by decide) e_X7_which_12 rfl rfl (Nat.le_of_ble_eq_true rfl) (fun v6 => ?_)
      refine MF.if_eq (tgt := 23) C e_X7_which_15 (by decide) (fun _ => ?_) (fun _ => ?_)
      · refine MF.aload_n C e_X7_which_23 0 rfl rfl ?_
        refine MF.callVI (As := []) C (R_X7_refuseBad hD s) m_X7_refuseBad k_X7_97 kO_0 rfl (by decide) e_X7_which_24 rfl rfl (Nat.le_of_ble_eq_true rfl) (fun v7 s8 => ?_)
        exact MF.iret C e_X7_which_27
      · refine MF.iload_n C e_X7_which_18 3 rfl rfl ?_
        refine MF.iload_n C e_X7_which_19 2 rfl rfl ?_
        refine MF.icmp_ge (tgt := 28) C e_X7_which_20 (by decide) (fun _ => ?_) (fun _ => ?_)
        · refine MF.aload_n C e_X7_which_28 0 rfl rfl ?_
          refine MF.getR (j := 61) C cf_X7 l_X7_44 e_X7_which_29 kF_0_6 ?_
          refine MF.aload_n C e_X7_which_32 0 rfl rfl ?_
          refine MF.getR (j := 1) C cf_X7 l_X7_10 e_X7_which_33 kF_0_0 ?_
          refine MF.callVU (As := [.ref (ead E 1)]) C (R_X1_write hD 1 kT_1 s) m_X1_write k_X7_164 kO_61 rfl (by decide) e_X7_which_36 rfl rfl (Nat.le_of_ble_eq_true rfl) (fun s9 => ?_)
          refine MF.iconst (v := (nI 0)) C e_X7_which_39 rfl ?_
          refine MF.istore (lv' := [(0, .ref (ead E 0)), (1, .int x1), (2, .int x2), (3, .int x3), (4, .int (nI 0))]) C e_X7_which_40 (by decide) rfl ?_
          refine MF.iload_n C e_X7_which_42 2 rfl rfl ?_
          refine MF.istore (lv' := [(0, .ref (ead E 0)), (1, .int x1), (2, .int x2), (3, .int x3), (4, .int (nI 0)), (5, .int x2)]) C e_X7_which_43 (by decide) rfl ?_
          refine MF.sub [0, 1, 3, 4, 5] rfl ?_
          refine MF.loop2 (fun i10 i11 => s9) (fun i10 i11 => [(0, .ref (ead E 0)), (1, .int x1), (3, .int x3), (4, .int i10), (5, .int i11)]) (fun self12 hself12 i10 i11 => ?_) fu (nI 0) x2
          unfold b_X7_which_45
          refine MF.iload C e_X7_which_45 4 rfl ?_
          refine MF.iload_n C e_X7_which_47 2 rfl rfl ?_
          refine MF.icmp_gt (tgt := 72) C e_X7_which_48 (by decide) (fun _ => ?_) (fun _ => ?_)
          · refine MF.iload C e_X7_which_72 3 rfl ?_
            exact MF.iret C e_X7_which_74
          · refine MF.iload C e_X7_which_51 3 rfl ?_
            refine MF.aload_n C e_X7_which_53 0 rfl rfl ?_
            refine MF.getR (j := 61) C cf_X7 l_X7_44 e_X7_which_54 kF_0_6 ?_
            refine MF.iload_n C e_X7_which_57 1 rfl rfl ?_
            refine MF.iload C e_X7_which_58 4 rfl ?_
            refine MF.callVP (As := [.int x1, .int i11]) C (R_X1_having hD x1 i11 s9) m_X1_having k_X7_176 kO_61 rfl (by decide) e_X7_which_60 rfl rfl (Nat.le_of_ble_eq_true rfl) (fun v13 => ?_)
            refine MF.ior C e_X7_which_63 ?_
            refine MF.nmI (fun v14 => ?_)
            refine MF.istore (lv' := [(0, .ref (ead E 0)), (1, .int x1), (3, .int x3), (4, .int v14), (5, .int i11)]) C e_X7_which_64 (by decide) rfl ?_
            refine MF.iinc (v := (nI 1)) (lv' := [(0, .ref (ead E 0)), (1, .int x1), (3, .int x3), (4, .int v14), (5, .int (i11 + (nI 1)))]) C e_X7_which_66 4 rfl rfl (by decide) rfl ?_
            refine MF.goto (tgt := 45) C e_X7_which_69 (by decide) ?_
            exact hself12 v14 (i11 + (nI 1))
        · refine MF.aload_n C e_X7_which_23 0 rfl rfl ?_
          refine MF.callVI (As := []) C (R_X7_refuseBad hD s) m_X7_refuseBad k_X7_97 kO_0 rfl (by decide) e_X7_which_24 rfl rfl (Nat.le_of_ble_eq_true rfl) (fun v15 s16 => ?_)
          exact MF.iret C e_X7_which_27
theorem e_X7_letter_0 : Dc cX7_letter 0 (.aload_n 0) 1 1 := ⟨by decide +kernel, rfl⟩
theorem e_X7_letter_1 : Dc cX7_letter 1 (.iload_n 1) 1 2 := ⟨by decide +kernel, rfl⟩
theorem e_X7_letter_2 : Dc cX7_letter 2 (.invokevirtual 157) 3 5 := ⟨by decide +kernel, rfl⟩
theorem e_X7_letter_5 : Dc cX7_letter 5 (.ifCond .eq 22) 3 8 := ⟨by decide +kernel, rfl⟩
theorem e_X7_letter_8 : Dc cX7_letter 8 (.iload_n 2) 1 9 := ⟨by decide +kernel, rfl⟩
theorem e_X7_letter_9 : Dc cX7_letter 9 (.invokestatic 161) 3 12 := ⟨by decide +kernel, rfl⟩
theorem e_X7_letter_12 : Dc cX7_letter 12 (.ifCond .eq 15) 3 15 := ⟨by decide +kernel, rfl⟩
theorem e_X7_letter_15 : Dc cX7_letter 15 (.iload_n 3) 1 16 := ⟨by decide +kernel, rfl⟩
theorem e_X7_letter_16 : Dc cX7_letter 16 (.invokestatic 161) 3 19 := ⟨by decide +kernel, rfl⟩
theorem e_X7_letter_19 : Dc cX7_letter 19 (.ifCond .eq 8) 3 22 := ⟨by decide +kernel, rfl⟩
theorem e_X7_letter_22 : Dc cX7_letter 22 (.iload_n 3) 1 23 := ⟨by decide +kernel, rfl⟩
theorem e_X7_letter_23 : Dc cX7_letter 23 (.iload_n 2) 1 24 := ⟨by decide +kernel, rfl⟩
theorem e_X7_letter_24 : Dc cX7_letter 24 (.if_icmp .ge 8) 3 27 := ⟨by decide +kernel, rfl⟩
theorem e_X7_letter_27 : Dc cX7_letter 27 (.aload_n 0) 1 28 := ⟨by decide +kernel, rfl⟩
theorem e_X7_letter_28 : Dc cX7_letter 28 (.invokevirtual 97) 3 31 := ⟨by decide +kernel, rfl⟩
theorem e_X7_letter_31 : Dc cX7_letter 31 (.ireturn) 1 32 := ⟨by decide +kernel, rfl⟩
theorem e_X7_letter_32 : Dc cX7_letter 32 (.aload_n 0) 1 33 := ⟨by decide +kernel, rfl⟩
theorem e_X7_letter_33 : Dc cX7_letter 33 (.getfield 44) 3 36 := ⟨by decide +kernel, rfl⟩
theorem e_X7_letter_36 : Dc cX7_letter 36 (.aload_n 0) 1 37 := ⟨by decide +kernel, rfl⟩
theorem e_X7_letter_37 : Dc cX7_letter 37 (.getfield 10) 3 40 := ⟨by decide +kernel, rfl⟩
theorem e_X7_letter_40 : Dc cX7_letter 40 (.invokevirtual 164) 3 43 := ⟨by decide +kernel, rfl⟩
theorem e_X7_letter_43 : Dc cX7_letter 43 (.aload_n 0) 1 44 := ⟨by decide +kernel, rfl⟩
theorem e_X7_letter_44 : Dc cX7_letter 44 (.getfield 44) 3 47 := ⟨by decide +kernel, rfl⟩
theorem e_X7_letter_47 : Dc cX7_letter 47 (.aload_n 0) 1 48 := ⟨by decide +kernel, rfl⟩
theorem e_X7_letter_48 : Dc cX7_letter 48 (.getfield 44) 3 51 := ⟨by decide +kernel, rfl⟩
theorem e_X7_letter_51 : Dc cX7_letter 51 (.iload_n 1) 1 52 := ⟨by decide +kernel, rfl⟩
theorem e_X7_letter_52 : Dc cX7_letter 52 (.iload_n 2) 1 53 := ⟨by decide +kernel, rfl⟩
theorem e_X7_letter_53 : Dc cX7_letter 53 (.invokevirtual 167) 3 56 := ⟨by decide +kernel, rfl⟩
theorem e_X7_letter_56 : Dc cX7_letter 56 (.iload_n 3) 1 57 := ⟨by decide +kernel, rfl⟩
theorem e_X7_letter_57 : Dc cX7_letter 57 (.invokevirtual 179) 3 60 := ⟨by decide +kernel, rfl⟩
theorem e_X7_letter_60 : Dc cX7_letter 60 (.istore 4) 2 62 := ⟨by decide +kernel, rfl⟩
theorem e_X7_letter_62 : Dc cX7_letter 62 (.iload 4) 2 64 := ⟨by decide +kernel, rfl⟩
theorem e_X7_letter_64 : Dc cX7_letter 64 (.iconst (-1)) 1 65 := ⟨by decide +kernel, rfl⟩
theorem e_X7_letter_65 : Dc cX7_letter 65 (.if_icmp .ne 5) 3 68 := ⟨by decide +kernel, rfl⟩
theorem e_X7_letter_68 : Dc cX7_letter 68 (.iconst 2) 1 69 := ⟨by decide +kernel, rfl⟩
theorem e_X7_letter_69 : Dc cX7_letter 69 (.ireturn) 1 70 := ⟨by decide +kernel, rfl⟩
theorem e_X7_letter_70 : Dc cX7_letter 70 (.iload 4) 2 72 := ⟨by decide +kernel, rfl⟩
theorem e_X7_letter_72 : Dc cX7_letter 72 (.iload_n 1) 1 73 := ⟨by decide +kernel, rfl⟩
theorem e_X7_letter_73 : Dc cX7_letter 73 (.if_icmp .ne 7) 3 76 := ⟨by decide +kernel, rfl⟩
theorem e_X7_letter_76 : Dc cX7_letter 76 (.iconst 0) 1 77 := ⟨by decide +kernel, rfl⟩
theorem e_X7_letter_77 : Dc cX7_letter 77 (.goto 4) 3 80 := ⟨by decide +kernel, rfl⟩
theorem e_X7_letter_80 : Dc cX7_letter 80 (.iconst 1) 1 81 := ⟨by decide +kernel, rfl⟩
theorem e_X7_letter_81 : Dc cX7_letter 81 (.ireturn) 1 82 := ⟨by decide +kernel, rfl⟩
set_option maxHeartbeats 4000000 in
set_option maxRecDepth 20000 in
theorem R_X7_letter (hD : DD E) (x1 : Int32) (x2 : Int32) (x3 : Int32) (s : Sg) : ∀ v τ, (f_X7_letter x1 x2 x3 s) = some (v, τ) → RI l E 6 M_X7_letter [.ref (ead E 0), .int x1, .int x2, .int x3] s v τ := by
  refine ofI hD (by decide +kernel) (Nat.le_of_ble_eq_true rfl) (fun X C => ?_)
  show MF l E X (fun q : Int32 × Sg => QI E X q.1 q.2) (f_X7_letter x1 x2 x3 s) s 0 [(0, .ref (ead E 0)), (1, .int x1), (2, .int x2), (3, .int x3)] []
  unfold f_X7_letter
  refine MF.aload_n C e_X7_letter_0 0 rfl rfl ?_
  refine MF.iload_n C e_X7_letter_1 1 rfl rfl ?_
  refine MF.callVP (As := [.int x1]) C (R_X7_isStreet hD x1 s) m_X7_isStreet k_X7_157 kO_0 rfl (by decide) e_X7_letter_2 rfl rfl (Nat.le_of_ble_eq_true rfl) (fun v1 => ?_)
  refine MF.if_eq (tgt := 27) C e_X7_letter_5 (by decide) (fun _ => ?_) (fun _ => ?_)
  · refine MF.aload_n C e_X7_letter_27 0 rfl rfl ?_
    refine MF.callVI (As := []) C (R_X7_refuseBad hD s) m_X7_refuseBad k_X7_97 kO_0 rfl (by decide) e_X7_letter_28 rfl rfl (Nat.le_of_ble_eq_true rfl) (fun v2 s3 => ?_)
    exact MF.iret C e_X7_letter_31
  · refine MF.iload_n C e_X7_letter_8 2 rfl rfl ?_
    refine MF.callSP (As := [.int x2]) C (R_X7_isHour hD x2 s) m_X7_isHour k_X7_161 (by decide) e_X7_letter_9 rfl rfl (Nat.le_of_ble_eq_true rfl) (fun v4 => ?_)
    refine MF.if_eq (tgt := 27) C e_X7_letter_12 (by decide) (fun _ => ?_) (fun _ => ?_)
    · refine MF.aload_n C e_X7_letter_27 0 rfl rfl ?_
      refine MF.callVI (As := []) C (R_X7_refuseBad hD s) m_X7_refuseBad k_X7_97 kO_0 rfl (by decide) e_X7_letter_28 rfl rfl (Nat.le_of_ble_eq_true rfl) (fun v5 s6 => ?_)
      exact MF.iret C e_X7_letter_31
    · refine MF.iload_n C e_X7_letter_15 3 rfl rfl ?_
      refine MF.callSP (As := [.int x3]) C (R_X7_isHour hD x3 s) m_X7_isHour k_X7_161 (by decide) e_X7_letter_16 rfl rfl (Nat.le_of_ble_eq_true rfl) (fun v7 => ?_)
      refine MF.if_eq (tgt := 27) C e_X7_letter_19 (by decide) (fun _ => ?_) (fun _ => ?_)
      · refine MF.aload_n C e_X7_letter_27 0 rfl rfl ?_
        refine MF.callVI (As := []) C (R_X7_refuseBad hD s) m_X7_refuseBad k_X7_97 kO_0 rfl (by decide) e_X7_letter_28 rfl rfl (Nat.le_of_ble_eq_true rfl) (fun v8 s9 => ?_)
        exact MF.iret C e_X7_letter_31
      · refine MF.iload_n C e_X7_letter_22 3 rfl rfl ?_
        refine MF.iload_n C e_X7_letter_23 2 rfl rfl ?_
        refine MF.icmp_ge (tgt := 32) C e_X7_letter_24 (by decide) (fun _ => ?_) (fun _ => ?_)
        · refine MF.aload_n C e_X7_letter_32 0 rfl rfl ?_
          refine MF.getR (j := 61) C cf_X7 l_X7_44 e_X7_letter_33 kF_0_6 ?_
          refine MF.aload_n C e_X7_letter_36 0 rfl rfl ?_
          refine MF.getR (j := 1) C cf_X7 l_X7_10 e_X7_letter_37 kF_0_0 ?_
          refine MF.callVU (As := [.ref (ead E 1)]) C (R_X1_write hD 1 kT_1 s) m_X1_write k_X7_164 kO_61 rfl (by decide) e_X7_letter_40 rfl rfl (Nat.le_of_ble_eq_true rfl) (fun s10 => ?_)
          refine MF.aload_n C e_X7_letter_43 0 rfl rfl ?_
          refine MF.getR (j := 61) C cf_X7 l_X7_44 e_X7_letter_44 kF_0_6 ?_
          refine MF.aload_n C e_X7_letter_47 0 rfl rfl ?_
          refine MF.getR (j := 61) C cf_X7 l_X7_44 e_X7_letter_48 kF_0_6 ?_
          refine MF.iload_n C e_X7_letter_51 1 rfl rfl ?_
          refine MF.iload_n C e_X7_letter_52 2 rfl rfl ?_
          refine MF.callVP (As := [.int x1, .int x2]) C (R_X1_at hD x1 x2 s10) m_X1_at k_X7_167 kO_61 rfl (by decide) e_X7_letter_53 rfl rfl (Nat.le_of_ble_eq_true rfl) (fun v11 => ?_)
          refine MF.iload_n C e_X7_letter_56 3 rfl rfl ?_
          refine MF.callVP (As := [.int v11, .int x3]) C (R_X1_firstHaving hD v11 x3 s10) m_X1_firstHaving k_X7_179 kO_61 rfl (by decide) e_X7_letter_57 rfl rfl (Nat.le_of_ble_eq_true rfl) (fun v12 => ?_)
          refine MF.istore (lv' := [(0, .ref (ead E 0)), (1, .int x1), (2, .int x2), (3, .int x3), (4, .int v12)]) C e_X7_letter_60 (by decide) rfl ?_
          refine MF.iload C e_X7_letter_62 4 rfl ?_
          refine MF.iconst (v := (-1 : Int32)) C e_X7_letter_64 rfl ?_
          refine MF.icmp_ne (tgt := 70) C e_X7_letter_65 (by decide) (fun _ => ?_) (fun _ => ?_)
          · refine MF.iload C e_X7_letter_70 4 rfl ?_
            refine MF.iload_n C e_X7_letter_72 1 rfl rfl ?_
            refine MF.icmp_ne (tgt := 80) C e_X7_letter_73 (by decide) (fun _ => ?_) (fun _ => ?_)
            · refine MF.iconst (v := (nI 1)) C e_X7_letter_80 rfl ?_
              exact MF.iret C e_X7_letter_81
            · refine MF.iconst (v := (nI 0)) C e_X7_letter_76 rfl ?_
              refine MF.goto (tgt := 81) C e_X7_letter_77 (by decide) ?_
              exact MF.iret C e_X7_letter_81
          · refine MF.iconst (v := (nI 2)) C e_X7_letter_68 rfl ?_
            exact MF.iret C e_X7_letter_69
        · refine MF.aload_n C e_X7_letter_27 0 rfl rfl ?_
          refine MF.callVI (As := []) C (R_X7_refuseBad hD s) m_X7_refuseBad k_X7_97 kO_0 rfl (by decide) e_X7_letter_28 rfl rfl (Nat.le_of_ble_eq_true rfl) (fun v13 s14 => ?_)
          exact MF.iret C e_X7_letter_31
theorem e_X7_cab_0 : Dc cX7_cab 0 (.aload_n 0) 1 1 := ⟨by decide +kernel, rfl⟩
theorem e_X7_cab_1 : Dc cX7_cab 1 (.iload_n 1) 1 2 := ⟨by decide +kernel, rfl⟩
theorem e_X7_cab_2 : Dc cX7_cab 2 (.invokevirtual 157) 3 5 := ⟨by decide +kernel, rfl⟩
theorem e_X7_cab_5 : Dc cX7_cab 5 (.ifCond .eq 17) 3 8 := ⟨by decide +kernel, rfl⟩
theorem e_X7_cab_8 : Dc cX7_cab 8 (.iload_n 2) 1 9 := ⟨by decide +kernel, rfl⟩
theorem e_X7_cab_9 : Dc cX7_cab 9 (.invokestatic 161) 3 12 := ⟨by decide +kernel, rfl⟩
theorem e_X7_cab_12 : Dc cX7_cab 12 (.ifCond .eq 10) 3 15 := ⟨by decide +kernel, rfl⟩
theorem e_X7_cab_15 : Dc cX7_cab 15 (.iload_n 3) 1 16 := ⟨by decide +kernel, rfl⟩
theorem e_X7_cab_16 : Dc cX7_cab 16 (.invokestatic 161) 3 19 := ⟨by decide +kernel, rfl⟩
theorem e_X7_cab_19 : Dc cX7_cab 19 (.ifCond .ne 8) 3 22 := ⟨by decide +kernel, rfl⟩
theorem e_X7_cab_22 : Dc cX7_cab 22 (.aload_n 0) 1 23 := ⟨by decide +kernel, rfl⟩
theorem e_X7_cab_23 : Dc cX7_cab 23 (.invokevirtual 97) 3 26 := ⟨by decide +kernel, rfl⟩
theorem e_X7_cab_26 : Dc cX7_cab 26 (.ireturn) 1 27 := ⟨by decide +kernel, rfl⟩
theorem e_X7_cab_27 : Dc cX7_cab 27 (.aload_n 0) 1 28 := ⟨by decide +kernel, rfl⟩
theorem e_X7_cab_28 : Dc cX7_cab 28 (.getfield 44) 3 31 := ⟨by decide +kernel, rfl⟩
theorem e_X7_cab_31 : Dc cX7_cab 31 (.aload_n 0) 1 32 := ⟨by decide +kernel, rfl⟩
theorem e_X7_cab_32 : Dc cX7_cab 32 (.getfield 10) 3 35 := ⟨by decide +kernel, rfl⟩
theorem e_X7_cab_35 : Dc cX7_cab 35 (.invokevirtual 164) 3 38 := ⟨by decide +kernel, rfl⟩
theorem e_X7_cab_38 : Dc cX7_cab 38 (.aload_n 0) 1 39 := ⟨by decide +kernel, rfl⟩
theorem e_X7_cab_39 : Dc cX7_cab 39 (.getfield 44) 3 42 := ⟨by decide +kernel, rfl⟩
theorem e_X7_cab_42 : Dc cX7_cab 42 (.aload_n 0) 1 43 := ⟨by decide +kernel, rfl⟩
theorem e_X7_cab_43 : Dc cX7_cab 43 (.getfield 44) 3 46 := ⟨by decide +kernel, rfl⟩
theorem e_X7_cab_46 : Dc cX7_cab 46 (.iload_n 1) 1 47 := ⟨by decide +kernel, rfl⟩
theorem e_X7_cab_47 : Dc cX7_cab 47 (.iload_n 2) 1 48 := ⟨by decide +kernel, rfl⟩
theorem e_X7_cab_48 : Dc cX7_cab 48 (.invokevirtual 167) 3 51 := ⟨by decide +kernel, rfl⟩
theorem e_X7_cab_51 : Dc cX7_cab 51 (.iconst 0) 1 52 := ⟨by decide +kernel, rfl⟩
theorem e_X7_cab_52 : Dc cX7_cab 52 (.iload_n 2) 1 53 := ⟨by decide +kernel, rfl⟩
theorem e_X7_cab_53 : Dc cX7_cab 53 (.iload_n 3) 1 54 := ⟨by decide +kernel, rfl⟩
theorem e_X7_cab_54 : Dc cX7_cab 54 (.isub) 1 55 := ⟨by decide +kernel, rfl⟩
theorem e_X7_cab_55 : Dc cX7_cab 55 (.invokestatic 182) 3 58 := ⟨by decide +kernel, rfl⟩
theorem e_X7_cab_58 : Dc cX7_cab 58 (.invokevirtual 179) 3 61 := ⟨by decide +kernel, rfl⟩
theorem e_X7_cab_61 : Dc cX7_cab 61 (.ireturn) 1 62 := ⟨by decide +kernel, rfl⟩
set_option maxHeartbeats 4000000 in
set_option maxRecDepth 20000 in
theorem R_X7_cab (hD : DD E) (x1 : Int32) (x2 : Int32) (x3 : Int32) (s : Sg) : ∀ v τ, (f_X7_cab x1 x2 x3 s) = some (v, τ) → RI l E 6 M_X7_cab [.ref (ead E 0), .int x1, .int x2, .int x3] s v τ := by
  refine ofI hD (by decide +kernel) (Nat.le_of_ble_eq_true rfl) (fun X C => ?_)
  show MF l E X (fun q : Int32 × Sg => QI E X q.1 q.2) (f_X7_cab x1 x2 x3 s) s 0 [(0, .ref (ead E 0)), (1, .int x1), (2, .int x2), (3, .int x3)] []
  unfold f_X7_cab
  refine MF.aload_n C e_X7_cab_0 0 rfl rfl ?_
  refine MF.iload_n C e_X7_cab_1 1 rfl rfl ?_
  refine MF.callVP (As := [.int x1]) C (R_X7_isStreet hD x1 s) m_X7_isStreet k_X7_157 kO_0 rfl (by decide) e_X7_cab_2 rfl rfl (Nat.le_of_ble_eq_true rfl) (fun v1 => ?_)
  refine MF.if_eq (tgt := 22) C e_X7_cab_5 (by decide) (fun _ => ?_) (fun _ => ?_)
  · refine MF.aload_n C e_X7_cab_22 0 rfl rfl ?_
    refine MF.callVI (As := []) C (R_X7_refuseBad hD s) m_X7_refuseBad k_X7_97 kO_0 rfl (by decide) e_X7_cab_23 rfl rfl (Nat.le_of_ble_eq_true rfl) (fun v2 s3 => ?_)
    exact MF.iret C e_X7_cab_26
  · refine MF.iload_n C e_X7_cab_8 2 rfl rfl ?_
    refine MF.callSP (As := [.int x2]) C (R_X7_isHour hD x2 s) m_X7_isHour k_X7_161 (by decide) e_X7_cab_9 rfl rfl (Nat.le_of_ble_eq_true rfl) (fun v4 => ?_)
    refine MF.if_eq (tgt := 22) C e_X7_cab_12 (by decide) (fun _ => ?_) (fun _ => ?_)
    · refine MF.aload_n C e_X7_cab_22 0 rfl rfl ?_
      refine MF.callVI (As := []) C (R_X7_refuseBad hD s) m_X7_refuseBad k_X7_97 kO_0 rfl (by decide) e_X7_cab_23 rfl rfl (Nat.le_of_ble_eq_true rfl) (fun v5 s6 => ?_)
      exact MF.iret C e_X7_cab_26
    · refine MF.iload_n C e_X7_cab_15 3 rfl rfl ?_
      refine MF.callSP (As := [.int x3]) C (R_X7_isHour hD x3 s) m_X7_isHour k_X7_161 (by decide) e_X7_cab_16 rfl rfl (Nat.le_of_ble_eq_true rfl) (fun v7 => ?_)
      refine MF.if_ne (tgt := 27) C e_X7_cab_19 (by decide) (fun _ => ?_) (fun _ => ?_)
      · refine MF.aload_n C e_X7_cab_27 0 rfl rfl ?_
        refine MF.getR (j := 61) C cf_X7 l_X7_44 e_X7_cab_28 kF_0_6 ?_
        refine MF.aload_n C e_X7_cab_31 0 rfl rfl ?_
        refine MF.getR (j := 1) C cf_X7 l_X7_10 e_X7_cab_32 kF_0_0 ?_
        refine MF.callVU (As := [.ref (ead E 1)]) C (R_X1_write hD 1 kT_1 s) m_X1_write k_X7_164 kO_61 rfl (by decide) e_X7_cab_35 rfl rfl (Nat.le_of_ble_eq_true rfl) (fun s8 => ?_)
        refine MF.aload_n C e_X7_cab_38 0 rfl rfl ?_
        refine MF.getR (j := 61) C cf_X7 l_X7_44 e_X7_cab_39 kF_0_6 ?_
        refine MF.aload_n C e_X7_cab_42 0 rfl rfl ?_
        refine MF.getR (j := 61) C cf_X7 l_X7_44 e_X7_cab_43 kF_0_6 ?_
        refine MF.iload_n C e_X7_cab_46 1 rfl rfl ?_
        refine MF.iload_n C e_X7_cab_47 2 rfl rfl ?_
        refine MF.callVP (As := [.int x1, .int x2]) C (R_X1_at hD x1 x2 s8) m_X1_at k_X7_167 kO_61 rfl (by decide) e_X7_cab_48 rfl rfl (Nat.le_of_ble_eq_true rfl) (fun v9 => ?_)
        refine MF.iconst (v := (nI 0)) C e_X7_cab_51 rfl ?_
        refine MF.iload_n C e_X7_cab_52 2 rfl rfl ?_
        refine MF.iload_n C e_X7_cab_53 3 rfl rfl ?_
        refine MF.isub C e_X7_cab_54 ?_
        refine MF.max C k_X7_182 e_X7_cab_55 (by decide) (Nat.le_of_ble_eq_true rfl) ?_
        refine MF.nmI (fun v10 => ?_)
        refine MF.callVP (As := [.int v9, .int v10]) C (R_X1_firstHaving hD v9 v10 s8) m_X1_firstHaving k_X7_179 kO_61 rfl (by decide) e_X7_cab_58 rfl rfl (Nat.le_of_ble_eq_true rfl) (fun v11 => ?_)
        exact MF.iret C e_X7_cab_61
      · refine MF.aload_n C e_X7_cab_22 0 rfl rfl ?_
        refine MF.callVI (As := []) C (R_X7_refuseBad hD s) m_X7_refuseBad k_X7_97 kO_0 rfl (by decide) e_X7_cab_23 rfl rfl (Nat.le_of_ble_eq_true rfl) (fun v12 s13 => ?_)
        exact MF.iret C e_X7_cab_26
theorem e_X7_areStreets_0 : Dc cX7_areStreets 0 (.iload_n 1) 1 1 := ⟨by decide +kernel, rfl⟩
theorem e_X7_areStreets_1 : Dc cX7_areStreets 1 (.iconst 1) 1 2 := ⟨by decide +kernel, rfl⟩
theorem e_X7_areStreets_2 : Dc cX7_areStreets 2 (.aload_n 0) 1 3 := ⟨by decide +kernel, rfl⟩
theorem e_X7_areStreets_3 : Dc cX7_areStreets 3 (.getfield 10) 3 6 := ⟨by decide +kernel, rfl⟩
theorem e_X7_areStreets_6 : Dc cX7_areStreets 6 (.getfield 214) 3 9 := ⟨by decide +kernel, rfl⟩
theorem e_X7_areStreets_9 : Dc cX7_areStreets 9 (.invokevirtual 87) 3 12 := ⟨by decide +kernel, rfl⟩
theorem e_X7_areStreets_12 : Dc cX7_areStreets 12 (.ishl) 1 13 := ⟨by decide +kernel, rfl⟩
theorem e_X7_areStreets_13 : Dc cX7_areStreets 13 (.invokestatic 93) 3 16 := ⟨by decide +kernel, rfl⟩
theorem e_X7_areStreets_16 : Dc cX7_areStreets 16 (.ireturn) 1 17 := ⟨by decide +kernel, rfl⟩
set_option maxHeartbeats 4000000 in
set_option maxRecDepth 20000 in
theorem R_X7_areStreets (hD : DD E) (x1 : Int32) (s : Sg) : ∀ v, (f_X7_areStreets x1 s) = some v → RI l E 1 M_X7_areStreets [.ref (ead E 0), .int x1] s v s := by
  refine ofP hD (by decide +kernel) (Nat.le_of_ble_eq_true rfl) (fun X C => ?_)
  show MF l E X (fun q : Int32 => QI E X q s) (f_X7_areStreets x1 s) s 0 [(0, .ref (ead E 0)), (1, .int x1)] []
  unfold f_X7_areStreets
  refine MF.iload_n C e_X7_areStreets_0 1 rfl rfl ?_
  refine MF.iconst (v := (nI 1)) C e_X7_areStreets_1 rfl ?_
  refine MF.aload_n C e_X7_areStreets_2 0 rfl rfl ?_
  refine MF.getR (j := 1) C cf_X7 l_X7_10 e_X7_areStreets_3 kF_0_0 ?_
  refine MF.getRN (j := 2) C cf_X5 l_X7_214 e_X7_areStreets_6 (iTo.f0 kT_1) ?_
  refine MF.callVP (As := []) C (R_X2_size hD 2 kR_2 s) m_X2_size k_X7_87 (iRo.o kR_2) rfl (by decide) e_X7_areStreets_9 rfl rfl (Nat.le_of_ble_eq_true rfl) (fun v1 => ?_)
  refine MF.ishl C e_X7_areStreets_12 ?_
  refine MF.callSP (As := [.int x1, .int ((nI 1) <<< (v1 &&& 31))]) C (R_X7_isBelow hD x1 ((nI 1) <<< (v1 &&& 31)) s) m_X7_isBelow k_X7_93 (by decide) e_X7_areStreets_13 rfl rfl (Nat.le_of_ble_eq_true rfl) (fun v2 => ?_)
  exact MF.nretp C e_X7_areStreets_16 rfl
theorem e_X7_find_0 : Dc cX7_find 0 (.aload_n 0) 1 1 := ⟨by decide +kernel, rfl⟩
theorem e_X7_find_1 : Dc cX7_find 1 (.iload_n 1) 1 2 := ⟨by decide +kernel, rfl⟩
theorem e_X7_find_2 : Dc cX7_find 2 (.invokevirtual 187) 3 5 := ⟨by decide +kernel, rfl⟩
theorem e_X7_find_5 : Dc cX7_find 5 (.ifCond .eq 11) 3 8 := ⟨by decide +kernel, rfl⟩
theorem e_X7_find_8 : Dc cX7_find 8 (.iload_n 2) 1 9 := ⟨by decide +kernel, rfl⟩
theorem e_X7_find_9 : Dc cX7_find 9 (.iconst 2) 1 10 := ⟨by decide +kernel, rfl⟩
theorem e_X7_find_10 : Dc cX7_find 10 (.invokestatic 93) 3 13 := ⟨by decide +kernel, rfl⟩
theorem e_X7_find_13 : Dc cX7_find 13 (.ifCond .ne 8) 3 16 := ⟨by decide +kernel, rfl⟩
theorem e_X7_find_16 : Dc cX7_find 16 (.aload_n 0) 1 17 := ⟨by decide +kernel, rfl⟩
theorem e_X7_find_17 : Dc cX7_find 17 (.invokevirtual 97) 3 20 := ⟨by decide +kernel, rfl⟩
theorem e_X7_find_20 : Dc cX7_find 20 (.ireturn) 1 21 := ⟨by decide +kernel, rfl⟩
theorem e_X7_find_21 : Dc cX7_find 21 (.aload_n 0) 1 22 := ⟨by decide +kernel, rfl⟩
theorem e_X7_find_22 : Dc cX7_find 22 (.getfield 44) 3 25 := ⟨by decide +kernel, rfl⟩
theorem e_X7_find_25 : Dc cX7_find 25 (.aload_n 0) 1 26 := ⟨by decide +kernel, rfl⟩
theorem e_X7_find_26 : Dc cX7_find 26 (.getfield 10) 3 29 := ⟨by decide +kernel, rfl⟩
theorem e_X7_find_29 : Dc cX7_find 29 (.invokevirtual 164) 3 32 := ⟨by decide +kernel, rfl⟩
theorem e_X7_find_32 : Dc cX7_find 32 (.iconst 0) 1 33 := ⟨by decide +kernel, rfl⟩
theorem e_X7_find_33 : Dc cX7_find 33 (.istore_n 3) 1 34 := ⟨by decide +kernel, rfl⟩
theorem e_X7_find_34 : Dc cX7_find 34 (.iconst 1) 1 35 := ⟨by decide +kernel, rfl⟩
theorem e_X7_find_35 : Dc cX7_find 35 (.istore 4) 2 37 := ⟨by decide +kernel, rfl⟩
theorem e_X7_find_37 : Dc cX7_find 37 (.iload 4) 2 39 := ⟨by decide +kernel, rfl⟩
theorem e_X7_find_39 : Dc cX7_find 39 (.bipush 24) 2 41 := ⟨by decide +kernel, rfl⟩
theorem e_X7_find_41 : Dc cX7_find 41 (.if_icmp .ge 34) 3 44 := ⟨by decide +kernel, rfl⟩
theorem e_X7_find_44 : Dc cX7_find 44 (.aload_n 0) 1 45 := ⟨by decide +kernel, rfl⟩
theorem e_X7_find_45 : Dc cX7_find 45 (.getfield 44) 3 48 := ⟨by decide +kernel, rfl⟩
theorem e_X7_find_48 : Dc cX7_find 48 (.iload_n 1) 1 49 := ⟨by decide +kernel, rfl⟩
theorem e_X7_find_49 : Dc cX7_find 49 (.iload 4) 2 51 := ⟨by decide +kernel, rfl⟩
theorem e_X7_find_51 : Dc cX7_find 51 (.invokevirtual 190) 3 54 := ⟨by decide +kernel, rfl⟩
theorem e_X7_find_54 : Dc cX7_find 54 (.aload_n 0) 1 55 := ⟨by decide +kernel, rfl⟩
theorem e_X7_find_55 : Dc cX7_find 55 (.getfield 44) 3 58 := ⟨by decide +kernel, rfl⟩
theorem e_X7_find_58 : Dc cX7_find 58 (.iload_n 1) 1 59 := ⟨by decide +kernel, rfl⟩
theorem e_X7_find_59 : Dc cX7_find 59 (.iload_n 3) 1 60 := ⟨by decide +kernel, rfl⟩
theorem e_X7_find_60 : Dc cX7_find 60 (.invokevirtual 190) 3 63 := ⟨by decide +kernel, rfl⟩
theorem e_X7_find_63 : Dc cX7_find 63 (.if_icmp .ge 6) 3 66 := ⟨by decide +kernel, rfl⟩
theorem e_X7_find_66 : Dc cX7_find 66 (.iload 4) 2 68 := ⟨by decide +kernel, rfl⟩
theorem e_X7_find_68 : Dc cX7_find 68 (.istore_n 3) 1 69 := ⟨by decide +kernel, rfl⟩
theorem e_X7_find_69 : Dc cX7_find 69 (.iinc 4 1) 3 72 := ⟨by decide +kernel, rfl⟩
theorem e_X7_find_72 : Dc cX7_find 72 (.goto (-35)) 3 75 := ⟨by decide +kernel, rfl⟩
theorem e_X7_find_75 : Dc cX7_find 75 (.iload_n 2) 1 76 := ⟨by decide +kernel, rfl⟩
theorem e_X7_find_76 : Dc cX7_find 76 (.ifCond .ne 7) 3 79 := ⟨by decide +kernel, rfl⟩
theorem e_X7_find_79 : Dc cX7_find 79 (.iload_n 3) 1 80 := ⟨by decide +kernel, rfl⟩
theorem e_X7_find_80 : Dc cX7_find 80 (.goto 12) 3 83 := ⟨by decide +kernel, rfl⟩
theorem e_X7_find_83 : Dc cX7_find 83 (.aload_n 0) 1 84 := ⟨by decide +kernel, rfl⟩
theorem e_X7_find_84 : Dc cX7_find 84 (.getfield 44) 3 87 := ⟨by decide +kernel, rfl⟩
theorem e_X7_find_87 : Dc cX7_find 87 (.iload_n 1) 1 88 := ⟨by decide +kernel, rfl⟩
theorem e_X7_find_88 : Dc cX7_find 88 (.iload_n 3) 1 89 := ⟨by decide +kernel, rfl⟩
theorem e_X7_find_89 : Dc cX7_find 89 (.invokevirtual 190) 3 92 := ⟨by decide +kernel, rfl⟩
theorem e_X7_find_92 : Dc cX7_find 92 (.ireturn) 1 93 := ⟨by decide +kernel, rfl⟩
set_option maxHeartbeats 4000000 in
set_option maxRecDepth 20000 in
theorem R_X7_find (hD : DD E) (x1 : Int32) (x2 : Int32) (s : Sg) : ∀ v τ, (f_X7_find x1 x2 s) = some (v, τ) → RI l E 6 M_X7_find [.ref (ead E 0), .int x1, .int x2] s v τ := by
  refine ofI hD (by decide +kernel) (Nat.le_of_ble_eq_true rfl) (fun X C => ?_)
  show MF l E X (fun q : Int32 × Sg => QI E X q.1 q.2) (f_X7_find x1 x2 s) s 0 [(0, .ref (ead E 0)), (1, .int x1), (2, .int x2)] []
  unfold f_X7_find
  refine MF.aload_n C e_X7_find_0 0 rfl rfl ?_
  refine MF.iload_n C e_X7_find_1 1 rfl rfl ?_
  refine MF.callVP (As := [.int x1]) C (R_X7_areStreets hD x1 s) m_X7_areStreets k_X7_187 kO_0 rfl (by decide) e_X7_find_2 rfl rfl (Nat.le_of_ble_eq_true rfl) (fun v1 => ?_)
  refine MF.if_eq (tgt := 16) C e_X7_find_5 (by decide) (fun _ => ?_) (fun _ => ?_)
  · refine MF.aload_n C e_X7_find_16 0 rfl rfl ?_
    refine MF.callVI (As := []) C (R_X7_refuseBad hD s) m_X7_refuseBad k_X7_97 kO_0 rfl (by decide) e_X7_find_17 rfl rfl (Nat.le_of_ble_eq_true rfl) (fun v2 s3 => ?_)
    exact MF.iret C e_X7_find_20
  · refine MF.iload_n C e_X7_find_8 2 rfl rfl ?_
    refine MF.iconst (v := (nI 2)) C e_X7_find_9 rfl ?_
    refine MF.callSP (As := [.int x2, .int (nI 2)]) C (R_X7_isBelow hD x2 (nI 2) s) m_X7_isBelow k_X7_93 (by decide) e_X7_find_10 rfl rfl (Nat.le_of_ble_eq_true rfl) (fun v4 => ?_)
    refine MF.if_ne (tgt := 21) C e_X7_find_13 (by decide) (fun _ => ?_) (fun _ => ?_)
    · refine MF.aload_n C e_X7_find_21 0 rfl rfl ?_
      refine MF.getR (j := 61) C cf_X7 l_X7_44 e_X7_find_22 kF_0_6 ?_
      refine MF.aload_n C e_X7_find_25 0 rfl rfl ?_
      refine MF.getR (j := 1) C cf_X7 l_X7_10 e_X7_find_26 kF_0_0 ?_
      refine MF.callVU (As := [.ref (ead E 1)]) C (R_X1_write hD 1 kT_1 s) m_X1_write k_X7_164 kO_61 rfl (by decide) e_X7_find_29 rfl rfl (Nat.le_of_ble_eq_true rfl) (fun s5 => ?_)
      refine MF.iconst (v := (nI 0)) C e_X7_find_32 rfl ?_
      refine MF.istore_n (lv' := [(0, .ref (ead E 0)), (1, .int x1), (2, .int x2), (3, .int (nI 0))]) C e_X7_find_33 (by decide) rfl ?_
      refine MF.iconst (v := (nI 1)) C e_X7_find_34 rfl ?_
      refine MF.istore (lv' := [(0, .ref (ead E 0)), (1, .int x1), (2, .int x2), (3, .int (nI 0)), (4, .int (nI 1))]) C e_X7_find_35 (by decide) rfl ?_
      refine MF.join (fun j : Int32 → Option (Int32 × Sg) => ∀ (a6 : Int32), MF l E X (fun q : Int32 × Sg => QI E X q.1 q.2) (j a6) s5 75 [(0, .ref (ead E 0)), (1, .int x1), (2, .int x2), (3, .int a6)] []) ?_ (fun j7 hj7 => ?_)
      · intro a6
        refine MF.iload_n C e_X7_find_75 2 rfl rfl ?_
        refine MF.if_ne (tgt := 83) C e_X7_find_76 (by decide) (fun _ => ?_) (fun _ => ?_)
        · refine MF.aload_n C e_X7_find_83 0 rfl rfl ?_
          refine MF.getR (j := 61) C cf_X7 l_X7_44 e_X7_find_84 kF_0_6 ?_
          refine MF.iload_n C e_X7_find_87 1 rfl rfl ?_
          refine MF.iload_n C e_X7_find_88 3 rfl rfl ?_
          refine MF.callVP (As := [.int x1, .int a6]) C (R_X1_mostAlike hD x1 a6 s5) m_X1_mostAlike k_X7_190 kO_61 rfl (by decide) e_X7_find_89 rfl rfl (Nat.le_of_ble_eq_true rfl) (fun v8 => ?_)
          exact MF.iret C e_X7_find_92
        · refine MF.iload_n C e_X7_find_79 3 rfl rfl ?_
          refine MF.goto (tgt := 92) C e_X7_find_80 (by decide) ?_
          exact MF.iret C e_X7_find_92
      refine MF.loop2 (fun i9 i10 => s5) (fun i9 i10 => [(0, .ref (ead E 0)), (1, .int x1), (2, .int x2), (3, .int i9), (4, .int i10)]) (fun self11 hself11 i9 i10 => ?_) fu (nI 0) (nI 1)
      unfold b_X7_find_37
      refine MF.iload C e_X7_find_37 4 rfl ?_
      refine MF.bipush (v := (nI 24)) C e_X7_find_39 (by decide) ?_
      refine MF.icmp_ge (tgt := 75) C e_X7_find_41 (by decide) (fun _ => ?_) (fun _ => ?_)
      · refine MF.sub [0, 1, 2, 3] rfl ?_
        exact hj7 i9
      · refine MF.aload_n C e_X7_find_44 0 rfl rfl ?_
        refine MF.getR (j := 61) C cf_X7 l_X7_44 e_X7_find_45 kF_0_6 ?_
        refine MF.iload_n C e_X7_find_48 1 rfl rfl ?_
        refine MF.iload C e_X7_find_49 4 rfl ?_
        refine MF.callVP (As := [.int x1, .int i10]) C (R_X1_mostAlike hD x1 i10 s5) m_X1_mostAlike k_X7_190 kO_61 rfl (by decide) e_X7_find_51 rfl rfl (Nat.le_of_ble_eq_true rfl) (fun v12 => ?_)
        refine MF.aload_n C e_X7_find_54 0 rfl rfl ?_
        refine MF.getR (j := 61) C cf_X7 l_X7_44 e_X7_find_55 kF_0_6 ?_
        refine MF.iload_n C e_X7_find_58 1 rfl rfl ?_
        refine MF.iload_n C e_X7_find_59 3 rfl rfl ?_
        refine MF.callVP (As := [.int x1, .int i9]) C (R_X1_mostAlike hD x1 i9 s5) m_X1_mostAlike k_X7_190 kO_61 rfl (by decide) e_X7_find_60 rfl rfl (Nat.le_of_ble_eq_true rfl) (fun v13 => ?_)
        refine MF.join (fun j : Int32 → Option (Int32 × Sg) => ∀ (a14 : Int32), MF l E X (fun q : Int32 × Sg => QI E X q.1 q.2) (j a14) s5 69 [(0, .ref (ead E 0)), (1, .int x1), (2, .int x2), (3, .int a14), (4, .int i10)] []) ?_ (fun j15 hj15 => ?_)
        · intro a14
          refine MF.iinc (v := (nI 1)) (lv' := [(0, .ref (ead E 0)), (1, .int x1), (2, .int x2), (3, .int a14), (4, .int (i10 + (nI 1)))]) C e_X7_find_69 4 rfl rfl (by decide) rfl ?_
          refine MF.goto (tgt := 37) C e_X7_find_72 (by decide) ?_
          exact hself11 a14 (i10 + (nI 1))
        refine MF.icmp_ge (tgt := 69) C e_X7_find_63 (by decide) (fun _ => ?_) (fun _ => ?_)
        · exact hj15 i9
        · refine MF.iload C e_X7_find_66 4 rfl ?_
          refine MF.istore_n (lv' := [(0, .ref (ead E 0)), (1, .int x1), (2, .int x2), (3, .int i10), (4, .int i10)]) C e_X7_find_68 (by decide) rfl ?_
          exact hj15 i10
    · refine MF.aload_n C e_X7_find_16 0 rfl rfl ?_
      refine MF.callVI (As := []) C (R_X7_refuseBad hD s) m_X7_refuseBad k_X7_97 kO_0 rfl (by decide) e_X7_find_17 rfl rfl (Nat.le_of_ble_eq_true rfl) (fun v16 s17 => ?_)
      exact MF.iret C e_X7_find_20
theorem e_X7_stage_0 : Dc cX7_stage 0 (.aload_n 0) 1 1 := ⟨by decide +kernel, rfl⟩
theorem e_X7_stage_1 : Dc cX7_stage 1 (.iload_n 1) 1 2 := ⟨by decide +kernel, rfl⟩
theorem e_X7_stage_2 : Dc cX7_stage 2 (.invokevirtual 157) 3 5 := ⟨by decide +kernel, rfl⟩
theorem e_X7_stage_5 : Dc cX7_stage 5 (.ifCond .eq 25) 3 8 := ⟨by decide +kernel, rfl⟩
theorem e_X7_stage_8 : Dc cX7_stage 8 (.iload_n 2) 1 9 := ⟨by decide +kernel, rfl⟩
theorem e_X7_stage_9 : Dc cX7_stage 9 (.bipush 16) 2 11 := ⟨by decide +kernel, rfl⟩
theorem e_X7_stage_11 : Dc cX7_stage 11 (.invokestatic 93) 3 14 := ⟨by decide +kernel, rfl⟩
theorem e_X7_stage_14 : Dc cX7_stage 14 (.ifCond .eq 16) 3 17 := ⟨by decide +kernel, rfl⟩
theorem e_X7_stage_17 : Dc cX7_stage 17 (.iload_n 3) 1 18 := ⟨by decide +kernel, rfl⟩
theorem e_X7_stage_18 : Dc cX7_stage 18 (.invokestatic 161) 3 21 := ⟨by decide +kernel, rfl⟩
theorem e_X7_stage_21 : Dc cX7_stage 21 (.ifCond .eq 9) 3 24 := ⟨by decide +kernel, rfl⟩
theorem e_X7_stage_24 : Dc cX7_stage 24 (.iload 4) 2 26 := ⟨by decide +kernel, rfl⟩
theorem e_X7_stage_26 : Dc cX7_stage 26 (.iconst (-1)) 1 27 := ⟨by decide +kernel, rfl⟩
theorem e_X7_stage_27 : Dc cX7_stage 27 (.if_icmp .ge 11) 3 30 := ⟨by decide +kernel, rfl⟩
theorem e_X7_stage_30 : Dc cX7_stage 30 (.aload_n 0) 1 31 := ⟨by decide +kernel, rfl⟩
theorem e_X7_stage_31 : Dc cX7_stage 31 (.invokevirtual 97) 3 34 := ⟨by decide +kernel, rfl⟩
theorem e_X7_stage_34 : Dc cX7_stage 34 (.pop) 1 35 := ⟨by decide +kernel, rfl⟩
theorem e_X7_stage_35 : Dc cX7_stage 35 (.bipush (-10)) 2 37 := ⟨by decide +kernel, rfl⟩
theorem e_X7_stage_37 : Dc cX7_stage 37 (.ireturn) 1 38 := ⟨by decide +kernel, rfl⟩
theorem e_X7_stage_38 : Dc cX7_stage 38 (.aload_n 0) 1 39 := ⟨by decide +kernel, rfl⟩
theorem e_X7_stage_39 : Dc cX7_stage 39 (.getfield 35) 3 42 := ⟨by decide +kernel, rfl⟩
theorem e_X7_stage_42 : Dc cX7_stage 42 (.aload_n 0) 1 43 := ⟨by decide +kernel, rfl⟩
theorem e_X7_stage_43 : Dc cX7_stage 43 (.getfield 10) 3 46 := ⟨by decide +kernel, rfl⟩
theorem e_X7_stage_46 : Dc cX7_stage 46 (.invokevirtual 170) 3 49 := ⟨by decide +kernel, rfl⟩
theorem e_X7_stage_49 : Dc cX7_stage 49 (.aload_n 0) 1 50 := ⟨by decide +kernel, rfl⟩
theorem e_X7_stage_50 : Dc cX7_stage 50 (.getfield 51) 3 53 := ⟨by decide +kernel, rfl⟩
theorem e_X7_stage_53 : Dc cX7_stage 53 (.iload_n 1) 1 54 := ⟨by decide +kernel, rfl⟩
theorem e_X7_stage_54 : Dc cX7_stage 54 (.iload_n 2) 1 55 := ⟨by decide +kernel, rfl⟩
theorem e_X7_stage_55 : Dc cX7_stage 55 (.iload_n 3) 1 56 := ⟨by decide +kernel, rfl⟩
theorem e_X7_stage_56 : Dc cX7_stage 56 (.invokevirtual 193) 3 59 := ⟨by decide +kernel, rfl⟩
theorem e_X7_stage_59 : Dc cX7_stage 59 (.istore 5) 2 61 := ⟨by decide +kernel, rfl⟩
theorem e_X7_stage_61 : Dc cX7_stage 61 (.iload 5) 2 63 := ⟨by decide +kernel, rfl⟩
theorem e_X7_stage_63 : Dc cX7_stage 63 (.iconst (-1)) 1 64 := ⟨by decide +kernel, rfl⟩
theorem e_X7_stage_64 : Dc cX7_stage 64 (.if_icmp .eq 9) 3 67 := ⟨by decide +kernel, rfl⟩
theorem e_X7_stage_67 : Dc cX7_stage 67 (.iload 4) 2 69 := ⟨by decide +kernel, rfl⟩
theorem e_X7_stage_69 : Dc cX7_stage 69 (.iconst (-1)) 1 70 := ⟨by decide +kernel, rfl⟩
theorem e_X7_stage_70 : Dc cX7_stage 70 (.if_icmp .ne 6) 3 73 := ⟨by decide +kernel, rfl⟩
theorem e_X7_stage_73 : Dc cX7_stage 73 (.iload 5) 2 75 := ⟨by decide +kernel, rfl⟩
theorem e_X7_stage_75 : Dc cX7_stage 75 (.ireturn) 1 76 := ⟨by decide +kernel, rfl⟩
theorem e_X7_stage_76 : Dc cX7_stage 76 (.iload 4) 2 78 := ⟨by decide +kernel, rfl⟩
theorem e_X7_stage_78 : Dc cX7_stage 78 (.iload 5) 2 80 := ⟨by decide +kernel, rfl⟩
theorem e_X7_stage_80 : Dc cX7_stage 80 (.if_icmp .ge 15) 3 83 := ⟨by decide +kernel, rfl⟩
theorem e_X7_stage_83 : Dc cX7_stage 83 (.aload_n 0) 1 84 := ⟨by decide +kernel, rfl⟩
theorem e_X7_stage_84 : Dc cX7_stage 84 (.getfield 51) 3 87 := ⟨by decide +kernel, rfl⟩
theorem e_X7_stage_87 : Dc cX7_stage 87 (.iload 4) 2 89 := ⟨by decide +kernel, rfl⟩
theorem e_X7_stage_89 : Dc cX7_stage 89 (.invokevirtual 197) 3 92 := ⟨by decide +kernel, rfl⟩
theorem e_X7_stage_92 : Dc cX7_stage 92 (.goto 5) 3 95 := ⟨by decide +kernel, rfl⟩
theorem e_X7_stage_95 : Dc cX7_stage 95 (.bipush (-5)) 2 97 := ⟨by decide +kernel, rfl⟩
theorem e_X7_stage_97 : Dc cX7_stage 97 (.ireturn) 1 98 := ⟨by decide +kernel, rfl⟩
set_option maxHeartbeats 4000000 in
set_option maxRecDepth 20000 in
theorem R_X7_stage (hD : DD E) (x1 : Int32) (x2 : Int32) (x3 : Int32) (x4 : Int32) (s : Sg) : ∀ v τ, (f_X7_stage x1 x2 x3 x4 s) = some (v, τ) → RI l E 6 M_X7_stage [.ref (ead E 0), .int x1, .int x2, .int x3, .int x4] s v τ := by
  refine ofI hD (by decide +kernel) (Nat.le_of_ble_eq_true rfl) (fun X C => ?_)
  show MF l E X (fun q : Int32 × Sg => QI E X q.1 q.2) (f_X7_stage x1 x2 x3 x4 s) s 0 [(0, .ref (ead E 0)), (1, .int x1), (2, .int x2), (3, .int x3), (4, .int x4)] []
  unfold f_X7_stage
  refine MF.aload_n C e_X7_stage_0 0 rfl rfl ?_
  refine MF.iload_n C e_X7_stage_1 1 rfl rfl ?_
  refine MF.callVP (As := [.int x1]) C (R_X7_isStreet hD x1 s) m_X7_isStreet k_X7_157 kO_0 rfl (by decide) e_X7_stage_2 rfl rfl (Nat.le_of_ble_eq_true rfl) (fun v1 => ?_)
  refine MF.if_eq (tgt := 30) C e_X7_stage_5 (by decide) (fun _ => ?_) (fun _ => ?_)
  · refine MF.aload_n C e_X7_stage_30 0 rfl rfl ?_
    refine MF.callVI (As := []) C (R_X7_refuseBad hD s) m_X7_refuseBad k_X7_97 kO_0 rfl (by decide) e_X7_stage_31 rfl rfl (Nat.le_of_ble_eq_true rfl) (fun v2 s3 => ?_)
    refine MF.pop C e_X7_stage_34 rfl ?_
    refine MF.bipush (v := (-10 : Int32)) C e_X7_stage_35 (by decide) ?_
    exact MF.iret C e_X7_stage_37
  · refine MF.iload_n C e_X7_stage_8 2 rfl rfl ?_
    refine MF.bipush (v := (nI 16)) C e_X7_stage_9 (by decide) ?_
    refine MF.callSP (As := [.int x2, .int (nI 16)]) C (R_X7_isBelow hD x2 (nI 16) s) m_X7_isBelow k_X7_93 (by decide) e_X7_stage_11 rfl rfl (Nat.le_of_ble_eq_true rfl) (fun v4 => ?_)
    refine MF.if_eq (tgt := 30) C e_X7_stage_14 (by decide) (fun _ => ?_) (fun _ => ?_)
    · refine MF.aload_n C e_X7_stage_30 0 rfl rfl ?_
      refine MF.callVI (As := []) C (R_X7_refuseBad hD s) m_X7_refuseBad k_X7_97 kO_0 rfl (by decide) e_X7_stage_31 rfl rfl (Nat.le_of_ble_eq_true rfl) (fun v5 s6 => ?_)
      refine MF.pop C e_X7_stage_34 rfl ?_
      refine MF.bipush (v := (-10 : Int32)) C e_X7_stage_35 (by decide) ?_
      exact MF.iret C e_X7_stage_37
    · refine MF.iload_n C e_X7_stage_17 3 rfl rfl ?_
      refine MF.callSP (As := [.int x3]) C (R_X7_isHour hD x3 s) m_X7_isHour k_X7_161 (by decide) e_X7_stage_18 rfl rfl (Nat.le_of_ble_eq_true rfl) (fun v7 => ?_)
      refine MF.if_eq (tgt := 30) C e_X7_stage_21 (by decide) (fun _ => ?_) (fun _ => ?_)
      · refine MF.aload_n C e_X7_stage_30 0 rfl rfl ?_
        refine MF.callVI (As := []) C (R_X7_refuseBad hD s) m_X7_refuseBad k_X7_97 kO_0 rfl (by decide) e_X7_stage_31 rfl rfl (Nat.le_of_ble_eq_true rfl) (fun v8 s9 => ?_)
        refine MF.pop C e_X7_stage_34 rfl ?_
        refine MF.bipush (v := (-10 : Int32)) C e_X7_stage_35 (by decide) ?_
        exact MF.iret C e_X7_stage_37
      · refine MF.iload C e_X7_stage_24 4 rfl ?_
        refine MF.iconst (v := (-1 : Int32)) C e_X7_stage_26 rfl ?_
        refine MF.icmp_ge (tgt := 38) C e_X7_stage_27 (by decide) (fun _ => ?_) (fun _ => ?_)
        · refine MF.aload_n C e_X7_stage_38 0 rfl rfl ?_
          refine MF.getR (j := 52) C cf_X7 l_X7_35 e_X7_stage_39 kF_0_5 ?_
          refine MF.aload_n C e_X7_stage_42 0 rfl rfl ?_
          refine MF.getR (j := 1) C cf_X7 l_X7_10 e_X7_stage_43 kF_0_0 ?_
          refine MF.callVU (As := [.ref (ead E 1)]) C (R_X0_plan hD 1 kT_1 s) m_X0_plan k_X7_170 kO_52 rfl (by decide) e_X7_stage_46 rfl rfl (Nat.le_of_ble_eq_true rfl) (fun s10 => ?_)
          refine MF.aload_n C e_X7_stage_49 0 rfl rfl ?_
          refine MF.getR (j := 63) C cf_X7 l_X7_51 e_X7_stage_50 kF_0_7 ?_
          refine MF.iload_n C e_X7_stage_53 1 rfl rfl ?_
          refine MF.iload_n C e_X7_stage_54 2 rfl rfl ?_
          refine MF.iload_n C e_X7_stage_55 3 rfl rfl ?_
          refine MF.callVI (As := [.int x1, .int x2, .int x3]) C (R_X3_fewestStaged hD x1 x2 x3 s10) m_X3_fewestStaged k_X7_193 kO_63 rfl (by decide) e_X7_stage_56 rfl rfl (Nat.le_of_ble_eq_true rfl) (fun v11 s12 => ?_)
          refine MF.istore (lv' := [(0, .ref (ead E 0)), (1, .int x1), (2, .int x2), (3, .int x3), (4, .int x4), (5, .int v11)]) C e_X7_stage_59 (by decide) rfl ?_
          refine MF.iload C e_X7_stage_61 5 rfl ?_
          refine MF.iconst (v := (-1 : Int32)) C e_X7_stage_63 rfl ?_
          refine MF.icmp_eq (tgt := 73) C e_X7_stage_64 (by decide) (fun _ => ?_) (fun _ => ?_)
          · refine MF.iload C e_X7_stage_73 5 rfl ?_
            exact MF.iret C e_X7_stage_75
          · refine MF.iload C e_X7_stage_67 4 rfl ?_
            refine MF.iconst (v := (-1 : Int32)) C e_X7_stage_69 rfl ?_
            refine MF.icmp_ne (tgt := 76) C e_X7_stage_70 (by decide) (fun _ => ?_) (fun _ => ?_)
            · refine MF.iload C e_X7_stage_76 4 rfl ?_
              refine MF.iload C e_X7_stage_78 5 rfl ?_
              refine MF.icmp_ge (tgt := 95) C e_X7_stage_80 (by decide) (fun _ => ?_) (fun _ => ?_)
              · refine MF.bipush (v := (-5 : Int32)) C e_X7_stage_95 (by decide) ?_
                exact MF.iret C e_X7_stage_97
              · refine MF.aload_n C e_X7_stage_83 0 rfl rfl ?_
                refine MF.getR (j := 63) C cf_X7 l_X7_51 e_X7_stage_84 kF_0_7 ?_
                refine MF.iload C e_X7_stage_87 4 rfl ?_
                refine MF.callVP (As := [.int x4]) C (R_X3_hourStaged hD x4 s12) m_X3_hourStaged k_X7_197 kO_63 rfl (by decide) e_X7_stage_89 rfl rfl (Nat.le_of_ble_eq_true rfl) (fun v13 => ?_)
                refine MF.goto (tgt := 97) C e_X7_stage_92 (by decide) ?_
                exact MF.iret C e_X7_stage_97
            · refine MF.iload C e_X7_stage_73 5 rfl ?_
              exact MF.iret C e_X7_stage_75
        · refine MF.aload_n C e_X7_stage_30 0 rfl rfl ?_
          refine MF.callVI (As := []) C (R_X7_refuseBad hD s) m_X7_refuseBad k_X7_97 kO_0 rfl (by decide) e_X7_stage_31 rfl rfl (Nat.le_of_ble_eq_true rfl) (fun v14 s15 => ?_)
          refine MF.pop C e_X7_stage_34 rfl ?_
          refine MF.bipush (v := (-10 : Int32)) C e_X7_stage_35 (by decide) ?_
          exact MF.iret C e_X7_stage_37
theorem e_X7_forbid_0 : Dc cX7_forbid 0 (.aload_n 0) 1 1 := ⟨by decide +kernel, rfl⟩
theorem e_X7_forbid_1 : Dc cX7_forbid 1 (.iload_n 1) 1 2 := ⟨by decide +kernel, rfl⟩
theorem e_X7_forbid_2 : Dc cX7_forbid 2 (.invokevirtual 157) 3 5 := ⟨by decide +kernel, rfl⟩
theorem e_X7_forbid_5 : Dc cX7_forbid 5 (.ifCond .ne 8) 3 8 := ⟨by decide +kernel, rfl⟩
theorem e_X7_forbid_8 : Dc cX7_forbid 8 (.aload_n 0) 1 9 := ⟨by decide +kernel, rfl⟩
theorem e_X7_forbid_9 : Dc cX7_forbid 9 (.invokevirtual 97) 3 12 := ⟨by decide +kernel, rfl⟩
theorem e_X7_forbid_12 : Dc cX7_forbid 12 (.ireturn) 1 13 := ⟨by decide +kernel, rfl⟩
theorem e_X7_forbid_13 : Dc cX7_forbid 13 (.aload_n 0) 1 14 := ⟨by decide +kernel, rfl⟩
theorem e_X7_forbid_14 : Dc cX7_forbid 14 (.getfield 35) 3 17 := ⟨by decide +kernel, rfl⟩
theorem e_X7_forbid_17 : Dc cX7_forbid 17 (.aload_n 0) 1 18 := ⟨by decide +kernel, rfl⟩
theorem e_X7_forbid_18 : Dc cX7_forbid 18 (.getfield 10) 3 21 := ⟨by decide +kernel, rfl⟩
theorem e_X7_forbid_21 : Dc cX7_forbid 21 (.invokevirtual 170) 3 24 := ⟨by decide +kernel, rfl⟩
theorem e_X7_forbid_24 : Dc cX7_forbid 24 (.aload_n 0) 1 25 := ⟨by decide +kernel, rfl⟩
theorem e_X7_forbid_25 : Dc cX7_forbid 25 (.getfield 51) 3 28 := ⟨by decide +kernel, rfl⟩
theorem e_X7_forbid_28 : Dc cX7_forbid 28 (.iload_n 1) 1 29 := ⟨by decide +kernel, rfl⟩
theorem e_X7_forbid_29 : Dc cX7_forbid 29 (.aload_n 0) 1 30 := ⟨by decide +kernel, rfl⟩
theorem e_X7_forbid_30 : Dc cX7_forbid 30 (.getfield 10) 3 33 := ⟨by decide +kernel, rfl⟩
theorem e_X7_forbid_33 : Dc cX7_forbid 33 (.invokevirtual 200) 3 36 := ⟨by decide +kernel, rfl⟩
theorem e_X7_forbid_36 : Dc cX7_forbid 36 (.ireturn) 1 37 := ⟨by decide +kernel, rfl⟩
set_option maxHeartbeats 4000000 in
set_option maxRecDepth 20000 in
theorem R_X7_forbid (hD : DD E) (x1 : Int32) (s : Sg) : ∀ v τ, (f_X7_forbid x1 s) = some (v, τ) → RI l E 5 M_X7_forbid [.ref (ead E 0), .int x1] s v τ := by
  refine ofI hD (by decide +kernel) (Nat.le_of_ble_eq_true rfl) (fun X C => ?_)
  show MF l E X (fun q : Int32 × Sg => QI E X q.1 q.2) (f_X7_forbid x1 s) s 0 [(0, .ref (ead E 0)), (1, .int x1)] []
  unfold f_X7_forbid
  refine MF.aload_n C e_X7_forbid_0 0 rfl rfl ?_
  refine MF.iload_n C e_X7_forbid_1 1 rfl rfl ?_
  refine MF.callVP (As := [.int x1]) C (R_X7_isStreet hD x1 s) m_X7_isStreet k_X7_157 kO_0 rfl (by decide) e_X7_forbid_2 rfl rfl (Nat.le_of_ble_eq_true rfl) (fun v1 => ?_)
  refine MF.if_ne (tgt := 13) C e_X7_forbid_5 (by decide) (fun _ => ?_) (fun _ => ?_)
  · refine MF.aload_n C e_X7_forbid_13 0 rfl rfl ?_
    refine MF.getR (j := 52) C cf_X7 l_X7_35 e_X7_forbid_14 kF_0_5 ?_
    refine MF.aload_n C e_X7_forbid_17 0 rfl rfl ?_
    refine MF.getR (j := 1) C cf_X7 l_X7_10 e_X7_forbid_18 kF_0_0 ?_
    refine MF.callVU (As := [.ref (ead E 1)]) C (R_X0_plan hD 1 kT_1 s) m_X0_plan k_X7_170 kO_52 rfl (by decide) e_X7_forbid_21 rfl rfl (Nat.le_of_ble_eq_true rfl) (fun s2 => ?_)
    refine MF.aload_n C e_X7_forbid_24 0 rfl rfl ?_
    refine MF.getR (j := 63) C cf_X7 l_X7_51 e_X7_forbid_25 kF_0_7 ?_
    refine MF.iload_n C e_X7_forbid_28 1 rfl rfl ?_
    refine MF.aload_n C e_X7_forbid_29 0 rfl rfl ?_
    refine MF.getR (j := 1) C cf_X7 l_X7_10 e_X7_forbid_30 kF_0_0 ?_
    refine MF.callVI (As := [.int x1, .ref (ead E 1)]) C (R_X3_fewestForbidden hD x1 1 kT_1 s2) m_X3_fewestForbidden k_X7_200 kO_63 rfl (by decide) e_X7_forbid_33 rfl rfl (Nat.le_of_ble_eq_true rfl) (fun v3 s4 => ?_)
    exact MF.iret C e_X7_forbid_36
  · refine MF.aload_n C e_X7_forbid_8 0 rfl rfl ?_
    refine MF.callVI (As := []) C (R_X7_refuseBad hD s) m_X7_refuseBad k_X7_97 kO_0 rfl (by decide) e_X7_forbid_9 rfl rfl (Nat.le_of_ble_eq_true rfl) (fun v5 s6 => ?_)
    exact MF.iret C e_X7_forbid_12
theorem e_X7_rents_0 : Dc cX7_rents 0 (.aload_n 0) 1 1 := ⟨by decide +kernel, rfl⟩
theorem e_X7_rents_1 : Dc cX7_rents 1 (.iload_n 1) 1 2 := ⟨by decide +kernel, rfl⟩
theorem e_X7_rents_2 : Dc cX7_rents 2 (.invokevirtual 157) 3 5 := ⟨by decide +kernel, rfl⟩
theorem e_X7_rents_5 : Dc cX7_rents 5 (.ifCond .ne 8) 3 8 := ⟨by decide +kernel, rfl⟩
theorem e_X7_rents_8 : Dc cX7_rents 8 (.aload_n 0) 1 9 := ⟨by decide +kernel, rfl⟩
theorem e_X7_rents_9 : Dc cX7_rents 9 (.invokevirtual 97) 3 12 := ⟨by decide +kernel, rfl⟩
theorem e_X7_rents_12 : Dc cX7_rents 12 (.ireturn) 1 13 := ⟨by decide +kernel, rfl⟩
theorem e_X7_rents_13 : Dc cX7_rents 13 (.aload_n 0) 1 14 := ⟨by decide +kernel, rfl⟩
theorem e_X7_rents_14 : Dc cX7_rents 14 (.getfield 35) 3 17 := ⟨by decide +kernel, rfl⟩
theorem e_X7_rents_17 : Dc cX7_rents 17 (.aload_n 0) 1 18 := ⟨by decide +kernel, rfl⟩
theorem e_X7_rents_18 : Dc cX7_rents 18 (.getfield 10) 3 21 := ⟨by decide +kernel, rfl⟩
theorem e_X7_rents_21 : Dc cX7_rents 21 (.invokevirtual 170) 3 24 := ⟨by decide +kernel, rfl⟩
theorem e_X7_rents_24 : Dc cX7_rents 24 (.aload_n 0) 1 25 := ⟨by decide +kernel, rfl⟩
theorem e_X7_rents_25 : Dc cX7_rents 25 (.getfield 35) 3 28 := ⟨by decide +kernel, rfl⟩
theorem e_X7_rents_28 : Dc cX7_rents 28 (.iload_n 1) 1 29 := ⟨by decide +kernel, rfl⟩
theorem e_X7_rents_29 : Dc cX7_rents 29 (.aload_n 0) 1 30 := ⟨by decide +kernel, rfl⟩
theorem e_X7_rents_30 : Dc cX7_rents 30 (.getfield 10) 3 33 := ⟨by decide +kernel, rfl⟩
theorem e_X7_rents_33 : Dc cX7_rents 33 (.invokevirtual 204) 3 36 := ⟨by decide +kernel, rfl⟩
theorem e_X7_rents_36 : Dc cX7_rents 36 (.ireturn) 1 37 := ⟨by decide +kernel, rfl⟩
set_option maxHeartbeats 4000000 in
set_option maxRecDepth 20000 in
theorem R_X7_rents (hD : DD E) (x1 : Int32) (s : Sg) : ∀ v τ, (f_X7_rents x1 s) = some (v, τ) → RI l E 5 M_X7_rents [.ref (ead E 0), .int x1] s v τ := by
  refine ofI hD (by decide +kernel) (Nat.le_of_ble_eq_true rfl) (fun X C => ?_)
  show MF l E X (fun q : Int32 × Sg => QI E X q.1 q.2) (f_X7_rents x1 s) s 0 [(0, .ref (ead E 0)), (1, .int x1)] []
  unfold f_X7_rents
  refine MF.aload_n C e_X7_rents_0 0 rfl rfl ?_
  refine MF.iload_n C e_X7_rents_1 1 rfl rfl ?_
  refine MF.callVP (As := [.int x1]) C (R_X7_isStreet hD x1 s) m_X7_isStreet k_X7_157 kO_0 rfl (by decide) e_X7_rents_2 rfl rfl (Nat.le_of_ble_eq_true rfl) (fun v1 => ?_)
  refine MF.if_ne (tgt := 13) C e_X7_rents_5 (by decide) (fun _ => ?_) (fun _ => ?_)
  · refine MF.aload_n C e_X7_rents_13 0 rfl rfl ?_
    refine MF.getR (j := 52) C cf_X7 l_X7_35 e_X7_rents_14 kF_0_5 ?_
    refine MF.aload_n C e_X7_rents_17 0 rfl rfl ?_
    refine MF.getR (j := 1) C cf_X7 l_X7_10 e_X7_rents_18 kF_0_0 ?_
    refine MF.callVU (As := [.ref (ead E 1)]) C (R_X0_plan hD 1 kT_1 s) m_X0_plan k_X7_170 kO_52 rfl (by decide) e_X7_rents_21 rfl rfl (Nat.le_of_ble_eq_true rfl) (fun s2 => ?_)
    refine MF.aload_n C e_X7_rents_24 0 rfl rfl ?_
    refine MF.getR (j := 52) C cf_X7 l_X7_35 e_X7_rents_25 kF_0_5 ?_
    refine MF.iload_n C e_X7_rents_28 1 rfl rfl ?_
    refine MF.aload_n C e_X7_rents_29 0 rfl rfl ?_
    refine MF.getR (j := 1) C cf_X7 l_X7_10 e_X7_rents_30 kF_0_0 ?_
    refine MF.callVI (As := [.int x1, .ref (ead E 1)]) C (R_X0_rentOf hD x1 1 kT_1 s2) m_X0_rentOf k_X7_204 kO_52 rfl (by decide) e_X7_rents_33 rfl rfl (Nat.le_of_ble_eq_true rfl) (fun v3 s4 => ?_)
    exact MF.iret C e_X7_rents_36
  · refine MF.aload_n C e_X7_rents_8 0 rfl rfl ?_
    refine MF.callVI (As := []) C (R_X7_refuseBad hD s) m_X7_refuseBad k_X7_97 kO_0 rfl (by decide) e_X7_rents_9 rfl rfl (Nat.le_of_ble_eq_true rfl) (fun v5 s6 => ?_)
    exact MF.iret C e_X7_rents_12
theorem e_X7_landlords_0 : Dc cX7_landlords 0 (.aload_n 0) 1 1 := ⟨by decide +kernel, rfl⟩
theorem e_X7_landlords_1 : Dc cX7_landlords 1 (.iload_n 1) 1 2 := ⟨by decide +kernel, rfl⟩
theorem e_X7_landlords_2 : Dc cX7_landlords 2 (.invokevirtual 157) 3 5 := ⟨by decide +kernel, rfl⟩
theorem e_X7_landlords_5 : Dc cX7_landlords 5 (.ifCond .eq 33) 3 8 := ⟨by decide +kernel, rfl⟩
theorem e_X7_landlords_8 : Dc cX7_landlords 8 (.aload_n 0) 1 9 := ⟨by decide +kernel, rfl⟩
theorem e_X7_landlords_9 : Dc cX7_landlords 9 (.iload_n 2) 1 10 := ⟨by decide +kernel, rfl⟩
theorem e_X7_landlords_10 : Dc cX7_landlords 10 (.invokevirtual 157) 3 13 := ⟨by decide +kernel, rfl⟩
theorem e_X7_landlords_13 : Dc cX7_landlords 13 (.ifCond .eq 25) 3 16 := ⟨by decide +kernel, rfl⟩
theorem e_X7_landlords_16 : Dc cX7_landlords 16 (.iload_n 1) 1 17 := ⟨by decide +kernel, rfl⟩
theorem e_X7_landlords_17 : Dc cX7_landlords 17 (.iload_n 2) 1 18 := ⟨by decide +kernel, rfl⟩
theorem e_X7_landlords_18 : Dc cX7_landlords 18 (.if_icmp .eq 20) 3 21 := ⟨by decide +kernel, rfl⟩
theorem e_X7_landlords_21 : Dc cX7_landlords 21 (.iload_n 3) 1 22 := ⟨by decide +kernel, rfl⟩
theorem e_X7_landlords_22 : Dc cX7_landlords 22 (.invokestatic 161) 3 25 := ⟨by decide +kernel, rfl⟩
theorem e_X7_landlords_25 : Dc cX7_landlords 25 (.ifCond .eq 13) 3 28 := ⟨by decide +kernel, rfl⟩
theorem e_X7_landlords_28 : Dc cX7_landlords 28 (.iload 4) 2 30 := ⟨by decide +kernel, rfl⟩
theorem e_X7_landlords_30 : Dc cX7_landlords 30 (.bipush 100) 2 32 := ⟨by decide +kernel, rfl⟩
theorem e_X7_landlords_32 : Dc cX7_landlords 32 (.invokestatic 93) 3 35 := ⟨by decide +kernel, rfl⟩
theorem e_X7_landlords_35 : Dc cX7_landlords 35 (.ifCond .ne 8) 3 38 := ⟨by decide +kernel, rfl⟩
theorem e_X7_landlords_38 : Dc cX7_landlords 38 (.aload_n 0) 1 39 := ⟨by decide +kernel, rfl⟩
theorem e_X7_landlords_39 : Dc cX7_landlords 39 (.invokevirtual 97) 3 42 := ⟨by decide +kernel, rfl⟩
theorem e_X7_landlords_42 : Dc cX7_landlords 42 (.ireturn) 1 43 := ⟨by decide +kernel, rfl⟩
theorem e_X7_landlords_43 : Dc cX7_landlords 43 (.aload_n 0) 1 44 := ⟨by decide +kernel, rfl⟩
theorem e_X7_landlords_44 : Dc cX7_landlords 44 (.getfield 51) 3 47 := ⟨by decide +kernel, rfl⟩
theorem e_X7_landlords_47 : Dc cX7_landlords 47 (.iload_n 1) 1 48 := ⟨by decide +kernel, rfl⟩
theorem e_X7_landlords_48 : Dc cX7_landlords 48 (.iload_n 2) 1 49 := ⟨by decide +kernel, rfl⟩
theorem e_X7_landlords_49 : Dc cX7_landlords 49 (.iload_n 3) 1 50 := ⟨by decide +kernel, rfl⟩
theorem e_X7_landlords_50 : Dc cX7_landlords 50 (.iload 4) 2 52 := ⟨by decide +kernel, rfl⟩
theorem e_X7_landlords_52 : Dc cX7_landlords 52 (.aload_n 0) 1 53 := ⟨by decide +kernel, rfl⟩
theorem e_X7_landlords_53 : Dc cX7_landlords 53 (.getfield 10) 3 56 := ⟨by decide +kernel, rfl⟩
theorem e_X7_landlords_56 : Dc cX7_landlords 56 (.invokevirtual 207) 3 59 := ⟨by decide +kernel, rfl⟩
theorem e_X7_landlords_59 : Dc cX7_landlords 59 (.aload_n 0) 1 60 := ⟨by decide +kernel, rfl⟩
theorem e_X7_landlords_60 : Dc cX7_landlords 60 (.getfield 51) 3 63 := ⟨by decide +kernel, rfl⟩
theorem e_X7_landlords_63 : Dc cX7_landlords 63 (.invokevirtual 211) 3 66 := ⟨by decide +kernel, rfl⟩
theorem e_X7_landlords_66 : Dc cX7_landlords 66 (.ireturn) 1 67 := ⟨by decide +kernel, rfl⟩
set_option maxHeartbeats 4000000 in
set_option maxRecDepth 20000 in
theorem R_X7_landlords (hD : DD E) (x1 : Int32) (x2 : Int32) (x3 : Int32) (x4 : Int32) (s : Sg) : ∀ v τ, (f_X7_landlords x1 x2 x3 x4 s) = some (v, τ) → RI l E 6 M_X7_landlords [.ref (ead E 0), .int x1, .int x2, .int x3, .int x4] s v τ := by
  refine ofI hD (by decide +kernel) (Nat.le_of_ble_eq_true rfl) (fun X C => ?_)
  show MF l E X (fun q : Int32 × Sg => QI E X q.1 q.2) (f_X7_landlords x1 x2 x3 x4 s) s 0 [(0, .ref (ead E 0)), (1, .int x1), (2, .int x2), (3, .int x3), (4, .int x4)] []
  unfold f_X7_landlords
  refine MF.aload_n C e_X7_landlords_0 0 rfl rfl ?_
  refine MF.iload_n C e_X7_landlords_1 1 rfl rfl ?_
  refine MF.callVP (As := [.int x1]) C (R_X7_isStreet hD x1 s) m_X7_isStreet k_X7_157 kO_0 rfl (by decide) e_X7_landlords_2 rfl rfl (Nat.le_of_ble_eq_true rfl) (fun v1 => ?_)
  refine MF.if_eq (tgt := 38) C e_X7_landlords_5 (by decide) (fun _ => ?_) (fun _ => ?_)
  · refine MF.aload_n C e_X7_landlords_38 0 rfl rfl ?_
    refine MF.callVI (As := []) C (R_X7_refuseBad hD s) m_X7_refuseBad k_X7_97 kO_0 rfl (by decide) e_X7_landlords_39 rfl rfl (Nat.le_of_ble_eq_true rfl) (fun v2 s3 => ?_)
    exact MF.iret C e_X7_landlords_42
  · refine MF.aload_n C e_X7_landlords_8 0 rfl rfl ?_
    refine MF.iload_n C e_X7_landlords_9 2 rfl rfl ?_
    refine MF.callVP (As := [.int x2]) C (R_X7_isStreet hD x2 s) m_X7_isStreet k_X7_157 kO_0 rfl (by decide) e_X7_landlords_10 rfl rfl (Nat.le_of_ble_eq_true rfl) (fun v4 => ?_)
    refine MF.if_eq (tgt := 38) C e_X7_landlords_13 (by decide) (fun _ => ?_) (fun _ => ?_)
    · refine MF.aload_n C e_X7_landlords_38 0 rfl rfl ?_
      refine MF.callVI (As := []) C (R_X7_refuseBad hD s) m_X7_refuseBad k_X7_97 kO_0 rfl (by decide) e_X7_landlords_39 rfl rfl (Nat.le_of_ble_eq_true rfl) (fun v5 s6 => ?_)
      exact MF.iret C e_X7_landlords_42
    · refine MF.iload_n C e_X7_landlords_16 1 rfl rfl ?_
      refine MF.iload_n C e_X7_landlords_17 2 rfl rfl ?_
      refine MF.icmp_eq (tgt := 38) C e_X7_landlords_18 (by decide) (fun _ => ?_) (fun _ => ?_)
      · refine MF.aload_n C e_X7_landlords_38 0 rfl rfl ?_
        refine MF.callVI (As := []) C (R_X7_refuseBad hD s) m_X7_refuseBad k_X7_97 kO_0 rfl (by decide) e_X7_landlords_39 rfl rfl (Nat.le_of_ble_eq_true rfl) (fun v7 s8 => ?_)
        exact MF.iret C e_X7_landlords_42
      · refine MF.iload_n C e_X7_landlords_21 3 rfl rfl ?_
        refine MF.callSP (As := [.int x3]) C (R_X7_isHour hD x3 s) m_X7_isHour k_X7_161 (by decide) e_X7_landlords_22 rfl rfl (Nat.le_of_ble_eq_true rfl) (fun v9 => ?_)
        refine MF.if_eq (tgt := 38) C e_X7_landlords_25 (by decide) (fun _ => ?_) (fun _ => ?_)
        · refine MF.aload_n C e_X7_landlords_38 0 rfl rfl ?_
          refine MF.callVI (As := []) C (R_X7_refuseBad hD s) m_X7_refuseBad k_X7_97 kO_0 rfl (by decide) e_X7_landlords_39 rfl rfl (Nat.le_of_ble_eq_true rfl) (fun v10 s11 => ?_)
          exact MF.iret C e_X7_landlords_42
        · refine MF.iload C e_X7_landlords_28 4 rfl ?_
          refine MF.bipush (v := (nI 100)) C e_X7_landlords_30 (by decide) ?_
          refine MF.callSP (As := [.int x4, .int (nI 100)]) C (R_X7_isBelow hD x4 (nI 100) s) m_X7_isBelow k_X7_93 (by decide) e_X7_landlords_32 rfl rfl (Nat.le_of_ble_eq_true rfl) (fun v12 => ?_)
          refine MF.if_ne (tgt := 43) C e_X7_landlords_35 (by decide) (fun _ => ?_) (fun _ => ?_)
          · refine MF.aload_n C e_X7_landlords_43 0 rfl rfl ?_
            refine MF.getR (j := 63) C cf_X7 l_X7_51 e_X7_landlords_44 kF_0_7 ?_
            refine MF.iload_n C e_X7_landlords_47 1 rfl rfl ?_
            refine MF.iload_n C e_X7_landlords_48 2 rfl rfl ?_
            refine MF.iload_n C e_X7_landlords_49 3 rfl rfl ?_
            refine MF.iload C e_X7_landlords_50 4 rfl ?_
            refine MF.aload_n C e_X7_landlords_52 0 rfl rfl ?_
            refine MF.getR (j := 1) C cf_X7 l_X7_10 e_X7_landlords_53 kF_0_0 ?_
            refine MF.callVU (As := [.int x1, .int x2, .int x3, .int x4, .ref (ead E 1)]) C (R_X3_weighPairs hD x1 x2 x3 x4 1 kT_1 s) m_X3_weighPairs k_X7_207 kO_63 rfl (by decide) e_X7_landlords_56 rfl rfl (Nat.le_of_ble_eq_true rfl) (fun s13 => ?_)
            refine MF.aload_n C e_X7_landlords_59 0 rfl rfl ?_
            refine MF.getR (j := 63) C cf_X7 l_X7_51 e_X7_landlords_60 kF_0_7 ?_
            refine MF.callVP (As := []) C (R_X3_pairsThatRest hD s13) m_X3_pairsThatRest k_X7_211 kO_63 rfl (by decide) e_X7_landlords_63 rfl rfl (Nat.le_of_ble_eq_true rfl) (fun v14 => ?_)
            exact MF.iret C e_X7_landlords_66
          · refine MF.aload_n C e_X7_landlords_38 0 rfl rfl ?_
            refine MF.callVI (As := []) C (R_X7_refuseBad hD s) m_X7_refuseBad k_X7_97 kO_0 rfl (by decide) e_X7_landlords_39 rfl rfl (Nat.le_of_ble_eq_true rfl) (fun v15 s16 => ?_)
            exact MF.iret C e_X7_landlords_42
theorem e_X7_round_0 : Dc cX7_round 0 (.iload_n 1) 1 1 := ⟨by decide +kernel, rfl⟩
theorem e_X7_round_1 : Dc cX7_round 1 (.bipush 8) 2 3 := ⟨by decide +kernel, rfl⟩
theorem e_X7_round_3 : Dc cX7_round 3 (.invokestatic 93) 3 6 := ⟨by decide +kernel, rfl⟩
theorem e_X7_round_6 : Dc cX7_round 6 (.ifCond .eq 11) 3 9 := ⟨by decide +kernel, rfl⟩
theorem e_X7_round_9 : Dc cX7_round 9 (.aload_n 0) 1 10 := ⟨by decide +kernel, rfl⟩
theorem e_X7_round_10 : Dc cX7_round 10 (.iload_n 2) 1 11 := ⟨by decide +kernel, rfl⟩
theorem e_X7_round_11 : Dc cX7_round 11 (.invokevirtual 187) 3 14 := ⟨by decide +kernel, rfl⟩
theorem e_X7_round_14 : Dc cX7_round 14 (.ifCond .ne 8) 3 17 := ⟨by decide +kernel, rfl⟩
theorem e_X7_round_17 : Dc cX7_round 17 (.aload_n 0) 1 18 := ⟨by decide +kernel, rfl⟩
theorem e_X7_round_18 : Dc cX7_round 18 (.invokevirtual 97) 3 21 := ⟨by decide +kernel, rfl⟩
theorem e_X7_round_21 : Dc cX7_round 21 (.ireturn) 1 22 := ⟨by decide +kernel, rfl⟩
theorem e_X7_round_22 : Dc cX7_round 22 (.aload_n 0) 1 23 := ⟨by decide +kernel, rfl⟩
theorem e_X7_round_23 : Dc cX7_round 23 (.getfield 58) 3 26 := ⟨by decide +kernel, rfl⟩
theorem e_X7_round_26 : Dc cX7_round 26 (.aload_n 0) 1 27 := ⟨by decide +kernel, rfl⟩
theorem e_X7_round_27 : Dc cX7_round 27 (.getfield 10) 3 30 := ⟨by decide +kernel, rfl⟩
theorem e_X7_round_30 : Dc cX7_round 30 (.getfield 214) 3 33 := ⟨by decide +kernel, rfl⟩
theorem e_X7_round_33 : Dc cX7_round 33 (.iload_n 1) 1 34 := ⟨by decide +kernel, rfl⟩
theorem e_X7_round_34 : Dc cX7_round 34 (.iload_n 2) 1 35 := ⟨by decide +kernel, rfl⟩
theorem e_X7_round_35 : Dc cX7_round 35 (.invokevirtual 217) 3 38 := ⟨by decide +kernel, rfl⟩
theorem e_X7_round_38 : Dc cX7_round 38 (.ireturn) 1 39 := ⟨by decide +kernel, rfl⟩
set_option maxHeartbeats 4000000 in
set_option maxRecDepth 20000 in
theorem R_X7_round (hD : DD E) (x1 : Int32) (x2 : Int32) (s : Sg) : ∀ v τ, (f_X7_round x1 x2 s) = some (v, τ) → RI l E 4 M_X7_round [.ref (ead E 0), .int x1, .int x2] s v τ := by
  refine ofI hD (by decide +kernel) (Nat.le_of_ble_eq_true rfl) (fun X C => ?_)
  show MF l E X (fun q : Int32 × Sg => QI E X q.1 q.2) (f_X7_round x1 x2 s) s 0 [(0, .ref (ead E 0)), (1, .int x1), (2, .int x2)] []
  unfold f_X7_round
  refine MF.iload_n C e_X7_round_0 1 rfl rfl ?_
  refine MF.bipush (v := (nI 8)) C e_X7_round_1 (by decide) ?_
  refine MF.callSP (As := [.int x1, .int (nI 8)]) C (R_X7_isBelow hD x1 (nI 8) s) m_X7_isBelow k_X7_93 (by decide) e_X7_round_3 rfl rfl (Nat.le_of_ble_eq_true rfl) (fun v1 => ?_)
  refine MF.if_eq (tgt := 17) C e_X7_round_6 (by decide) (fun _ => ?_) (fun _ => ?_)
  · refine MF.aload_n C e_X7_round_17 0 rfl rfl ?_
    refine MF.callVI (As := []) C (R_X7_refuseBad hD s) m_X7_refuseBad k_X7_97 kO_0 rfl (by decide) e_X7_round_18 rfl rfl (Nat.le_of_ble_eq_true rfl) (fun v2 s3 => ?_)
    exact MF.iret C e_X7_round_21
  · refine MF.aload_n C e_X7_round_9 0 rfl rfl ?_
    refine MF.iload_n C e_X7_round_10 2 rfl rfl ?_
    refine MF.callVP (As := [.int x2]) C (R_X7_areStreets hD x2 s) m_X7_areStreets k_X7_187 kO_0 rfl (by decide) e_X7_round_11 rfl rfl (Nat.le_of_ble_eq_true rfl) (fun v4 => ?_)
    refine MF.if_ne (tgt := 22) C e_X7_round_14 (by decide) (fun _ => ?_) (fun _ => ?_)
    · refine MF.aload_n C e_X7_round_22 0 rfl rfl ?_
      refine MF.getR (j := 66) C cf_X7 l_X7_58 e_X7_round_23 kF_0_8 ?_
      refine MF.aload_n C e_X7_round_26 0 rfl rfl ?_
      refine MF.getR (j := 1) C cf_X7 l_X7_10 e_X7_round_27 kF_0_0 ?_
      refine MF.getRN (j := 2) C cf_X5 l_X7_214 e_X7_round_30 (iTo.f0 kT_1) ?_
      refine MF.iload_n C e_X7_round_33 1 rfl rfl ?_
      refine MF.iload_n C e_X7_round_34 2 rfl rfl ?_
      refine MF.callVI (As := [.ref (ead E 2), .int x1, .int x2]) C (R_X6_shortest hD 2 x1 x2 kR_2 s) m_X6_shortest k_X7_217 kO_66 rfl (by decide) e_X7_round_35 rfl rfl (Nat.le_of_ble_eq_true rfl) (fun v5 s6 => ?_)
      exact MF.iret C e_X7_round_38
    · refine MF.aload_n C e_X7_round_17 0 rfl rfl ?_
      refine MF.callVI (As := []) C (R_X7_refuseBad hD s) m_X7_refuseBad k_X7_97 kO_0 rfl (by decide) e_X7_round_18 rfl rfl (Nat.le_of_ble_eq_true rfl) (fun v7 s8 => ?_)
      exact MF.iret C e_X7_round_21
theorem e_X7_reading_0 : Dc cX7_reading 0 (.aload_n 0) 1 1 := ⟨by decide +kernel, rfl⟩
theorem e_X7_reading_1 : Dc cX7_reading 1 (.iload_n 1) 1 2 := ⟨by decide +kernel, rfl⟩
theorem e_X7_reading_2 : Dc cX7_reading 2 (.invokevirtual 157) 3 5 := ⟨by decide +kernel, rfl⟩
theorem e_X7_reading_5 : Dc cX7_reading 5 (.ifCond .eq 19) 3 8 := ⟨by decide +kernel, rfl⟩
theorem e_X7_reading_8 : Dc cX7_reading 8 (.iload_n 2) 1 9 := ⟨by decide +kernel, rfl⟩
theorem e_X7_reading_9 : Dc cX7_reading 9 (.invokestatic 161) 3 12 := ⟨by decide +kernel, rfl⟩
theorem e_X7_reading_12 : Dc cX7_reading 12 (.ifCond .eq 12) 3 15 := ⟨by decide +kernel, rfl⟩
theorem e_X7_reading_15 : Dc cX7_reading 15 (.iload_n 3) 1 16 := ⟨by decide +kernel, rfl⟩
theorem e_X7_reading_16 : Dc cX7_reading 16 (.bipush 16) 2 18 := ⟨by decide +kernel, rfl⟩
theorem e_X7_reading_18 : Dc cX7_reading 18 (.invokestatic 93) 3 21 := ⟨by decide +kernel, rfl⟩
theorem e_X7_reading_21 : Dc cX7_reading 21 (.ifCond .ne 8) 3 24 := ⟨by decide +kernel, rfl⟩
theorem e_X7_reading_24 : Dc cX7_reading 24 (.aload_n 0) 1 25 := ⟨by decide +kernel, rfl⟩
theorem e_X7_reading_25 : Dc cX7_reading 25 (.invokevirtual 97) 3 28 := ⟨by decide +kernel, rfl⟩
theorem e_X7_reading_28 : Dc cX7_reading 28 (.ireturn) 1 29 := ⟨by decide +kernel, rfl⟩
theorem e_X7_reading_29 : Dc cX7_reading 29 (.aload_n 0) 1 30 := ⟨by decide +kernel, rfl⟩
theorem e_X7_reading_30 : Dc cX7_reading 30 (.getfield 10) 3 33 := ⟨by decide +kernel, rfl⟩
theorem e_X7_reading_33 : Dc cX7_reading 33 (.getfield 221) 3 36 := ⟨by decide +kernel, rfl⟩
theorem e_X7_reading_36 : Dc cX7_reading 36 (.invokevirtual 224) 3 39 := ⟨by decide +kernel, rfl⟩
theorem e_X7_reading_39 : Dc cX7_reading 39 (.ifCond .eq 8) 3 42 := ⟨by decide +kernel, rfl⟩
theorem e_X7_reading_42 : Dc cX7_reading 42 (.aload_n 0) 1 43 := ⟨by decide +kernel, rfl⟩
theorem e_X7_reading_43 : Dc cX7_reading 43 (.invokevirtual 123) 3 46 := ⟨by decide +kernel, rfl⟩
theorem e_X7_reading_46 : Dc cX7_reading 46 (.ireturn) 1 47 := ⟨by decide +kernel, rfl⟩
theorem e_X7_reading_47 : Dc cX7_reading 47 (.aload_n 0) 1 48 := ⟨by decide +kernel, rfl⟩
theorem e_X7_reading_48 : Dc cX7_reading 48 (.getfield 62) 3 51 := ⟨by decide +kernel, rfl⟩
theorem e_X7_reading_51 : Dc cX7_reading 51 (.iconst 0) 1 52 := ⟨by decide +kernel, rfl⟩
theorem e_X7_reading_52 : Dc cX7_reading 52 (.iload_n 1) 1 53 := ⟨by decide +kernel, rfl⟩
theorem e_X7_reading_53 : Dc cX7_reading 53 (.iastore) 1 54 := ⟨by decide +kernel, rfl⟩
theorem e_X7_reading_54 : Dc cX7_reading 54 (.aload_n 0) 1 55 := ⟨by decide +kernel, rfl⟩
theorem e_X7_reading_55 : Dc cX7_reading 55 (.getfield 62) 3 58 := ⟨by decide +kernel, rfl⟩
theorem e_X7_reading_58 : Dc cX7_reading 58 (.iconst 1) 1 59 := ⟨by decide +kernel, rfl⟩
theorem e_X7_reading_59 : Dc cX7_reading 59 (.iload_n 2) 1 60 := ⟨by decide +kernel, rfl⟩
theorem e_X7_reading_60 : Dc cX7_reading 60 (.iastore) 1 61 := ⟨by decide +kernel, rfl⟩
theorem e_X7_reading_61 : Dc cX7_reading 61 (.aload_n 0) 1 62 := ⟨by decide +kernel, rfl⟩
theorem e_X7_reading_62 : Dc cX7_reading 62 (.getfield 62) 3 65 := ⟨by decide +kernel, rfl⟩
theorem e_X7_reading_65 : Dc cX7_reading 65 (.iconst 2) 1 66 := ⟨by decide +kernel, rfl⟩
theorem e_X7_reading_66 : Dc cX7_reading 66 (.iload_n 3) 1 67 := ⟨by decide +kernel, rfl⟩
theorem e_X7_reading_67 : Dc cX7_reading 67 (.iastore) 1 68 := ⟨by decide +kernel, rfl⟩
theorem e_X7_reading_68 : Dc cX7_reading 68 (.aload_n 0) 1 69 := ⟨by decide +kernel, rfl⟩
theorem e_X7_reading_69 : Dc cX7_reading 69 (.getfield 10) 3 72 := ⟨by decide +kernel, rfl⟩
theorem e_X7_reading_72 : Dc cX7_reading 72 (.getfield 221) 3 75 := ⟨by decide +kernel, rfl⟩
theorem e_X7_reading_75 : Dc cX7_reading 75 (.aload_n 0) 1 76 := ⟨by decide +kernel, rfl⟩
theorem e_X7_reading_76 : Dc cX7_reading 76 (.getfield 62) 3 79 := ⟨by decide +kernel, rfl⟩
theorem e_X7_reading_79 : Dc cX7_reading 79 (.invokevirtual 225) 3 82 := ⟨by decide +kernel, rfl⟩
theorem e_X7_reading_82 : Dc cX7_reading 82 (.aload_n 0) 1 83 := ⟨by decide +kernel, rfl⟩
theorem e_X7_reading_83 : Dc cX7_reading 83 (.getfield 10) 3 86 := ⟨by decide +kernel, rfl⟩
theorem e_X7_reading_86 : Dc cX7_reading 86 (.getfield 221) 3 89 := ⟨by decide +kernel, rfl⟩
theorem e_X7_reading_89 : Dc cX7_reading 89 (.invokevirtual 87) 3 92 := ⟨by decide +kernel, rfl⟩
theorem e_X7_reading_92 : Dc cX7_reading 92 (.iconst 1) 1 93 := ⟨by decide +kernel, rfl⟩
theorem e_X7_reading_93 : Dc cX7_reading 93 (.isub) 1 94 := ⟨by decide +kernel, rfl⟩
theorem e_X7_reading_94 : Dc cX7_reading 94 (.ireturn) 1 95 := ⟨by decide +kernel, rfl⟩
set_option maxHeartbeats 4000000 in
set_option maxRecDepth 20000 in
theorem R_X7_reading (hD : DD E) (x1 : Int32) (x2 : Int32) (x3 : Int32) (s : Sg) : ∀ v τ, (f_X7_reading x1 x2 x3 s) = some (v, τ) → RI l E 3 M_X7_reading [.ref (ead E 0), .int x1, .int x2, .int x3] s v τ := by
  refine ofI hD (by decide +kernel) (Nat.le_of_ble_eq_true rfl) (fun X C => ?_)
  show MF l E X (fun q : Int32 × Sg => QI E X q.1 q.2) (f_X7_reading x1 x2 x3 s) s 0 [(0, .ref (ead E 0)), (1, .int x1), (2, .int x2), (3, .int x3)] []
  unfold f_X7_reading
  refine MF.aload_n C e_X7_reading_0 0 rfl rfl ?_
  refine MF.iload_n C e_X7_reading_1 1 rfl rfl ?_
  refine MF.callVP (As := [.int x1]) C (R_X7_isStreet hD x1 s) m_X7_isStreet k_X7_157 kO_0 rfl (by decide) e_X7_reading_2 rfl rfl (Nat.le_of_ble_eq_true rfl) (fun v1 => ?_)
  refine MF.if_eq (tgt := 24) C e_X7_reading_5 (by decide) (fun _ => ?_) (fun _ => ?_)
  · refine MF.aload_n C e_X7_reading_24 0 rfl rfl ?_
    refine MF.callVI (As := []) C (R_X7_refuseBad hD s) m_X7_refuseBad k_X7_97 kO_0 rfl (by decide) e_X7_reading_25 rfl rfl (Nat.le_of_ble_eq_true rfl) (fun v2 s3 => ?_)
    exact MF.iret C e_X7_reading_28
  · refine MF.iload_n C e_X7_reading_8 2 rfl rfl ?_
    refine MF.callSP (As := [.int x2]) C (R_X7_isHour hD x2 s) m_X7_isHour k_X7_161 (by decide) e_X7_reading_9 rfl rfl (Nat.le_of_ble_eq_true rfl) (fun v4 => ?_)
    refine MF.if_eq (tgt := 24) C e_X7_reading_12 (by decide) (fun _ => ?_) (fun _ => ?_)
    · refine MF.aload_n C e_X7_reading_24 0 rfl rfl ?_
      refine MF.callVI (As := []) C (R_X7_refuseBad hD s) m_X7_refuseBad k_X7_97 kO_0 rfl (by decide) e_X7_reading_25 rfl rfl (Nat.le_of_ble_eq_true rfl) (fun v5 s6 => ?_)
      exact MF.iret C e_X7_reading_28
    · refine MF.iload_n C e_X7_reading_15 3 rfl rfl ?_
      refine MF.bipush (v := (nI 16)) C e_X7_reading_16 (by decide) ?_
      refine MF.callSP (As := [.int x3, .int (nI 16)]) C (R_X7_isBelow hD x3 (nI 16) s) m_X7_isBelow k_X7_93 (by decide) e_X7_reading_18 rfl rfl (Nat.le_of_ble_eq_true rfl) (fun v7 => ?_)
      refine MF.if_ne (tgt := 29) C e_X7_reading_21 (by decide) (fun _ => ?_) (fun _ => ?_)
      · refine MF.aload_n C e_X7_reading_29 0 rfl rfl ?_
        refine MF.getR (j := 1) C cf_X7 l_X7_10 e_X7_reading_30 kF_0_0 ?_
        refine MF.getRN (j := 6) C cf_X5 l_X7_221 e_X7_reading_33 (iTo.f2 kT_1) ?_
        refine MF.callVP (As := []) C (R_X2_isFull hD 6 kR_6 s) m_X2_isFull k_X7_224 (iRo.o kR_6) rfl (by decide) e_X7_reading_36 rfl rfl (Nat.le_of_ble_eq_true rfl) (fun v8 => ?_)
        refine MF.if_eq (tgt := 47) C e_X7_reading_39 (by decide) (fun _ => ?_) (fun _ => ?_)
        · refine MF.aload_n C e_X7_reading_47 0 rfl rfl ?_
          refine MF.getR (j := 69) C cf_X7 l_X7_62 e_X7_reading_48 kF_0_9 ?_
          refine MF.iconst (v := (nI 0)) C e_X7_reading_51 rfl ?_
          refine MF.iload_n C e_X7_reading_52 1 rfl rfl ?_
          refine MF.iast C e_X7_reading_53 kA_69 (fun s9 => ?_)
          refine MF.aload_n C e_X7_reading_54 0 rfl rfl ?_
          refine MF.getR (j := 69) C cf_X7 l_X7_62 e_X7_reading_55 kF_0_9 ?_
          refine MF.iconst (v := (nI 1)) C e_X7_reading_58 rfl ?_
          refine MF.iload_n C e_X7_reading_59 2 rfl rfl ?_
          refine MF.iast C e_X7_reading_60 kA_69 (fun s10 => ?_)
          refine MF.aload_n C e_X7_reading_61 0 rfl rfl ?_
          refine MF.getR (j := 69) C cf_X7 l_X7_62 e_X7_reading_62 kF_0_9 ?_
          refine MF.iconst (v := (nI 2)) C e_X7_reading_65 rfl ?_
          refine MF.iload_n C e_X7_reading_66 3 rfl rfl ?_
          refine MF.iast C e_X7_reading_67 kA_69 (fun s11 => ?_)
          refine MF.aload_n C e_X7_reading_68 0 rfl rfl ?_
          refine MF.getR (j := 1) C cf_X7 l_X7_10 e_X7_reading_69 kF_0_0 ?_
          refine MF.getRN (j := 6) C cf_X5 l_X7_221 e_X7_reading_72 (iTo.f2 kT_1) ?_
          refine MF.aload_n C e_X7_reading_75 0 rfl rfl ?_
          refine MF.getR (j := 69) C cf_X7 l_X7_62 e_X7_reading_76 kF_0_9 ?_
          refine MF.callVU (As := [.ref (ead E 69)]) C (R_X2_add hD 6 69 kR_6 kA_69 s11) m_X2_add k_X7_225 (iRo.o kR_6) rfl (by decide) e_X7_reading_79 rfl rfl (Nat.le_of_ble_eq_true rfl) (fun s12 => ?_)
          refine MF.aload_n C e_X7_reading_82 0 rfl rfl ?_
          refine MF.getR (j := 1) C cf_X7 l_X7_10 e_X7_reading_83 kF_0_0 ?_
          refine MF.getRN (j := 6) C cf_X5 l_X7_221 e_X7_reading_86 (iTo.f2 kT_1) ?_
          refine MF.callVP (As := []) C (R_X2_size hD 6 kR_6 s12) m_X2_size k_X7_87 (iRo.o kR_6) rfl (by decide) e_X7_reading_89 rfl rfl (Nat.le_of_ble_eq_true rfl) (fun v13 => ?_)
          refine MF.iconst (v := (nI 1)) C e_X7_reading_92 rfl ?_
          refine MF.isub C e_X7_reading_93 ?_
          exact MF.iret C e_X7_reading_94
        · refine MF.aload_n C e_X7_reading_42 0 rfl rfl ?_
          refine MF.callVI (As := []) C (R_X7_refuseFull hD s) m_X7_refuseFull k_X7_123 kO_0 rfl (by decide) e_X7_reading_43 rfl rfl (Nat.le_of_ble_eq_true rfl) (fun v14 s15 => ?_)
          exact MF.iret C e_X7_reading_46
      · refine MF.aload_n C e_X7_reading_24 0 rfl rfl ?_
        refine MF.callVI (As := []) C (R_X7_refuseBad hD s) m_X7_refuseBad k_X7_97 kO_0 rfl (by decide) e_X7_reading_25 rfl rfl (Nat.le_of_ble_eq_true rfl) (fun v16 s17 => ?_)
        exact MF.iret C e_X7_reading_28
theorem e_X7_burn_0 : Dc cX7_burn 0 (.aload_n 0) 1 1 := ⟨by decide +kernel, rfl⟩
theorem e_X7_burn_1 : Dc cX7_burn 1 (.getfield 10) 3 4 := ⟨by decide +kernel, rfl⟩
theorem e_X7_burn_4 : Dc cX7_burn 4 (.getfield 221) 3 7 := ⟨by decide +kernel, rfl⟩
theorem e_X7_burn_7 : Dc cX7_burn 7 (.invokevirtual 87) 3 10 := ⟨by decide +kernel, rfl⟩
theorem e_X7_burn_10 : Dc cX7_burn 10 (.istore_n 1) 1 11 := ⟨by decide +kernel, rfl⟩
theorem e_X7_burn_11 : Dc cX7_burn 11 (.aload_n 0) 1 12 := ⟨by decide +kernel, rfl⟩
theorem e_X7_burn_12 : Dc cX7_burn 12 (.getfield 10) 3 15 := ⟨by decide +kernel, rfl⟩
theorem e_X7_burn_15 : Dc cX7_burn 15 (.getfield 221) 3 18 := ⟨by decide +kernel, rfl⟩
theorem e_X7_burn_18 : Dc cX7_burn 18 (.invokevirtual 228) 3 21 := ⟨by decide +kernel, rfl⟩
theorem e_X7_burn_21 : Dc cX7_burn 21 (.iload_n 1) 1 22 := ⟨by decide +kernel, rfl⟩
theorem e_X7_burn_22 : Dc cX7_burn 22 (.ireturn) 1 23 := ⟨by decide +kernel, rfl⟩
set_option maxHeartbeats 4000000 in
set_option maxRecDepth 20000 in
theorem R_X7_burn (hD : DD E) (s : Sg) : ∀ v τ, (f_X7_burn s) = some (v, τ) → RI l E 1 M_X7_burn [.ref (ead E 0)] s v τ := by
  refine ofI hD (by decide +kernel) (Nat.le_of_ble_eq_true rfl) (fun X C => ?_)
  show MF l E X (fun q : Int32 × Sg => QI E X q.1 q.2) (f_X7_burn s) s 0 [(0, .ref (ead E 0))] []
  unfold f_X7_burn
  refine MF.aload_n C e_X7_burn_0 0 rfl rfl ?_
  refine MF.getR (j := 1) C cf_X7 l_X7_10 e_X7_burn_1 kF_0_0 ?_
  refine MF.getRN (j := 6) C cf_X5 l_X7_221 e_X7_burn_4 (iTo.f2 kT_1) ?_
  refine MF.callVP (As := []) C (R_X2_size hD 6 kR_6 s) m_X2_size k_X7_87 (iRo.o kR_6) rfl (by decide) e_X7_burn_7 rfl rfl (Nat.le_of_ble_eq_true rfl) (fun v1 => ?_)
  refine MF.istore_n (lv' := [(0, .ref (ead E 0)), (1, .int v1)]) C e_X7_burn_10 (by decide) rfl ?_
  refine MF.aload_n C e_X7_burn_11 0 rfl rfl ?_
  refine MF.getR (j := 1) C cf_X7 l_X7_10 e_X7_burn_12 kF_0_0 ?_
  refine MF.getRN (j := 6) C cf_X5 l_X7_221 e_X7_burn_15 (iTo.f2 kT_1) ?_
  refine MF.callVU (As := []) C (R_X2_empty hD 6 kR_6 s) m_X2_empty k_X7_228 (iRo.o kR_6) rfl (by decide) e_X7_burn_18 rfl rfl (Nat.le_of_ble_eq_true rfl) (fun s2 => ?_)
  refine MF.iload_n C e_X7_burn_21 1 rfl rfl ?_
  exact MF.iret C e_X7_burn_22
theorem e_X7_truly_0 : Dc cX7_truly 0 (.iload_n 1) 1 1 := ⟨by decide +kernel, rfl⟩
theorem e_X7_truly_1 : Dc cX7_truly 1 (.iconst 2) 1 2 := ⟨by decide +kernel, rfl⟩
theorem e_X7_truly_2 : Dc cX7_truly 2 (.invokestatic 93) 3 5 := ⟨by decide +kernel, rfl⟩
theorem e_X7_truly_5 : Dc cX7_truly 5 (.ifCond .ne 11) 3 8 := ⟨by decide +kernel, rfl⟩
theorem e_X7_truly_8 : Dc cX7_truly 8 (.aload_n 0) 1 9 := ⟨by decide +kernel, rfl⟩
theorem e_X7_truly_9 : Dc cX7_truly 9 (.invokevirtual 97) 3 12 := ⟨by decide +kernel, rfl⟩
theorem e_X7_truly_12 : Dc cX7_truly 12 (.pop) 1 13 := ⟨by decide +kernel, rfl⟩
theorem e_X7_truly_13 : Dc cX7_truly 13 (.bipush (-10)) 2 15 := ⟨by decide +kernel, rfl⟩
theorem e_X7_truly_15 : Dc cX7_truly 15 (.ireturn) 1 16 := ⟨by decide +kernel, rfl⟩
theorem e_X7_truly_16 : Dc cX7_truly 16 (.aload_n 0) 1 17 := ⟨by decide +kernel, rfl⟩
theorem e_X7_truly_17 : Dc cX7_truly 17 (.getfield 35) 3 20 := ⟨by decide +kernel, rfl⟩
theorem e_X7_truly_20 : Dc cX7_truly 20 (.aload_n 0) 1 21 := ⟨by decide +kernel, rfl⟩
theorem e_X7_truly_21 : Dc cX7_truly 21 (.getfield 10) 3 24 := ⟨by decide +kernel, rfl⟩
theorem e_X7_truly_24 : Dc cX7_truly 24 (.invokevirtual 170) 3 27 := ⟨by decide +kernel, rfl⟩
theorem e_X7_truly_27 : Dc cX7_truly 27 (.aload_n 0) 1 28 := ⟨by decide +kernel, rfl⟩
theorem e_X7_truly_28 : Dc cX7_truly 28 (.getfield 51) 3 31 := ⟨by decide +kernel, rfl⟩
theorem e_X7_truly_31 : Dc cX7_truly 31 (.aload_n 0) 1 32 := ⟨by decide +kernel, rfl⟩
theorem e_X7_truly_32 : Dc cX7_truly 32 (.getfield 10) 3 35 := ⟨by decide +kernel, rfl⟩
theorem e_X7_truly_35 : Dc cX7_truly 35 (.invokevirtual 229) 3 38 := ⟨by decide +kernel, rfl⟩
theorem e_X7_truly_38 : Dc cX7_truly 38 (.istore_n 2) 1 39 := ⟨by decide +kernel, rfl⟩
theorem e_X7_truly_39 : Dc cX7_truly 39 (.iload_n 1) 1 40 := ⟨by decide +kernel, rfl⟩
theorem e_X7_truly_40 : Dc cX7_truly 40 (.ifCond .ne 5) 3 43 := ⟨by decide +kernel, rfl⟩
theorem e_X7_truly_43 : Dc cX7_truly 43 (.iload_n 2) 1 44 := ⟨by decide +kernel, rfl⟩
theorem e_X7_truly_44 : Dc cX7_truly 44 (.ireturn) 1 45 := ⟨by decide +kernel, rfl⟩
theorem e_X7_truly_45 : Dc cX7_truly 45 (.iload_n 2) 1 46 := ⟨by decide +kernel, rfl⟩
theorem e_X7_truly_46 : Dc cX7_truly 46 (.ifCond .ne 7) 3 49 := ⟨by decide +kernel, rfl⟩
theorem e_X7_truly_49 : Dc cX7_truly 49 (.iconst (-1)) 1 50 := ⟨by decide +kernel, rfl⟩
theorem e_X7_truly_50 : Dc cX7_truly 50 (.goto 10) 3 53 := ⟨by decide +kernel, rfl⟩
theorem e_X7_truly_53 : Dc cX7_truly 53 (.aload_n 0) 1 54 := ⟨by decide +kernel, rfl⟩
theorem e_X7_truly_54 : Dc cX7_truly 54 (.getfield 51) 3 57 := ⟨by decide +kernel, rfl⟩
theorem e_X7_truly_57 : Dc cX7_truly 57 (.invokevirtual 232) 3 60 := ⟨by decide +kernel, rfl⟩
theorem e_X7_truly_60 : Dc cX7_truly 60 (.ireturn) 1 61 := ⟨by decide +kernel, rfl⟩
set_option maxHeartbeats 4000000 in
set_option maxRecDepth 20000 in
theorem R_X7_truly (hD : DD E) (x1 : Int32) (s : Sg) : ∀ v τ, (f_X7_truly x1 s) = some (v, τ) → RI l E 6 M_X7_truly [.ref (ead E 0), .int x1] s v τ := by
  refine ofI hD (by decide +kernel) (Nat.le_of_ble_eq_true rfl) (fun X C => ?_)
  show MF l E X (fun q : Int32 × Sg => QI E X q.1 q.2) (f_X7_truly x1 s) s 0 [(0, .ref (ead E 0)), (1, .int x1)] []
  unfold f_X7_truly
  refine MF.iload_n C e_X7_truly_0 1 rfl rfl ?_
  refine MF.iconst (v := (nI 2)) C e_X7_truly_1 rfl ?_
  refine MF.callSP (As := [.int x1, .int (nI 2)]) C (R_X7_isBelow hD x1 (nI 2) s) m_X7_isBelow k_X7_93 (by decide) e_X7_truly_2 rfl rfl (Nat.le_of_ble_eq_true rfl) (fun v1 => ?_)
  refine MF.if_ne (tgt := 16) C e_X7_truly_5 (by decide) (fun _ => ?_) (fun _ => ?_)
  · refine MF.aload_n C e_X7_truly_16 0 rfl rfl ?_
    refine MF.getR (j := 52) C cf_X7 l_X7_35 e_X7_truly_17 kF_0_5 ?_
    refine MF.aload_n C e_X7_truly_20 0 rfl rfl ?_
    refine MF.getR (j := 1) C cf_X7 l_X7_10 e_X7_truly_21 kF_0_0 ?_
    refine MF.callVU (As := [.ref (ead E 1)]) C (R_X0_plan hD 1 kT_1 s) m_X0_plan k_X7_170 kO_52 rfl (by decide) e_X7_truly_24 rfl rfl (Nat.le_of_ble_eq_true rfl) (fun s2 => ?_)
    refine MF.aload_n C e_X7_truly_27 0 rfl rfl ?_
    refine MF.getR (j := 63) C cf_X7 l_X7_51 e_X7_truly_28 kF_0_7 ?_
    refine MF.aload_n C e_X7_truly_31 0 rfl rfl ?_
    refine MF.getR (j := 1) C cf_X7 l_X7_10 e_X7_truly_32 kF_0_0 ?_
    refine MF.callVI (As := [.ref (ead E 1)]) C (R_X3_trueSets hD 1 kT_1 s2) m_X3_trueSets k_X7_229 kO_63 rfl (by decide) e_X7_truly_35 rfl rfl (Nat.le_of_ble_eq_true rfl) (fun v3 s4 => ?_)
    refine MF.istore_n (lv' := [(0, .ref (ead E 0)), (1, .int x1), (2, .int v3)]) C e_X7_truly_38 (by decide) rfl ?_
    refine MF.iload_n C e_X7_truly_39 1 rfl rfl ?_
    refine MF.if_ne (tgt := 45) C e_X7_truly_40 (by decide) (fun _ => ?_) (fun _ => ?_)
    · refine MF.iload_n C e_X7_truly_45 2 rfl rfl ?_
      refine MF.if_ne (tgt := 53) C e_X7_truly_46 (by decide) (fun _ => ?_) (fun _ => ?_)
      · refine MF.aload_n C e_X7_truly_53 0 rfl rfl ?_
        refine MF.getR (j := 63) C cf_X7 l_X7_51 e_X7_truly_54 kF_0_7 ?_
        refine MF.callVP (As := []) C (R_X3_inAllTrueSets hD s4) m_X3_inAllTrueSets k_X7_232 kO_63 rfl (by decide) e_X7_truly_57 rfl rfl (Nat.le_of_ble_eq_true rfl) (fun v5 => ?_)
        exact MF.iret C e_X7_truly_60
      · refine MF.iconst (v := (-1 : Int32)) C e_X7_truly_49 rfl ?_
        refine MF.goto (tgt := 60) C e_X7_truly_50 (by decide) ?_
        exact MF.iret C e_X7_truly_60
    · refine MF.iload_n C e_X7_truly_43 2 rfl rfl ?_
      exact MF.iret C e_X7_truly_44
  · refine MF.aload_n C e_X7_truly_8 0 rfl rfl ?_
    refine MF.callVI (As := []) C (R_X7_refuseBad hD s) m_X7_refuseBad k_X7_97 kO_0 rfl (by decide) e_X7_truly_9 rfl rfl (Nat.le_of_ble_eq_true rfl) (fun v6 s7 => ?_)
    refine MF.pop C e_X7_truly_12 rfl ?_
    refine MF.bipush (v := (-10 : Int32)) C e_X7_truly_13 (by decide) ?_
    exact MF.iret C e_X7_truly_15
end WK
