section WK
variable {l : Launch} {E : EX}
theorem e_X7_drawn_0 : Dc cX7_drawn 0 (.iload_n 1) 1 1 := ⟨by decide +kernel, rfl⟩
theorem e_X7_drawn_1 : Dc cX7_drawn 1 (.ldc 235) 2 3 := ⟨by decide +kernel, rfl⟩
theorem e_X7_drawn_3 : Dc cX7_drawn 3 (.invokestatic 93) 3 6 := ⟨by decide +kernel, rfl⟩
theorem e_X7_drawn_6 : Dc cX7_drawn 6 (.ifCond .eq 21) 3 9 := ⟨by decide +kernel, rfl⟩
theorem e_X7_drawn_9 : Dc cX7_drawn 9 (.iload_n 2) 1 10 := ⟨by decide +kernel, rfl⟩
theorem e_X7_drawn_10 : Dc cX7_drawn 10 (.bipush 31) 2 12 := ⟨by decide +kernel, rfl⟩
theorem e_X7_drawn_12 : Dc cX7_drawn 12 (.invokestatic 93) 3 15 := ⟨by decide +kernel, rfl⟩
theorem e_X7_drawn_15 : Dc cX7_drawn 15 (.ifCond .eq 12) 3 18 := ⟨by decide +kernel, rfl⟩
theorem e_X7_drawn_18 : Dc cX7_drawn 18 (.iload_n 3) 1 19 := ⟨by decide +kernel, rfl⟩
theorem e_X7_drawn_19 : Dc cX7_drawn 19 (.bipush 101) 2 21 := ⟨by decide +kernel, rfl⟩
theorem e_X7_drawn_21 : Dc cX7_drawn 21 (.invokestatic 93) 3 24 := ⟨by decide +kernel, rfl⟩
theorem e_X7_drawn_24 : Dc cX7_drawn 24 (.ifCond .ne 8) 3 27 := ⟨by decide +kernel, rfl⟩
theorem e_X7_drawn_27 : Dc cX7_drawn 27 (.aload_n 0) 1 28 := ⟨by decide +kernel, rfl⟩
theorem e_X7_drawn_28 : Dc cX7_drawn 28 (.invokevirtual 97) 3 31 := ⟨by decide +kernel, rfl⟩
theorem e_X7_drawn_31 : Dc cX7_drawn 31 (.ireturn) 1 32 := ⟨by decide +kernel, rfl⟩
theorem e_X7_drawn_32 : Dc cX7_drawn 32 (.aload_n 0) 1 33 := ⟨by decide +kernel, rfl⟩
theorem e_X7_drawn_33 : Dc cX7_drawn 33 (.getfield 35) 3 36 := ⟨by decide +kernel, rfl⟩
theorem e_X7_drawn_36 : Dc cX7_drawn 36 (.aload_n 0) 1 37 := ⟨by decide +kernel, rfl⟩
theorem e_X7_drawn_37 : Dc cX7_drawn 37 (.getfield 10) 3 40 := ⟨by decide +kernel, rfl⟩
theorem e_X7_drawn_40 : Dc cX7_drawn 40 (.invokevirtual 170) 3 43 := ⟨by decide +kernel, rfl⟩
theorem e_X7_drawn_43 : Dc cX7_drawn 43 (.aload_n 0) 1 44 := ⟨by decide +kernel, rfl⟩
theorem e_X7_drawn_44 : Dc cX7_drawn 44 (.getfield 51) 3 47 := ⟨by decide +kernel, rfl⟩
theorem e_X7_drawn_47 : Dc cX7_drawn 47 (.iload_n 1) 1 48 := ⟨by decide +kernel, rfl⟩
theorem e_X7_drawn_48 : Dc cX7_drawn 48 (.iload_n 2) 1 49 := ⟨by decide +kernel, rfl⟩
theorem e_X7_drawn_49 : Dc cX7_drawn 49 (.iload_n 3) 1 50 := ⟨by decide +kernel, rfl⟩
theorem e_X7_drawn_50 : Dc cX7_drawn 50 (.aload_n 0) 1 51 := ⟨by decide +kernel, rfl⟩
theorem e_X7_drawn_51 : Dc cX7_drawn 51 (.getfield 10) 3 54 := ⟨by decide +kernel, rfl⟩
theorem e_X7_drawn_54 : Dc cX7_drawn 54 (.invokevirtual 236) 3 57 := ⟨by decide +kernel, rfl⟩
theorem e_X7_drawn_57 : Dc cX7_drawn 57 (.ireturn) 1 58 := ⟨by decide +kernel, rfl⟩
set_option maxHeartbeats 4000000 in
set_option maxRecDepth 20000 in
theorem R_X7_drawn (hD : DD E) (x1 : Int32) (x2 : Int32) (x3 : Int32) (s : Sg) : ∀ v τ, (f_X7_drawn x1 x2 x3 s) = some (v, τ) → RI l E 5 M_X7_drawn [.ref (ead E 0), .int x1, .int x2, .int x3] s v τ := by
  refine ofI hD (by decide +kernel) (Nat.le_of_ble_eq_true rfl) (fun X C => ?_)
  show MF l E X (fun q : Int32 × Sg => QI E X q.1 q.2) (f_X7_drawn x1 x2 x3 s) s 0 [(0, .ref (ead E 0)), (1, .int x1), (2, .int x2), (3, .int x3)] []
  unfold f_X7_drawn
  refine MF.iload_n C e_X7_drawn_0 1 rfl rfl ?_
  refine MF.ldc C e_X7_drawn_1 t_X7_235 ?_
  refine MF.callSP (As := [.int x1, .int (nI 1000000)]) C (R_X7_isBelow hD x1 (nI 1000000) s) m_X7_isBelow k_X7_93 (by decide) e_X7_drawn_3 rfl rfl (Nat.le_of_ble_eq_true rfl) (fun v1 => ?_)
  refine MF.if_eq (tgt := 27) C e_X7_drawn_6 (by decide) (fun _ => ?_) (fun _ => ?_)
  · refine MF.aload_n C e_X7_drawn_27 0 rfl rfl ?_
    refine MF.callVI (As := []) C (R_X7_refuseBad hD s) m_X7_refuseBad k_X7_97 kO_0 rfl (by decide) e_X7_drawn_28 rfl rfl (Nat.le_of_ble_eq_true rfl) (fun v2 s3 => ?_)
    exact MF.iret C e_X7_drawn_31
  · refine MF.iload_n C e_X7_drawn_9 2 rfl rfl ?_
    refine MF.bipush (v := (nI 31)) C e_X7_drawn_10 (by decide) ?_
    refine MF.callSP (As := [.int x2, .int (nI 31)]) C (R_X7_isBelow hD x2 (nI 31) s) m_X7_isBelow k_X7_93 (by decide) e_X7_drawn_12 rfl rfl (Nat.le_of_ble_eq_true rfl) (fun v4 => ?_)
    refine MF.if_eq (tgt := 27) C e_X7_drawn_15 (by decide) (fun _ => ?_) (fun _ => ?_)
    · refine MF.aload_n C e_X7_drawn_27 0 rfl rfl ?_
      refine MF.callVI (As := []) C (R_X7_refuseBad hD s) m_X7_refuseBad k_X7_97 kO_0 rfl (by decide) e_X7_drawn_28 rfl rfl (Nat.le_of_ble_eq_true rfl) (fun v5 s6 => ?_)
      exact MF.iret C e_X7_drawn_31
    · refine MF.iload_n C e_X7_drawn_18 3 rfl rfl ?_
      refine MF.bipush (v := (nI 101)) C e_X7_drawn_19 (by decide) ?_
      refine MF.callSP (As := [.int x3, .int (nI 101)]) C (R_X7_isBelow hD x3 (nI 101) s) m_X7_isBelow k_X7_93 (by decide) e_X7_drawn_21 rfl rfl (Nat.le_of_ble_eq_true rfl) (fun v7 => ?_)
      refine MF.if_ne (tgt := 32) C e_X7_drawn_24 (by decide) (fun _ => ?_) (fun _ => ?_)
      · refine MF.aload_n C e_X7_drawn_32 0 rfl rfl ?_
        refine MF.getR (j := 52) C cf_X7 l_X7_35 e_X7_drawn_33 kF_0_5 ?_
        refine MF.aload_n C e_X7_drawn_36 0 rfl rfl ?_
        refine MF.getR (j := 1) C cf_X7 l_X7_10 e_X7_drawn_37 kF_0_0 ?_
        refine MF.callVU (As := [.ref (ead E 1)]) C (R_X0_plan hD 1 kT_1 s) m_X0_plan k_X7_170 kO_52 rfl (by decide) e_X7_drawn_40 rfl rfl (Nat.le_of_ble_eq_true rfl) (fun s8 => ?_)
        refine MF.aload_n C e_X7_drawn_43 0 rfl rfl ?_
        refine MF.getR (j := 63) C cf_X7 l_X7_51 e_X7_drawn_44 kF_0_7 ?_
        refine MF.iload_n C e_X7_drawn_47 1 rfl rfl ?_
        refine MF.iload_n C e_X7_drawn_48 2 rfl rfl ?_
        refine MF.iload_n C e_X7_drawn_49 3 rfl rfl ?_
        refine MF.aload_n C e_X7_drawn_50 0 rfl rfl ?_
        refine MF.getR (j := 1) C cf_X7 l_X7_10 e_X7_drawn_51 kF_0_0 ?_
        refine MF.callVI (As := [.int x1, .int x2, .int x3, .ref (ead E 1)]) C (R_X3_renamingsOfDays hD x1 x2 x3 1 kT_1 s8) m_X3_renamingsOfDays k_X7_236 kO_63 rfl (by decide) e_X7_drawn_54 rfl rfl (Nat.le_of_ble_eq_true rfl) (fun v9 s10 => ?_)
        exact MF.iret C e_X7_drawn_57
      · refine MF.aload_n C e_X7_drawn_27 0 rfl rfl ?_
        refine MF.callVI (As := []) C (R_X7_refuseBad hD s) m_X7_refuseBad k_X7_97 kO_0 rfl (by decide) e_X7_drawn_28 rfl rfl (Nat.le_of_ble_eq_true rfl) (fun v11 s12 => ?_)
        exact MF.iret C e_X7_drawn_31
theorem e_X7_imageOf_0 : Dc cX7_imageOf 0 (.iload_n 1) 1 1 := ⟨by decide +kernel, rfl⟩
theorem e_X7_imageOf_1 : Dc cX7_imageOf 1 (.ifCond .ne 10) 3 4 := ⟨by decide +kernel, rfl⟩
theorem e_X7_imageOf_4 : Dc cX7_imageOf 4 (.aload_n 0) 1 5 := ⟨by decide +kernel, rfl⟩
theorem e_X7_imageOf_5 : Dc cX7_imageOf 5 (.getfield 19) 3 8 := ⟨by decide +kernel, rfl⟩
theorem e_X7_imageOf_8 : Dc cX7_imageOf 8 (.goto 7) 3 11 := ⟨by decide +kernel, rfl⟩
theorem e_X7_imageOf_11 : Dc cX7_imageOf 11 (.aload_n 0) 1 12 := ⟨by decide +kernel, rfl⟩
theorem e_X7_imageOf_12 : Dc cX7_imageOf 12 (.getfield 22) 3 15 := ⟨by decide +kernel, rfl⟩
theorem e_X7_imageOf_15 : Dc cX7_imageOf 15 (.areturn) 1 16 := ⟨by decide +kernel, rfl⟩
set_option maxHeartbeats 4000000 in
set_option maxRecDepth 20000 in
theorem R_X7_imageOf (hD : DD E) (x1 : Int32) (s : Sg) : ∀ c, (f_X7_imageOf x1 s) = some c → RR l E 0 M_X7_imageOf [.ref (ead E 0), .int x1] s c s := by
  refine ofR hD (by decide +kernel) (Nat.le_of_ble_eq_true rfl) (fun X C => ?_)
  show MF l E X (fun q : Nat => QR E X q s) (f_X7_imageOf x1 s) s 0 [(0, .ref (ead E 0)), (1, .int x1)] []
  unfold f_X7_imageOf
  refine MF.iload_n C e_X7_imageOf_0 1 rfl rfl ?_
  refine MF.if_ne (tgt := 11) C e_X7_imageOf_1 (by decide) (fun _ => ?_) (fun _ => ?_)
  · refine MF.aload_n C e_X7_imageOf_11 0 rfl rfl ?_
    refine MF.getR (j := 37) C cf_X7 l_X7_22 e_X7_imageOf_12 kF_0_3 ?_
    exact MF.aretp C e_X7_imageOf_15
  · refine MF.aload_n C e_X7_imageOf_4 0 rfl rfl ?_
    refine MF.getR (j := 25) C cf_X7 l_X7_19 e_X7_imageOf_5 kF_0_2 ?_
    refine MF.goto (tgt := 15) C e_X7_imageOf_8 (by decide) ?_
    exact MF.aretp C e_X7_imageOf_15
theorem T_X7_imageOf {x1 : Int32} {s : Sg} {c : Nat} (h : f_X7_imageOf x1 s = some c) : iTo c := by
  unfold f_X7_imageOf at h
  split at h <;> cases h
  · exact kT_25
  · exact kT_37
theorem e_X7_image_0 : Dc cX7_image 0 (.iload_n 1) 1 1 := ⟨by decide +kernel, rfl⟩
theorem e_X7_image_1 : Dc cX7_image 1 (.iconst 2) 1 2 := ⟨by decide +kernel, rfl⟩
theorem e_X7_image_2 : Dc cX7_image 2 (.invokestatic 93) 3 5 := ⟨by decide +kernel, rfl⟩
theorem e_X7_image_5 : Dc cX7_image 5 (.ifCond .ne 8) 3 8 := ⟨by decide +kernel, rfl⟩
theorem e_X7_image_8 : Dc cX7_image 8 (.aload_n 0) 1 9 := ⟨by decide +kernel, rfl⟩
theorem e_X7_image_9 : Dc cX7_image 9 (.invokevirtual 97) 3 12 := ⟨by decide +kernel, rfl⟩
theorem e_X7_image_12 : Dc cX7_image 12 (.ireturn) 1 13 := ⟨by decide +kernel, rfl⟩
theorem e_X7_image_13 : Dc cX7_image 13 (.aload_n 0) 1 14 := ⟨by decide +kernel, rfl⟩
theorem e_X7_image_14 : Dc cX7_image 14 (.iload_n 1) 1 15 := ⟨by decide +kernel, rfl⟩
theorem e_X7_image_15 : Dc cX7_image 15 (.invokevirtual 240) 3 18 := ⟨by decide +kernel, rfl⟩
theorem e_X7_image_18 : Dc cX7_image 18 (.aload_n 0) 1 19 := ⟨by decide +kernel, rfl⟩
theorem e_X7_image_19 : Dc cX7_image 19 (.getfield 10) 3 22 := ⟨by decide +kernel, rfl⟩
theorem e_X7_image_22 : Dc cX7_image 22 (.invokevirtual 137) 3 25 := ⟨by decide +kernel, rfl⟩
theorem e_X7_image_25 : Dc cX7_image 25 (.aload_n 0) 1 26 := ⟨by decide +kernel, rfl⟩
theorem e_X7_image_26 : Dc cX7_image 26 (.dup) 1 27 := ⟨by decide +kernel, rfl⟩
theorem e_X7_image_27 : Dc cX7_image 27 (.getfield 66) 3 30 := ⟨by decide +kernel, rfl⟩
theorem e_X7_image_30 : Dc cX7_image 30 (.iconst 1) 1 31 := ⟨by decide +kernel, rfl⟩
theorem e_X7_image_31 : Dc cX7_image 31 (.iload_n 1) 1 32 := ⟨by decide +kernel, rfl⟩
theorem e_X7_image_32 : Dc cX7_image 32 (.ishl) 1 33 := ⟨by decide +kernel, rfl⟩
theorem e_X7_image_33 : Dc cX7_image 33 (.ior) 1 34 := ⟨by decide +kernel, rfl⟩
theorem e_X7_image_34 : Dc cX7_image 34 (.putfield 66) 3 37 := ⟨by decide +kernel, rfl⟩
theorem e_X7_image_37 : Dc cX7_image 37 (.iconst 1) 1 38 := ⟨by decide +kernel, rfl⟩
theorem e_X7_image_38 : Dc cX7_image 38 (.ireturn) 1 39 := ⟨by decide +kernel, rfl⟩
set_option maxHeartbeats 4000000 in
set_option maxRecDepth 20000 in
theorem R_X7_image (hD : DD E) (x1 : Int32) (s : Sg) : ∀ v τ, (f_X7_image x1 s) = some (v, τ) → RI l E 3 M_X7_image [.ref (ead E 0), .int x1] s v τ := by
  refine ofI hD (by decide +kernel) (Nat.le_of_ble_eq_true rfl) (fun X C => ?_)
  show MF l E X (fun q : Int32 × Sg => QI E X q.1 q.2) (f_X7_image x1 s) s 0 [(0, .ref (ead E 0)), (1, .int x1)] []
  unfold f_X7_image
  refine MF.iload_n C e_X7_image_0 1 rfl rfl ?_
  refine MF.iconst (v := (nI 2)) C e_X7_image_1 rfl ?_
  refine MF.callSP (As := [.int x1, .int (nI 2)]) C (R_X7_isBelow hD x1 (nI 2) s) m_X7_isBelow k_X7_93 (by decide) e_X7_image_2 rfl rfl (Nat.le_of_ble_eq_true rfl) (fun v1 => ?_)
  refine MF.if_ne (tgt := 13) C e_X7_image_5 (by decide) (fun _ => ?_) (fun _ => ?_)
  · refine MF.aload_n C e_X7_image_13 0 rfl rfl ?_
    refine MF.iload_n C e_X7_image_14 1 rfl rfl ?_
    refine MF.callVR (As := [.int x1]) C (R_X7_imageOf hD x1 s) m_X7_imageOf k_X7_240 kO_0 rfl (by decide) e_X7_image_15 rfl rfl (Nat.le_of_ble_eq_true rfl) (fun c2 hc2 => ?_)
    refine MF.aload_n C e_X7_image_18 0 rfl rfl ?_
    refine MF.getR (j := 1) C cf_X7 l_X7_10 e_X7_image_19 kF_0_0 ?_
    refine MF.callVU (As := [.ref (ead E 1)]) C (R_X5_copy hD c2 1 (T_X7_imageOf hc2) kT_1 s) m_X5_copy k_X7_137 (iTo.o (T_X7_imageOf hc2)) rfl (by decide) e_X7_image_22 rfl rfl (Nat.le_of_ble_eq_true rfl) (fun s3 => ?_)
    refine MF.aload_n C e_X7_image_25 0 rfl rfl ?_
    refine MF.dup C e_X7_image_26 rfl ?_
    refine MF.get C cf_X7 l_X7_66 e_X7_image_27 kF_0_10 ?_
    refine MF.iconst (v := (nI 1)) C e_X7_image_30 rfl ?_
    refine MF.iload_n C e_X7_image_31 1 rfl rfl ?_
    refine MF.ishl C e_X7_image_32 ?_
    refine MF.ior C e_X7_image_33 ?_
    refine MF.put C cf_X7 l_X7_66 p_X7_10 e_X7_image_34 kF_0_10 rfl ?_
    refine MF.nmS (fun s4 => ?_)
    refine MF.iconst (v := (nI 1)) C e_X7_image_37 rfl ?_
    exact MF.iret C e_X7_image_38
  · refine MF.aload_n C e_X7_image_8 0 rfl rfl ?_
    refine MF.callVI (As := []) C (R_X7_refuseBad hD s) m_X7_refuseBad k_X7_97 kO_0 rfl (by decide) e_X7_image_9 rfl rfl (Nat.le_of_ble_eq_true rfl) (fun v5 s6 => ?_)
    exact MF.iret C e_X7_image_12
theorem e_X7_from_0 : Dc cX7_from 0 (.iload_n 1) 1 1 := ⟨by decide +kernel, rfl⟩
theorem e_X7_from_1 : Dc cX7_from 1 (.iconst 2) 1 2 := ⟨by decide +kernel, rfl⟩
theorem e_X7_from_2 : Dc cX7_from 2 (.invokestatic 93) 3 5 := ⟨by decide +kernel, rfl⟩
theorem e_X7_from_5 : Dc cX7_from 5 (.ifCond .ne 8) 3 8 := ⟨by decide +kernel, rfl⟩
theorem e_X7_from_8 : Dc cX7_from 8 (.aload_n 0) 1 9 := ⟨by decide +kernel, rfl⟩
theorem e_X7_from_9 : Dc cX7_from 9 (.invokevirtual 97) 3 12 := ⟨by decide +kernel, rfl⟩
theorem e_X7_from_12 : Dc cX7_from 12 (.ireturn) 1 13 := ⟨by decide +kernel, rfl⟩
theorem e_X7_from_13 : Dc cX7_from 13 (.aload_n 0) 1 14 := ⟨by decide +kernel, rfl⟩
theorem e_X7_from_14 : Dc cX7_from 14 (.getfield 66) 3 17 := ⟨by decide +kernel, rfl⟩
theorem e_X7_from_17 : Dc cX7_from 17 (.iload_n 1) 1 18 := ⟨by decide +kernel, rfl⟩
theorem e_X7_from_18 : Dc cX7_from 18 (.invokestatic 244) 3 21 := ⟨by decide +kernel, rfl⟩
theorem e_X7_from_21 : Dc cX7_from 21 (.ifCond .ne 8) 3 24 := ⟨by decide +kernel, rfl⟩
theorem e_X7_from_24 : Dc cX7_from 24 (.aload_n 0) 1 25 := ⟨by decide +kernel, rfl⟩
theorem e_X7_from_25 : Dc cX7_from 25 (.invokevirtual 113) 3 28 := ⟨by decide +kernel, rfl⟩
theorem e_X7_from_28 : Dc cX7_from 28 (.ireturn) 1 29 := ⟨by decide +kernel, rfl⟩
theorem e_X7_from_29 : Dc cX7_from 29 (.aload_n 0) 1 30 := ⟨by decide +kernel, rfl⟩
theorem e_X7_from_30 : Dc cX7_from 30 (.getfield 10) 3 33 := ⟨by decide +kernel, rfl⟩
theorem e_X7_from_33 : Dc cX7_from 33 (.aload_n 0) 1 34 := ⟨by decide +kernel, rfl⟩
theorem e_X7_from_34 : Dc cX7_from 34 (.iload_n 1) 1 35 := ⟨by decide +kernel, rfl⟩
theorem e_X7_from_35 : Dc cX7_from 35 (.invokevirtual 240) 3 38 := ⟨by decide +kernel, rfl⟩
theorem e_X7_from_38 : Dc cX7_from 38 (.invokevirtual 137) 3 41 := ⟨by decide +kernel, rfl⟩
theorem e_X7_from_41 : Dc cX7_from 41 (.iconst 1) 1 42 := ⟨by decide +kernel, rfl⟩
theorem e_X7_from_42 : Dc cX7_from 42 (.ireturn) 1 43 := ⟨by decide +kernel, rfl⟩
set_option maxHeartbeats 4000000 in
set_option maxRecDepth 20000 in
theorem R_X7_from (hD : DD E) (x1 : Int32) (s : Sg) : ∀ v τ, (f_X7_from x1 s) = some (v, τ) → RI l E 3 M_X7_from [.ref (ead E 0), .int x1] s v τ := by
  refine ofI hD (by decide +kernel) (Nat.le_of_ble_eq_true rfl) (fun X C => ?_)
  show MF l E X (fun q : Int32 × Sg => QI E X q.1 q.2) (f_X7_from x1 s) s 0 [(0, .ref (ead E 0)), (1, .int x1)] []
  unfold f_X7_from
  refine MF.iload_n C e_X7_from_0 1 rfl rfl ?_
  refine MF.iconst (v := (nI 2)) C e_X7_from_1 rfl ?_
  refine MF.callSP (As := [.int x1, .int (nI 2)]) C (R_X7_isBelow hD x1 (nI 2) s) m_X7_isBelow k_X7_93 (by decide) e_X7_from_2 rfl rfl (Nat.le_of_ble_eq_true rfl) (fun v1 => ?_)
  refine MF.if_ne (tgt := 13) C e_X7_from_5 (by decide) (fun _ => ?_) (fun _ => ?_)
  · refine MF.aload_n C e_X7_from_13 0 rfl rfl ?_
    refine MF.get C cf_X7 l_X7_66 e_X7_from_14 kF_0_10 ?_
    refine MF.iload_n C e_X7_from_17 1 rfl rfl ?_
    refine MF.callSP (As := [.int (s 0 10), .int x1]) C (R_X7_holds hD (s 0 10) x1 s) m_X7_holds k_X7_244 (by decide) e_X7_from_18 rfl rfl (Nat.le_of_ble_eq_true rfl) (fun v2 => ?_)
    refine MF.if_ne (tgt := 29) C e_X7_from_21 (by decide) (fun _ => ?_) (fun _ => ?_)
    · refine MF.aload_n C e_X7_from_29 0 rfl rfl ?_
      refine MF.getR (j := 1) C cf_X7 l_X7_10 e_X7_from_30 kF_0_0 ?_
      refine MF.aload_n C e_X7_from_33 0 rfl rfl ?_
      refine MF.iload_n C e_X7_from_34 1 rfl rfl ?_
      refine MF.callVR (As := [.int x1]) C (R_X7_imageOf hD x1 s) m_X7_imageOf k_X7_240 kO_0 rfl (by decide) e_X7_from_35 rfl rfl (Nat.le_of_ble_eq_true rfl) (fun c3 hc3 => ?_)
      refine MF.callVU (As := [.ref (ead E c3)]) C (R_X5_copy hD 1 c3 kT_1 (T_X7_imageOf hc3) s) m_X5_copy k_X7_137 (iTo.o kT_1) rfl (by decide) e_X7_from_38 rfl rfl (Nat.le_of_ble_eq_true rfl) (fun s4 => ?_)
      refine MF.iconst (v := (nI 1)) C e_X7_from_41 rfl ?_
      exact MF.iret C e_X7_from_42
    · refine MF.aload_n C e_X7_from_24 0 rfl rfl ?_
      refine MF.callVI (As := []) C (R_X7_refuseNo hD s) m_X7_refuseNo k_X7_113 kO_0 rfl (by decide) e_X7_from_25 rfl rfl (Nat.le_of_ble_eq_true rfl) (fun v5 s6 => ?_)
      exact MF.iret C e_X7_from_28
  · refine MF.aload_n C e_X7_from_8 0 rfl rfl ?_
    refine MF.callVI (As := []) C (R_X7_refuseBad hD s) m_X7_refuseBad k_X7_97 kO_0 rfl (by decide) e_X7_from_9 rfl rfl (Nat.le_of_ble_eq_true rfl) (fun v7 s8 => ?_)
    exact MF.iret C e_X7_from_12
theorem e_X7_status_0 : Dc cX7_status 0 (.iload_n 1) 1 1 := ⟨by decide +kernel, rfl⟩
theorem e_X7_status_1 : Dc cX7_status 1 (.tableswitch 42 0 2 #[27, 32, 37]) 27 28 := ⟨by decide +kernel, rfl⟩
theorem e_X7_status_28 : Dc cX7_status 28 (.aload_n 0) 1 29 := ⟨by decide +kernel, rfl⟩
theorem e_X7_status_29 : Dc cX7_status 29 (.getfield 70) 3 32 := ⟨by decide +kernel, rfl⟩
theorem e_X7_status_32 : Dc cX7_status 32 (.ireturn) 1 33 := ⟨by decide +kernel, rfl⟩
theorem e_X7_status_33 : Dc cX7_status 33 (.aload_n 0) 1 34 := ⟨by decide +kernel, rfl⟩
theorem e_X7_status_34 : Dc cX7_status 34 (.getfield 73) 3 37 := ⟨by decide +kernel, rfl⟩
theorem e_X7_status_37 : Dc cX7_status 37 (.ireturn) 1 38 := ⟨by decide +kernel, rfl⟩
theorem e_X7_status_38 : Dc cX7_status 38 (.aload_n 0) 1 39 := ⟨by decide +kernel, rfl⟩
theorem e_X7_status_39 : Dc cX7_status 39 (.getfield 76) 3 42 := ⟨by decide +kernel, rfl⟩
theorem e_X7_status_42 : Dc cX7_status 42 (.ireturn) 1 43 := ⟨by decide +kernel, rfl⟩
theorem e_X7_status_43 : Dc cX7_status 43 (.aload_n 0) 1 44 := ⟨by decide +kernel, rfl⟩
theorem e_X7_status_44 : Dc cX7_status 44 (.invokevirtual 97) 3 47 := ⟨by decide +kernel, rfl⟩
theorem e_X7_status_47 : Dc cX7_status 47 (.pop) 1 48 := ⟨by decide +kernel, rfl⟩
theorem e_X7_status_48 : Dc cX7_status 48 (.iconst (-1)) 1 49 := ⟨by decide +kernel, rfl⟩
theorem e_X7_status_49 : Dc cX7_status 49 (.ireturn) 1 50 := ⟨by decide +kernel, rfl⟩
set_option maxHeartbeats 4000000 in
set_option maxRecDepth 20000 in
theorem R_X7_status (hD : DD E) (x1 : Int32) (s : Sg) : ∀ v τ, (f_X7_status x1 s) = some (v, τ) → RI l E 1 M_X7_status [.ref (ead E 0), .int x1] s v τ := by
  refine ofI hD (by decide +kernel) (Nat.le_of_ble_eq_true rfl) (fun X C => ?_)
  show MF l E X (fun q : Int32 × Sg => QI E X q.1 q.2) (f_X7_status x1 s) s 0 [(0, .ref (ead E 0)), (1, .int x1)] []
  unfold f_X7_status
  refine MF.iload_n C e_X7_status_0 1 rfl rfl ?_
  refine MF.split (fun h0 => ?_) (fun h0 => ?_)
  · refine MF.tabIn (tgt := 28) C e_X7_status_1 h0 (by decide) (by decide) rfl (by decide) ?_
    refine MF.aload_n C e_X7_status_28 0 rfl rfl ?_
    refine MF.get C cf_X7 l_X7_70 e_X7_status_29 kF_0_11 ?_
    exact MF.iret C e_X7_status_32
  · refine MF.split (fun h1 => ?_) (fun h1 => ?_)
    · refine MF.tabIn (tgt := 33) C e_X7_status_1 h1 (by decide) (by decide) rfl (by decide) ?_
      refine MF.aload_n C e_X7_status_33 0 rfl rfl ?_
      refine MF.get C cf_X7 l_X7_73 e_X7_status_34 kF_0_12 ?_
      exact MF.iret C e_X7_status_37
    · refine MF.split (fun h2 => ?_) (fun h2 => ?_)
      · refine MF.tabIn (tgt := 38) C e_X7_status_1 h2 (by decide) (by decide) rfl (by decide) ?_
        refine MF.aload_n C e_X7_status_38 0 rfl rfl ?_
        refine MF.get C cf_X7 l_X7_76 e_X7_status_39 kF_0_13 ?_
        exact MF.iret C e_X7_status_42
      · refine MF.tabOut (tgt := 43) C e_X7_status_1 (by have q0 : _ ≠ (0 : Int) := i32_ne h0; have q1 : _ ≠ (1 : Int) := i32_ne h1; have q2 : _ ≠ (2 : Int) := i32_ne h2; omega) (by decide) ?_
        refine MF.aload_n C e_X7_status_43 0 rfl rfl ?_
        refine MF.callVI (As := []) C (R_X7_refuseBad hD s) m_X7_refuseBad k_X7_97 kO_0 rfl (by decide) e_X7_status_44 rfl rfl (Nat.le_of_ble_eq_true rfl) (fun v1 s2 => ?_)
        refine MF.pop C e_X7_status_47 rfl ?_
        refine MF.iconst (v := (-1 : Int32)) C e_X7_status_48 rfl ?_
        exact MF.iret C e_X7_status_49
theorem e_X7_countOf_0 : Dc cX7_countOf 0 (.iload_n 1) 1 1 := ⟨by decide +kernel, rfl⟩
theorem e_X7_countOf_1 : Dc cX7_countOf 1 (.tableswitch 87 0 4 #[35, 46, 57, 65, 76]) 35 36 := ⟨by decide +kernel, rfl⟩
theorem e_X7_countOf_36 : Dc cX7_countOf 36 (.aload_n 0) 1 37 := ⟨by decide +kernel, rfl⟩
theorem e_X7_countOf_37 : Dc cX7_countOf 37 (.getfield 10) 3 40 := ⟨by decide +kernel, rfl⟩
theorem e_X7_countOf_40 : Dc cX7_countOf 40 (.getfield 214) 3 43 := ⟨by decide +kernel, rfl⟩
theorem e_X7_countOf_43 : Dc cX7_countOf 43 (.invokevirtual 87) 3 46 := ⟨by decide +kernel, rfl⟩
theorem e_X7_countOf_46 : Dc cX7_countOf 46 (.ireturn) 1 47 := ⟨by decide +kernel, rfl⟩
theorem e_X7_countOf_47 : Dc cX7_countOf 47 (.aload_n 0) 1 48 := ⟨by decide +kernel, rfl⟩
theorem e_X7_countOf_48 : Dc cX7_countOf 48 (.getfield 10) 3 51 := ⟨by decide +kernel, rfl⟩
theorem e_X7_countOf_51 : Dc cX7_countOf 51 (.getfield 83) 3 54 := ⟨by decide +kernel, rfl⟩
theorem e_X7_countOf_54 : Dc cX7_countOf 54 (.invokevirtual 87) 3 57 := ⟨by decide +kernel, rfl⟩
theorem e_X7_countOf_57 : Dc cX7_countOf 57 (.ireturn) 1 58 := ⟨by decide +kernel, rfl⟩
theorem e_X7_countOf_58 : Dc cX7_countOf 58 (.aload_n 0) 1 59 := ⟨by decide +kernel, rfl⟩
theorem e_X7_countOf_59 : Dc cX7_countOf 59 (.getfield 10) 3 62 := ⟨by decide +kernel, rfl⟩
theorem e_X7_countOf_62 : Dc cX7_countOf 62 (.getfield 272) 3 65 := ⟨by decide +kernel, rfl⟩
theorem e_X7_countOf_65 : Dc cX7_countOf 65 (.ireturn) 1 66 := ⟨by decide +kernel, rfl⟩
theorem e_X7_countOf_66 : Dc cX7_countOf 66 (.aload_n 0) 1 67 := ⟨by decide +kernel, rfl⟩
theorem e_X7_countOf_67 : Dc cX7_countOf 67 (.getfield 10) 3 70 := ⟨by decide +kernel, rfl⟩
theorem e_X7_countOf_70 : Dc cX7_countOf 70 (.getfield 221) 3 73 := ⟨by decide +kernel, rfl⟩
theorem e_X7_countOf_73 : Dc cX7_countOf 73 (.invokevirtual 87) 3 76 := ⟨by decide +kernel, rfl⟩
theorem e_X7_countOf_76 : Dc cX7_countOf 76 (.ireturn) 1 77 := ⟨by decide +kernel, rfl⟩
theorem e_X7_countOf_77 : Dc cX7_countOf 77 (.aload_n 0) 1 78 := ⟨by decide +kernel, rfl⟩
theorem e_X7_countOf_78 : Dc cX7_countOf 78 (.getfield 10) 3 81 := ⟨by decide +kernel, rfl⟩
theorem e_X7_countOf_81 : Dc cX7_countOf 81 (.getfield 110) 3 84 := ⟨by decide +kernel, rfl⟩
theorem e_X7_countOf_84 : Dc cX7_countOf 84 (.invokevirtual 87) 3 87 := ⟨by decide +kernel, rfl⟩
theorem e_X7_countOf_87 : Dc cX7_countOf 87 (.ireturn) 1 88 := ⟨by decide +kernel, rfl⟩
theorem e_X7_countOf_88 : Dc cX7_countOf 88 (.aload_n 0) 1 89 := ⟨by decide +kernel, rfl⟩
theorem e_X7_countOf_89 : Dc cX7_countOf 89 (.getfield 28) 3 92 := ⟨by decide +kernel, rfl⟩
theorem e_X7_countOf_92 : Dc cX7_countOf 92 (.invokevirtual 129) 3 95 := ⟨by decide +kernel, rfl⟩
theorem e_X7_countOf_95 : Dc cX7_countOf 95 (.ireturn) 1 96 := ⟨by decide +kernel, rfl⟩
set_option maxHeartbeats 4000000 in
set_option maxRecDepth 20000 in
theorem R_X7_countOf (hD : DD E) (x1 : Int32) (s : Sg) : ∀ v, (f_X7_countOf x1 s) = some v → RI l E 1 M_X7_countOf [.ref (ead E 0), .int x1] s v s := by
  refine ofP hD (by decide +kernel) (Nat.le_of_ble_eq_true rfl) (fun X C => ?_)
  show MF l E X (fun q : Int32 => QI E X q s) (f_X7_countOf x1 s) s 0 [(0, .ref (ead E 0)), (1, .int x1)] []
  unfold f_X7_countOf
  refine MF.iload_n C e_X7_countOf_0 1 rfl rfl ?_
  refine MF.split (fun h0 => ?_) (fun h0 => ?_)
  · refine MF.tabIn (tgt := 36) C e_X7_countOf_1 h0 (by decide) (by decide) rfl (by decide) ?_
    refine MF.aload_n C e_X7_countOf_36 0 rfl rfl ?_
    refine MF.getR (j := 1) C cf_X7 l_X7_10 e_X7_countOf_37 kF_0_0 ?_
    refine MF.getRN (j := 2) C cf_X5 l_X7_214 e_X7_countOf_40 (iTo.f0 kT_1) ?_
    refine MF.callVP (As := []) C (R_X2_size hD 2 kR_2 s) m_X2_size k_X7_87 (iRo.o kR_2) rfl (by decide) e_X7_countOf_43 rfl rfl (Nat.le_of_ble_eq_true rfl) (fun v1 => ?_)
    exact MF.iretp C e_X7_countOf_46
  · refine MF.split (fun h1 => ?_) (fun h1 => ?_)
    · refine MF.tabIn (tgt := 47) C e_X7_countOf_1 h1 (by decide) (by decide) rfl (by decide) ?_
      refine MF.aload_n C e_X7_countOf_47 0 rfl rfl ?_
      refine MF.getR (j := 1) C cf_X7 l_X7_10 e_X7_countOf_48 kF_0_0 ?_
      refine MF.getRN (j := 4) C cf_X5 l_X7_83 e_X7_countOf_51 (iTo.f1 kT_1) ?_
      refine MF.callVP (As := []) C (R_X2_size hD 4 kR_4 s) m_X2_size k_X7_87 (iRo.o kR_4) rfl (by decide) e_X7_countOf_54 rfl rfl (Nat.le_of_ble_eq_true rfl) (fun v2 => ?_)
      exact MF.iretp C e_X7_countOf_57
    · refine MF.split (fun h2 => ?_) (fun h2 => ?_)
      · refine MF.tabIn (tgt := 58) C e_X7_countOf_1 h2 (by decide) (by decide) rfl (by decide) ?_
        refine MF.aload_n C e_X7_countOf_58 0 rfl rfl ?_
        refine MF.getR (j := 1) C cf_X7 l_X7_10 e_X7_countOf_59 kF_0_0 ?_
        refine MF.getN C cf_X5 l_X7_272 e_X7_countOf_62 (iTo.f7 kT_1) ?_
        exact MF.iretp C e_X7_countOf_65
      · refine MF.split (fun h3 => ?_) (fun h3 => ?_)
        · refine MF.tabIn (tgt := 66) C e_X7_countOf_1 h3 (by decide) (by decide) rfl (by decide) ?_
          refine MF.aload_n C e_X7_countOf_66 0 rfl rfl ?_
          refine MF.getR (j := 1) C cf_X7 l_X7_10 e_X7_countOf_67 kF_0_0 ?_
          refine MF.getRN (j := 6) C cf_X5 l_X7_221 e_X7_countOf_70 (iTo.f2 kT_1) ?_
          refine MF.callVP (As := []) C (R_X2_size hD 6 kR_6 s) m_X2_size k_X7_87 (iRo.o kR_6) rfl (by decide) e_X7_countOf_73 rfl rfl (Nat.le_of_ble_eq_true rfl) (fun v3 => ?_)
          exact MF.iretp C e_X7_countOf_76
        · refine MF.split (fun h4 => ?_) (fun h4 => ?_)
          · refine MF.tabIn (tgt := 77) C e_X7_countOf_1 h4 (by decide) (by decide) rfl (by decide) ?_
            refine MF.aload_n C e_X7_countOf_77 0 rfl rfl ?_
            refine MF.getR (j := 1) C cf_X7 l_X7_10 e_X7_countOf_78 kF_0_0 ?_
            refine MF.getRN (j := 8) C cf_X5 l_X7_110 e_X7_countOf_81 (iTo.f3 kT_1) ?_
            refine MF.callVP (As := []) C (R_X2_size hD 8 kR_8 s) m_X2_size k_X7_87 (iRo.o kR_8) rfl (by decide) e_X7_countOf_84 rfl rfl (Nat.le_of_ble_eq_true rfl) (fun v4 => ?_)
            exact MF.iretp C e_X7_countOf_87
          · refine MF.tabOut (tgt := 88) C e_X7_countOf_1 (by have q0 : _ ≠ (0 : Int) := i32_ne h0; have q1 : _ ≠ (1 : Int) := i32_ne h1; have q2 : _ ≠ (2 : Int) := i32_ne h2; have q3 : _ ≠ (3 : Int) := i32_ne h3; have q4 : _ ≠ (4 : Int) := i32_ne h4; omega) (by decide) ?_
            refine MF.aload_n C e_X7_countOf_88 0 rfl rfl ?_
            refine MF.getR (j := 49) C cf_X7 l_X7_28 e_X7_countOf_89 kF_0_4 ?_
            refine MF.callVP (As := []) C (R_X4_size hD s) m_X4_size k_X7_129 kO_49 rfl (by decide) e_X7_countOf_92 rfl rfl (Nat.le_of_ble_eq_true rfl) (fun v5 => ?_)
            exact MF.iretp C e_X7_countOf_95
theorem e_X7_count_0 : Dc cX7_count 0 (.iload_n 1) 1 1 := ⟨by decide +kernel, rfl⟩
theorem e_X7_count_1 : Dc cX7_count 1 (.bipush 6) 2 3 := ⟨by decide +kernel, rfl⟩
theorem e_X7_count_3 : Dc cX7_count 3 (.invokestatic 93) 3 6 := ⟨by decide +kernel, rfl⟩
theorem e_X7_count_6 : Dc cX7_count 6 (.ifCond .ne 8) 3 9 := ⟨by decide +kernel, rfl⟩
theorem e_X7_count_9 : Dc cX7_count 9 (.aload_n 0) 1 10 := ⟨by decide +kernel, rfl⟩
theorem e_X7_count_10 : Dc cX7_count 10 (.invokevirtual 97) 3 13 := ⟨by decide +kernel, rfl⟩
theorem e_X7_count_13 : Dc cX7_count 13 (.ireturn) 1 14 := ⟨by decide +kernel, rfl⟩
theorem e_X7_count_14 : Dc cX7_count 14 (.aload_n 0) 1 15 := ⟨by decide +kernel, rfl⟩
theorem e_X7_count_15 : Dc cX7_count 15 (.iload_n 1) 1 16 := ⟨by decide +kernel, rfl⟩
theorem e_X7_count_16 : Dc cX7_count 16 (.invokevirtual 247) 3 19 := ⟨by decide +kernel, rfl⟩
theorem e_X7_count_19 : Dc cX7_count 19 (.ireturn) 1 20 := ⟨by decide +kernel, rfl⟩
set_option maxHeartbeats 4000000 in
set_option maxRecDepth 20000 in
theorem R_X7_count (hD : DD E) (x1 : Int32) (s : Sg) : ∀ v τ, (f_X7_count x1 s) = some (v, τ) → RI l E 2 M_X7_count [.ref (ead E 0), .int x1] s v τ := by
  refine ofI hD (by decide +kernel) (Nat.le_of_ble_eq_true rfl) (fun X C => ?_)
  show MF l E X (fun q : Int32 × Sg => QI E X q.1 q.2) (f_X7_count x1 s) s 0 [(0, .ref (ead E 0)), (1, .int x1)] []
  unfold f_X7_count
  refine MF.iload_n C e_X7_count_0 1 rfl rfl ?_
  refine MF.bipush (v := (nI 6)) C e_X7_count_1 (by decide) ?_
  refine MF.callSP (As := [.int x1, .int (nI 6)]) C (R_X7_isBelow hD x1 (nI 6) s) m_X7_isBelow k_X7_93 (by decide) e_X7_count_3 rfl rfl (Nat.le_of_ble_eq_true rfl) (fun v1 => ?_)
  refine MF.if_ne (tgt := 14) C e_X7_count_6 (by decide) (fun _ => ?_) (fun _ => ?_)
  · refine MF.aload_n C e_X7_count_14 0 rfl rfl ?_
    refine MF.iload_n C e_X7_count_15 1 rfl rfl ?_
    refine MF.callVP (As := [.int x1]) C (R_X7_countOf hD x1 s) m_X7_countOf k_X7_247 kO_0 rfl (by decide) e_X7_count_16 rfl rfl (Nat.le_of_ble_eq_true rfl) (fun v2 => ?_)
    exact MF.iret C e_X7_count_19
  · refine MF.aload_n C e_X7_count_9 0 rfl rfl ?_
    refine MF.callVI (As := []) C (R_X7_refuseBad hD s) m_X7_refuseBad k_X7_97 kO_0 rfl (by decide) e_X7_count_10 rfl rfl (Nat.le_of_ble_eq_true rfl) (fun v3 s4 => ?_)
    exact MF.iret C e_X7_count_13
theorem e_X7_digest_0 : Dc cX7_digest 0 (.ldc2_w 250) 3 3 := ⟨by decide +kernel, rfl⟩
theorem e_X7_digest_3 : Dc cX7_digest 3 (.lstore_n 1) 1 4 := ⟨by decide +kernel, rfl⟩
theorem e_X7_digest_4 : Dc cX7_digest 4 (.iconst 0) 1 5 := ⟨by decide +kernel, rfl⟩
theorem e_X7_digest_5 : Dc cX7_digest 5 (.istore_n 3) 1 6 := ⟨by decide +kernel, rfl⟩
theorem e_X7_digest_6 : Dc cX7_digest 6 (.iload_n 3) 1 7 := ⟨by decide +kernel, rfl⟩
theorem e_X7_digest_7 : Dc cX7_digest 7 (.bipush 6) 2 9 := ⟨by decide +kernel, rfl⟩
theorem e_X7_digest_9 : Dc cX7_digest 9 (.if_icmp .ge 22) 3 12 := ⟨by decide +kernel, rfl⟩
theorem e_X7_digest_12 : Dc cX7_digest 12 (.ldc2_w 252) 3 15 := ⟨by decide +kernel, rfl⟩
theorem e_X7_digest_15 : Dc cX7_digest 15 (.lload_n 1) 1 16 := ⟨by decide +kernel, rfl⟩
theorem e_X7_digest_16 : Dc cX7_digest 16 (.lmul) 1 17 := ⟨by decide +kernel, rfl⟩
theorem e_X7_digest_17 : Dc cX7_digest 17 (.aload_n 0) 1 18 := ⟨by decide +kernel, rfl⟩
theorem e_X7_digest_18 : Dc cX7_digest 18 (.iload_n 3) 1 19 := ⟨by decide +kernel, rfl⟩
theorem e_X7_digest_19 : Dc cX7_digest 19 (.invokevirtual 247) 3 22 := ⟨by decide +kernel, rfl⟩
theorem e_X7_digest_22 : Dc cX7_digest 22 (.i2l) 1 23 := ⟨by decide +kernel, rfl⟩
theorem e_X7_digest_23 : Dc cX7_digest 23 (.ladd) 1 24 := ⟨by decide +kernel, rfl⟩
theorem e_X7_digest_24 : Dc cX7_digest 24 (.lstore_n 1) 1 25 := ⟨by decide +kernel, rfl⟩
theorem e_X7_digest_25 : Dc cX7_digest 25 (.iinc 3 1) 3 28 := ⟨by decide +kernel, rfl⟩
theorem e_X7_digest_28 : Dc cX7_digest 28 (.goto (-22)) 3 31 := ⟨by decide +kernel, rfl⟩
theorem e_X7_digest_31 : Dc cX7_digest 31 (.aload_n 0) 1 32 := ⟨by decide +kernel, rfl⟩
theorem e_X7_digest_32 : Dc cX7_digest 32 (.getfield 10) 3 35 := ⟨by decide +kernel, rfl⟩
theorem e_X7_digest_35 : Dc cX7_digest 35 (.lload_n 1) 1 36 := ⟨by decide +kernel, rfl⟩
theorem e_X7_digest_36 : Dc cX7_digest 36 (.invokevirtual 254) 3 39 := ⟨by decide +kernel, rfl⟩
theorem e_X7_digest_39 : Dc cX7_digest 39 (.lreturn) 1 40 := ⟨by decide +kernel, rfl⟩
set_option maxHeartbeats 4000000 in
set_option maxRecDepth 20000 in
theorem R_X7_digest (hD : DD E) (s : Sg) : ∀ v, (f_X7_digest s) = some v → RLg l E 2 M_X7_digest [.ref (ead E 0)] s v s := by
  refine ofL hD (by decide +kernel) (Nat.le_of_ble_eq_true rfl) (fun X C => ?_)
  show MF l E X (fun q : Int64 => QL E X q s) (f_X7_digest s) s 0 [(0, .ref (ead E 0))] []
  unfold f_X7_digest
  refine MF.ldc2 C e_X7_digest_0 t_X7_250 ?_
  refine MF.lstore_n (lv' := [(0, .ref (ead E 0)), (1, .long (911 : Int64))]) C e_X7_digest_3 (by decide) rfl ?_
  refine MF.iconst (v := (nI 0)) C e_X7_digest_4 rfl ?_
  refine MF.istore_n (lv' := [(0, .ref (ead E 0)), (1, .long (911 : Int64)), (3, .int (nI 0))]) C e_X7_digest_5 (by decide) rfl ?_
  refine MF.loop2 (fun i1 i2 => s) (fun i1 i2 => [(0, .ref (ead E 0)), (1, .long i1), (3, .int i2)]) (fun self3 hself3 i1 i2 => ?_) fu (911 : Int64) (nI 0)
  unfold b_X7_digest_6
  refine MF.iload_n C e_X7_digest_6 2 rfl rfl ?_
  refine MF.bipush (v := (nI 6)) C e_X7_digest_7 (by decide) ?_
  refine MF.icmp_ge (tgt := 31) C e_X7_digest_9 (by decide) (fun _ => ?_) (fun _ => ?_)
  · refine MF.aload_n C e_X7_digest_31 0 rfl rfl ?_
    refine MF.getR (j := 1) C cf_X7 l_X7_10 e_X7_digest_32 kF_0_0 ?_
    refine MF.lload_n C e_X7_digest_35 1 rfl rfl ?_
    refine MF.callVL (As := [.long i1]) C (R_X5_mixInto hD 1 i1 kT_1 s) m_X5_mixInto k_X7_254 (iTo.o kT_1) rfl (by decide) e_X7_digest_36 rfl rfl (Nat.le_of_ble_eq_true rfl) (fun v4 => ?_)
    exact MF.lretp C e_X7_digest_39
  · refine MF.ldc2 C e_X7_digest_12 t_X7_252 ?_
    refine MF.lload_n C e_X7_digest_15 1 rfl rfl ?_
    refine MF.lmul C e_X7_digest_16 ?_
    refine MF.aload_n C e_X7_digest_17 0 rfl rfl ?_
    refine MF.iload_n C e_X7_digest_18 2 rfl rfl ?_
    refine MF.callVP (As := [.int i2]) C (R_X7_countOf hD i2 s) m_X7_countOf k_X7_247 kO_0 rfl (by decide) e_X7_digest_19 rfl rfl (Nat.le_of_ble_eq_true rfl) (fun v5 => ?_)
    refine MF.i2l C e_X7_digest_22 ?_
    refine MF.ladd C e_X7_digest_23 ?_
    refine MF.nmL (fun v6 => ?_)
    refine MF.lstore_n (lv' := [(0, .ref (ead E 0)), (1, .long v6), (3, .int i2)]) C e_X7_digest_24 (by decide) rfl ?_
    refine MF.iinc (v := (nI 1)) (lv' := [(0, .ref (ead E 0)), (1, .long v6), (3, .int (i2 + (nI 1)))]) C e_X7_digest_25 2 rfl rfl (by decide) rfl ?_
    refine MF.goto (tgt := 6) C e_X7_digest_28 (by decide) ?_
    exact hself3 v6 (i2 + (nI 1))
theorem e_X8_in_0 : Dc cX8_in 0 (.lload_n 0) 1 1 := ⟨by decide +kernel, rfl⟩
theorem e_X8_in_1 : Dc cX8_in 1 (.lload_n 2) 1 2 := ⟨by decide +kernel, rfl⟩
theorem e_X8_in_2 : Dc cX8_in 2 (.lcmp) 1 3 := ⟨by decide +kernel, rfl⟩
theorem e_X8_in_3 : Dc cX8_in 3 (.ifCond .lt 14) 3 6 := ⟨by decide +kernel, rfl⟩
theorem e_X8_in_6 : Dc cX8_in 6 (.lload_n 0) 1 7 := ⟨by decide +kernel, rfl⟩
theorem e_X8_in_7 : Dc cX8_in 7 (.lload 4) 2 9 := ⟨by decide +kernel, rfl⟩
theorem e_X8_in_9 : Dc cX8_in 9 (.lcmp) 1 10 := ⟨by decide +kernel, rfl⟩
theorem e_X8_in_10 : Dc cX8_in 10 (.ifCond .gt 7) 3 13 := ⟨by decide +kernel, rfl⟩
theorem e_X8_in_13 : Dc cX8_in 13 (.iconst 1) 1 14 := ⟨by decide +kernel, rfl⟩
theorem e_X8_in_14 : Dc cX8_in 14 (.goto 4) 3 17 := ⟨by decide +kernel, rfl⟩
theorem e_X8_in_17 : Dc cX8_in 17 (.iconst 0) 1 18 := ⟨by decide +kernel, rfl⟩
theorem e_X8_in_18 : Dc cX8_in 18 (.ireturn) 1 19 := ⟨by decide +kernel, rfl⟩
set_option maxHeartbeats 4000000 in
set_option maxRecDepth 20000 in
theorem R_X8_in (hD : DD E) (x0 : Int64) (x2 : Int64) (x4 : Int64) (s : Sg) : ∀ v, (f_X8_in x0 x2 x4 s) = some v → RI l E 0 M_X8_in [.long x0, .long x2, .long x4] s v s := by
  refine ofP hD (by decide +kernel) (Nat.le_of_ble_eq_true rfl) (fun X C => ?_)
  show MF l E X (fun q : Int32 => QI E X q s) (f_X8_in x0 x2 x4 s) s 0 [(0, .long x0), (2, .long x2), (4, .long x4)] []
  unfold f_X8_in
  refine MF.lload_n C e_X8_in_0 0 rfl rfl ?_
  refine MF.lload_n C e_X8_in_1 1 rfl rfl ?_
  refine MF.lcmp C e_X8_in_2 ?_
  refine MF.if_lt (tgt := 17) C e_X8_in_3 (by decide) (fun _ => ?_) (fun _ => ?_)
  · refine MF.iconst (v := (nI 0)) C e_X8_in_17 rfl ?_
    exact MF.nretp C e_X8_in_18 rfl
  · refine MF.lload_n C e_X8_in_6 0 rfl rfl ?_
    refine MF.lload C e_X8_in_7 2 rfl ?_
    refine MF.lcmp C e_X8_in_9 ?_
    refine MF.if_gt (tgt := 17) C e_X8_in_10 (by decide) (fun _ => ?_) (fun _ => ?_)
    · refine MF.iconst (v := (nI 0)) C e_X8_in_17 rfl ?_
      exact MF.nretp C e_X8_in_18 rfl
    · refine MF.iconst (v := (nI 1)) C e_X8_in_13 rfl ?_
      refine MF.goto (tgt := 18) C e_X8_in_14 (by decide) ?_
      exact MF.nretp C e_X8_in_18 rfl
theorem e_X8_bad_0 : Dc cX8_bad 0 (.aload_n 0) 1 1 := ⟨by decide +kernel, rfl⟩
theorem e_X8_bad_1 : Dc cX8_bad 1 (.getfield 20) 3 4 := ⟨by decide +kernel, rfl⟩
theorem e_X8_bad_4 : Dc cX8_bad 4 (.iconst 0) 1 5 := ⟨by decide +kernel, rfl⟩
theorem e_X8_bad_5 : Dc cX8_bad 5 (.dup2) 1 6 := ⟨by decide +kernel, rfl⟩
theorem e_X8_bad_6 : Dc cX8_bad 6 (.iaload) 1 7 := ⟨by decide +kernel, rfl⟩
theorem e_X8_bad_7 : Dc cX8_bad 7 (.iconst 1) 1 8 := ⟨by decide +kernel, rfl⟩
theorem e_X8_bad_8 : Dc cX8_bad 8 (.iadd) 1 9 := ⟨by decide +kernel, rfl⟩
theorem e_X8_bad_9 : Dc cX8_bad 9 (.iastore) 1 10 := ⟨by decide +kernel, rfl⟩
theorem e_X8_bad_10 : Dc cX8_bad 10 (.iload_n 1) 1 11 := ⟨by decide +kernel, rfl⟩
theorem e_X8_bad_11 : Dc cX8_bad 11 (.ireturn) 1 12 := ⟨by decide +kernel, rfl⟩
set_option maxHeartbeats 4000000 in
set_option maxRecDepth 20000 in
theorem R_X8_bad (hD : DD E) (x1 : Int32) (s : Sg) : ∀ v τ, (f_X8_bad x1 s) = some (v, τ) → RI l E 0 M_X8_bad [.ref (ead E 70), .int x1] s v τ := by
  refine ofI hD (by decide +kernel) (Nat.le_of_ble_eq_true rfl) (fun X C => ?_)
  show MF l E X (fun q : Int32 × Sg => QI E X q.1 q.2) (f_X8_bad x1 s) s 0 [(0, .ref (ead E 70)), (1, .int x1)] []
  unfold f_X8_bad
  refine MF.aload_n C e_X8_bad_0 0 rfl rfl ?_
  refine MF.getR (j := 74) C cf_X8 l_X8_20 e_X8_bad_1 kF_70_3 ?_
  refine MF.iconst (v := (nI 0)) C e_X8_bad_4 rfl ?_
  refine MF.dup2 C e_X8_bad_5 rfl rfl ?_
  refine MF.iald C e_X8_bad_6 kA_74 (fun v1 => ?_)
  refine MF.iconst (v := (nI 1)) C e_X8_bad_7 rfl ?_
  refine MF.iadd C e_X8_bad_8 ?_
  refine MF.iast C e_X8_bad_9 kA_74 (fun s2 => ?_)
  refine MF.iload_n C e_X8_bad_10 1 rfl rfl ?_
  exact MF.iret C e_X8_bad_11
theorem e_X8_no_0 : Dc cX8_no 0 (.aload_n 0) 1 1 := ⟨by decide +kernel, rfl⟩
theorem e_X8_no_1 : Dc cX8_no 1 (.getfield 20) 3 4 := ⟨by decide +kernel, rfl⟩
theorem e_X8_no_4 : Dc cX8_no 4 (.iconst 1) 1 5 := ⟨by decide +kernel, rfl⟩
theorem e_X8_no_5 : Dc cX8_no 5 (.dup2) 1 6 := ⟨by decide +kernel, rfl⟩
theorem e_X8_no_6 : Dc cX8_no 6 (.iaload) 1 7 := ⟨by decide +kernel, rfl⟩
theorem e_X8_no_7 : Dc cX8_no 7 (.iconst 1) 1 8 := ⟨by decide +kernel, rfl⟩
theorem e_X8_no_8 : Dc cX8_no 8 (.iadd) 1 9 := ⟨by decide +kernel, rfl⟩
theorem e_X8_no_9 : Dc cX8_no 9 (.iastore) 1 10 := ⟨by decide +kernel, rfl⟩
theorem e_X8_no_10 : Dc cX8_no 10 (.bipush (-3)) 2 12 := ⟨by decide +kernel, rfl⟩
theorem e_X8_no_12 : Dc cX8_no 12 (.ireturn) 1 13 := ⟨by decide +kernel, rfl⟩
set_option maxHeartbeats 4000000 in
set_option maxRecDepth 20000 in
theorem R_X8_no (hD : DD E) (s : Sg) : ∀ v τ, (f_X8_no s) = some (v, τ) → RI l E 0 M_X8_no [.ref (ead E 70)] s v τ := by
  refine ofI hD (by decide +kernel) (Nat.le_of_ble_eq_true rfl) (fun X C => ?_)
  show MF l E X (fun q : Int32 × Sg => QI E X q.1 q.2) (f_X8_no s) s 0 [(0, .ref (ead E 70))] []
  unfold f_X8_no
  refine MF.aload_n C e_X8_no_0 0 rfl rfl ?_
  refine MF.getR (j := 74) C cf_X8 l_X8_20 e_X8_no_1 kF_70_3 ?_
  refine MF.iconst (v := (nI 1)) C e_X8_no_4 rfl ?_
  refine MF.dup2 C e_X8_no_5 rfl rfl ?_
  refine MF.iald C e_X8_no_6 kA_74 (fun v1 => ?_)
  refine MF.iconst (v := (nI 1)) C e_X8_no_7 rfl ?_
  refine MF.iadd C e_X8_no_8 ?_
  refine MF.iast C e_X8_no_9 kA_74 (fun s2 => ?_)
  refine MF.bipush (v := (-3 : Int32)) C e_X8_no_10 (by decide) ?_
  exact MF.iret C e_X8_no_12
theorem e_X8_full_0 : Dc cX8_full 0 (.aload_n 0) 1 1 := ⟨by decide +kernel, rfl⟩
theorem e_X8_full_1 : Dc cX8_full 1 (.getfield 20) 3 4 := ⟨by decide +kernel, rfl⟩
theorem e_X8_full_4 : Dc cX8_full 4 (.iconst 2) 1 5 := ⟨by decide +kernel, rfl⟩
theorem e_X8_full_5 : Dc cX8_full 5 (.dup2) 1 6 := ⟨by decide +kernel, rfl⟩
theorem e_X8_full_6 : Dc cX8_full 6 (.iaload) 1 7 := ⟨by decide +kernel, rfl⟩
theorem e_X8_full_7 : Dc cX8_full 7 (.iconst 1) 1 8 := ⟨by decide +kernel, rfl⟩
theorem e_X8_full_8 : Dc cX8_full 8 (.iadd) 1 9 := ⟨by decide +kernel, rfl⟩
theorem e_X8_full_9 : Dc cX8_full 9 (.iastore) 1 10 := ⟨by decide +kernel, rfl⟩
theorem e_X8_full_10 : Dc cX8_full 10 (.bipush (-4)) 2 12 := ⟨by decide +kernel, rfl⟩
theorem e_X8_full_12 : Dc cX8_full 12 (.ireturn) 1 13 := ⟨by decide +kernel, rfl⟩
set_option maxHeartbeats 4000000 in
set_option maxRecDepth 20000 in
theorem R_X8_full (hD : DD E) (s : Sg) : ∀ v τ, (f_X8_full s) = some (v, τ) → RI l E 0 M_X8_full [.ref (ead E 70)] s v τ := by
  refine ofI hD (by decide +kernel) (Nat.le_of_ble_eq_true rfl) (fun X C => ?_)
  show MF l E X (fun q : Int32 × Sg => QI E X q.1 q.2) (f_X8_full s) s 0 [(0, .ref (ead E 70))] []
  unfold f_X8_full
  refine MF.aload_n C e_X8_full_0 0 rfl rfl ?_
  refine MF.getR (j := 74) C cf_X8 l_X8_20 e_X8_full_1 kF_70_3 ?_
  refine MF.iconst (v := (nI 2)) C e_X8_full_4 rfl ?_
  refine MF.dup2 C e_X8_full_5 rfl rfl ?_
  refine MF.iald C e_X8_full_6 kA_74 (fun v1 => ?_)
  refine MF.iconst (v := (nI 1)) C e_X8_full_7 rfl ?_
  refine MF.iadd C e_X8_full_8 ?_
  refine MF.iast C e_X8_full_9 kA_74 (fun s2 => ?_)
  refine MF.bipush (v := (-4 : Int32)) C e_X8_full_10 (by decide) ?_
  exact MF.iret C e_X8_full_12
theorem e_X8_bits_0 : Dc cX8_bits 0 (.iconst 0) 1 1 := ⟨by decide +kernel, rfl⟩
theorem e_X8_bits_1 : Dc cX8_bits 1 (.istore_n 1) 1 2 := ⟨by decide +kernel, rfl⟩
theorem e_X8_bits_2 : Dc cX8_bits 2 (.iload_n 0) 1 3 := ⟨by decide +kernel, rfl⟩
theorem e_X8_bits_3 : Dc cX8_bits 3 (.istore_n 2) 1 4 := ⟨by decide +kernel, rfl⟩
theorem e_X8_bits_4 : Dc cX8_bits 4 (.iload_n 2) 1 5 := ⟨by decide +kernel, rfl⟩
theorem e_X8_bits_5 : Dc cX8_bits 5 (.ifCond .le 16) 3 8 := ⟨by decide +kernel, rfl⟩
theorem e_X8_bits_8 : Dc cX8_bits 8 (.iload_n 1) 1 9 := ⟨by decide +kernel, rfl⟩
theorem e_X8_bits_9 : Dc cX8_bits 9 (.iload_n 2) 1 10 := ⟨by decide +kernel, rfl⟩
theorem e_X8_bits_10 : Dc cX8_bits 10 (.iconst 1) 1 11 := ⟨by decide +kernel, rfl⟩
theorem e_X8_bits_11 : Dc cX8_bits 11 (.iand) 1 12 := ⟨by decide +kernel, rfl⟩
theorem e_X8_bits_12 : Dc cX8_bits 12 (.iadd) 1 13 := ⟨by decide +kernel, rfl⟩
theorem e_X8_bits_13 : Dc cX8_bits 13 (.istore_n 1) 1 14 := ⟨by decide +kernel, rfl⟩
theorem e_X8_bits_14 : Dc cX8_bits 14 (.iload_n 2) 1 15 := ⟨by decide +kernel, rfl⟩
theorem e_X8_bits_15 : Dc cX8_bits 15 (.iconst 1) 1 16 := ⟨by decide +kernel, rfl⟩
theorem e_X8_bits_16 : Dc cX8_bits 16 (.ishr) 1 17 := ⟨by decide +kernel, rfl⟩
theorem e_X8_bits_17 : Dc cX8_bits 17 (.istore_n 2) 1 18 := ⟨by decide +kernel, rfl⟩
theorem e_X8_bits_18 : Dc cX8_bits 18 (.goto (-14)) 3 21 := ⟨by decide +kernel, rfl⟩
theorem e_X8_bits_21 : Dc cX8_bits 21 (.iload_n 1) 1 22 := ⟨by decide +kernel, rfl⟩
theorem e_X8_bits_22 : Dc cX8_bits 22 (.ireturn) 1 23 := ⟨by decide +kernel, rfl⟩
set_option maxHeartbeats 4000000 in
set_option maxRecDepth 20000 in
theorem R_X8_bits (hD : DD E) (x0 : Int32) (s : Sg) : ∀ v, (f_X8_bits x0 s) = some v → RI l E 0 M_X8_bits [.int x0] s v s := by
  refine ofP hD (by decide +kernel) (Nat.le_of_ble_eq_true rfl) (fun X C => ?_)
  show MF l E X (fun q : Int32 => QI E X q s) (f_X8_bits x0 s) s 0 [(0, .int x0)] []
  unfold f_X8_bits
  refine MF.iconst (v := (nI 0)) C e_X8_bits_0 rfl ?_
  refine MF.istore_n (lv' := [(0, .int x0), (1, .int (nI 0))]) C e_X8_bits_1 (by decide) rfl ?_
  refine MF.iload_n C e_X8_bits_2 0 rfl rfl ?_
  refine MF.istore_n (lv' := [(0, .int x0), (1, .int (nI 0)), (2, .int x0)]) C e_X8_bits_3 (by decide) rfl ?_
  refine MF.sub [1, 2] rfl ?_
  refine MF.loop2 (fun i1 i2 => s) (fun i1 i2 => [(1, .int i1), (2, .int i2)]) (fun self3 hself3 i1 i2 => ?_) fu (nI 0) x0
  unfold b_X8_bits_4
  refine MF.iload_n C e_X8_bits_4 1 rfl rfl ?_
  refine MF.if_le (tgt := 21) C e_X8_bits_5 (by decide) (fun _ => ?_) (fun _ => ?_)
  · refine MF.iload_n C e_X8_bits_21 0 rfl rfl ?_
    exact MF.iretp C e_X8_bits_22
  · refine MF.iload_n C e_X8_bits_8 0 rfl rfl ?_
    refine MF.iload_n C e_X8_bits_9 1 rfl rfl ?_
    refine MF.iconst (v := (nI 1)) C e_X8_bits_10 rfl ?_
    refine MF.iand C e_X8_bits_11 ?_
    refine MF.iadd C e_X8_bits_12 ?_
    refine MF.nmI (fun v4 => ?_)
    refine MF.istore_n (lv' := [(1, .int v4), (2, .int i2)]) C e_X8_bits_13 (by decide) rfl ?_
    refine MF.iload_n C e_X8_bits_14 1 rfl rfl ?_
    refine MF.iconst (v := (nI 1)) C e_X8_bits_15 rfl ?_
    refine MF.ishr C e_X8_bits_16 ?_
    refine MF.nmI (fun v5 => ?_)
    refine MF.istore_n (lv' := [(1, .int v4), (2, .int v5)]) C e_X8_bits_17 (by decide) rfl ?_
    refine MF.goto (tgt := 4) C e_X8_bits_18 (by decide) ?_
    exact hself3 v4 v5
theorem e_X8_begin_0 : Dc cX8_begin 0 (.iconst 0) 1 1 := ⟨by decide +kernel, rfl⟩
theorem e_X8_begin_1 : Dc cX8_begin 1 (.istore_n 2) 1 2 := ⟨by decide +kernel, rfl⟩
theorem e_X8_begin_2 : Dc cX8_begin 2 (.iload_n 2) 1 3 := ⟨by decide +kernel, rfl⟩
theorem e_X8_begin_3 : Dc cX8_begin 3 (.bipush 115) 2 5 := ⟨by decide +kernel, rfl⟩
theorem e_X8_begin_5 : Dc cX8_begin 5 (.if_icmp .ge 13) 3 8 := ⟨by decide +kernel, rfl⟩
theorem e_X8_begin_8 : Dc cX8_begin 8 (.aload_n 0) 1 9 := ⟨by decide +kernel, rfl⟩
theorem e_X8_begin_9 : Dc cX8_begin 9 (.iload_n 2) 1 10 := ⟨by decide +kernel, rfl⟩
theorem e_X8_begin_10 : Dc cX8_begin 10 (.iconst 0) 1 11 := ⟨by decide +kernel, rfl⟩
theorem e_X8_begin_11 : Dc cX8_begin 11 (.iastore) 1 12 := ⟨by decide +kernel, rfl⟩
theorem e_X8_begin_12 : Dc cX8_begin 12 (.iinc 2 1) 3 15 := ⟨by decide +kernel, rfl⟩
theorem e_X8_begin_15 : Dc cX8_begin 15 (.goto (-13)) 3 18 := ⟨by decide +kernel, rfl⟩
theorem e_X8_begin_18 : Dc cX8_begin 18 (.aload_n 0) 1 19 := ⟨by decide +kernel, rfl⟩
theorem e_X8_begin_19 : Dc cX8_begin 19 (.iconst 2) 1 20 := ⟨by decide +kernel, rfl⟩
theorem e_X8_begin_20 : Dc cX8_begin 20 (.iload_n 1) 1 21 := ⟨by decide +kernel, rfl⟩
theorem e_X8_begin_21 : Dc cX8_begin 21 (.iastore) 1 22 := ⟨by decide +kernel, rfl⟩
theorem e_X8_begin_22 : Dc cX8_begin 22 (.return_) 1 23 := ⟨by decide +kernel, rfl⟩
set_option maxHeartbeats 4000000 in
set_option maxRecDepth 20000 in
theorem R_X8_begin (hD : DD E) (c0 : Nat) (x1 : Int32) (hc0 : iA c0) (s : Sg) : ∀ τ, (f_X8_begin c0 x1 s) = some τ → RV l E 0 M_X8_begin [.ref (ead E c0), .int x1] s τ := by
  refine ofU hD (by decide +kernel) (Nat.le_of_ble_eq_true rfl) (fun X C => ?_)
  show MF l E X (fun q : Sg => QV E X q) (f_X8_begin c0 x1 s) s 0 [(0, .ref (ead E c0)), (1, .int x1)] []
  unfold f_X8_begin
  refine MF.iconst (v := (nI 0)) C e_X8_begin_0 rfl ?_
  refine MF.istore_n (lv' := [(0, .ref (ead E c0)), (1, .int x1), (2, .int (nI 0))]) C e_X8_begin_1 (by decide) rfl ?_
  refine MF.loop2 (fun i1 s2 => s2) (fun i1 s2 => [(0, .ref (ead E c0)), (1, .int x1), (2, .int i1)]) (fun self3 hself3 i1 s2 => ?_) fu (nI 0) s
  unfold b_X8_begin_2
  refine MF.iload_n C e_X8_begin_2 2 rfl rfl ?_
  refine MF.bipush (v := (nI 115)) C e_X8_begin_3 (by decide) ?_
  refine MF.icmp_ge (tgt := 18) C e_X8_begin_5 (by decide) (fun _ => ?_) (fun _ => ?_)
  · refine MF.aload_n C e_X8_begin_18 0 rfl rfl ?_
    refine MF.iconst (v := (nI 2)) C e_X8_begin_19 rfl ?_
    refine MF.iload_n C e_X8_begin_20 1 rfl rfl ?_
    refine MF.iast C e_X8_begin_21 hc0 (fun s4 => ?_)
    exact MF.vret C e_X8_begin_22
  · refine MF.aload_n C e_X8_begin_8 0 rfl rfl ?_
    refine MF.iload_n C e_X8_begin_9 2 rfl rfl ?_
    refine MF.iconst (v := (nI 0)) C e_X8_begin_10 rfl ?_
    refine MF.iast C e_X8_begin_11 hc0 (fun s5 => ?_)
    refine MF.iinc (v := (nI 1)) (lv' := [(0, .ref (ead E c0)), (1, .int x1), (2, .int (i1 + (nI 1)))]) C e_X8_begin_12 2 rfl rfl (by decide) rfl ?_
    refine MF.goto (tgt := 2) C e_X8_begin_15 (by decide) ?_
    exact hself3 (i1 + (nI 1)) s5
theorem e_X8_streets_0 : Dc cX8_streets 0 (.aload_n 0) 1 1 := ⟨by decide +kernel, rfl⟩
theorem e_X8_streets_1 : Dc cX8_streets 1 (.getfield 7) 3 4 := ⟨by decide +kernel, rfl⟩
theorem e_X8_streets_4 : Dc cX8_streets 4 (.iconst 0) 1 5 := ⟨by decide +kernel, rfl⟩
theorem e_X8_streets_5 : Dc cX8_streets 5 (.iaload) 1 6 := ⟨by decide +kernel, rfl⟩
theorem e_X8_streets_6 : Dc cX8_streets 6 (.ireturn) 1 7 := ⟨by decide +kernel, rfl⟩
set_option maxHeartbeats 4000000 in
set_option maxRecDepth 20000 in
theorem R_X8_streets (hD : DD E) (s : Sg) : ∀ v, (f_X8_streets s) = some v → RI l E 0 M_X8_streets [.ref (ead E 70)] s v s := by
  refine ofP hD (by decide +kernel) (Nat.le_of_ble_eq_true rfl) (fun X C => ?_)
  show MF l E X (fun q : Int32 => QI E X q s) (f_X8_streets s) s 0 [(0, .ref (ead E 70))] []
  unfold f_X8_streets
  refine MF.aload_n C e_X8_streets_0 0 rfl rfl ?_
  refine MF.getR (j := 71) C cf_X8 l_X8_7 e_X8_streets_1 kF_70_0 ?_
  refine MF.iconst (v := (nI 0)) C e_X8_streets_4 rfl ?_
  refine MF.iald C e_X8_streets_5 kA_71 (fun v1 => ?_)
  exact MF.iretp C e_X8_streets_6
theorem e_X8_events_0 : Dc cX8_events 0 (.aload_n 0) 1 1 := ⟨by decide +kernel, rfl⟩
theorem e_X8_events_1 : Dc cX8_events 1 (.getfield 7) 3 4 := ⟨by decide +kernel, rfl⟩
theorem e_X8_events_4 : Dc cX8_events 4 (.iconst 1) 1 5 := ⟨by decide +kernel, rfl⟩
theorem e_X8_events_5 : Dc cX8_events 5 (.iaload) 1 6 := ⟨by decide +kernel, rfl⟩
theorem e_X8_events_6 : Dc cX8_events 6 (.ireturn) 1 7 := ⟨by decide +kernel, rfl⟩
set_option maxHeartbeats 4000000 in
set_option maxRecDepth 20000 in
theorem R_X8_events (hD : DD E) (s : Sg) : ∀ v, (f_X8_events s) = some v → RI l E 0 M_X8_events [.ref (ead E 70)] s v s := by
  refine ofP hD (by decide +kernel) (Nat.le_of_ble_eq_true rfl) (fun X C => ?_)
  show MF l E X (fun q : Int32 => QI E X q s) (f_X8_events s) s 0 [(0, .ref (ead E 70))] []
  unfold f_X8_events
  refine MF.aload_n C e_X8_events_0 0 rfl rfl ?_
  refine MF.getR (j := 71) C cf_X8 l_X8_7 e_X8_events_1 kF_70_0 ?_
  refine MF.iconst (v := (nI 1)) C e_X8_events_4 rfl ?_
  refine MF.iald C e_X8_events_5 kA_71 (fun v1 => ?_)
  exact MF.iretp C e_X8_events_6
theorem e_X8_isStreet_0 : Dc cX8_isStreet 0 (.iload_n 1) 1 1 := ⟨by decide +kernel, rfl⟩
theorem e_X8_isStreet_1 : Dc cX8_isStreet 1 (.i2l) 1 2 := ⟨by decide +kernel, rfl⟩
theorem e_X8_isStreet_2 : Dc cX8_isStreet 2 (.lconst 0) 1 3 := ⟨by decide +kernel, rfl⟩
theorem e_X8_isStreet_3 : Dc cX8_isStreet 3 (.aload_n 0) 1 4 := ⟨by decide +kernel, rfl⟩
theorem e_X8_isStreet_4 : Dc cX8_isStreet 4 (.invokevirtual 71) 3 7 := ⟨by decide +kernel, rfl⟩
theorem e_X8_isStreet_7 : Dc cX8_isStreet 7 (.iconst 1) 1 8 := ⟨by decide +kernel, rfl⟩
theorem e_X8_isStreet_8 : Dc cX8_isStreet 8 (.isub) 1 9 := ⟨by decide +kernel, rfl⟩
theorem e_X8_isStreet_9 : Dc cX8_isStreet 9 (.i2l) 1 10 := ⟨by decide +kernel, rfl⟩
theorem e_X8_isStreet_10 : Dc cX8_isStreet 10 (.invokestatic 75) 3 13 := ⟨by decide +kernel, rfl⟩
theorem e_X8_isStreet_13 : Dc cX8_isStreet 13 (.ireturn) 1 14 := ⟨by decide +kernel, rfl⟩
set_option maxHeartbeats 4000000 in
set_option maxRecDepth 20000 in
theorem R_X8_isStreet (hD : DD E) (x1 : Int32) (s : Sg) : ∀ v, (f_X8_isStreet x1 s) = some v → RI l E 1 M_X8_isStreet [.ref (ead E 70), .int x1] s v s := by
  refine ofP hD (by decide +kernel) (Nat.le_of_ble_eq_true rfl) (fun X C => ?_)
  show MF l E X (fun q : Int32 => QI E X q s) (f_X8_isStreet x1 s) s 0 [(0, .ref (ead E 70)), (1, .int x1)] []
  unfold f_X8_isStreet
  refine MF.iload_n C e_X8_isStreet_0 1 rfl rfl ?_
  refine MF.i2l C e_X8_isStreet_1 ?_
  refine MF.lconst (v := (0 : Int64)) C e_X8_isStreet_2 (by decide) ?_
  refine MF.aload_n C e_X8_isStreet_3 0 rfl rfl ?_
  refine MF.callVP (As := []) C (R_X8_streets hD s) m_X8_streets k_X8_71 kO_70 rfl (by decide) e_X8_isStreet_4 rfl rfl (Nat.le_of_ble_eq_true rfl) (fun v1 => ?_)
  refine MF.iconst (v := (nI 1)) C e_X8_isStreet_7 rfl ?_
  refine MF.isub C e_X8_isStreet_8 ?_
  refine MF.i2l C e_X8_isStreet_9 ?_
  refine MF.callSP (As := [.long (Int32.toInt64 x1), .long (0 : Int64), .long (Int32.toInt64 (v1 - (nI 1)))]) C (R_X8_in hD (Int32.toInt64 x1) (0 : Int64) (Int32.toInt64 (v1 - (nI 1))) s) m_X8_in k_X8_75 (by decide) e_X8_isStreet_10 rfl rfl (Nat.le_of_ble_eq_true rfl) (fun v2 => ?_)
  exact MF.nretp C e_X8_isStreet_13 rfl
theorem e_X8_isEvent_0 : Dc cX8_isEvent 0 (.iload_n 1) 1 1 := ⟨by decide +kernel, rfl⟩
theorem e_X8_isEvent_1 : Dc cX8_isEvent 1 (.i2l) 1 2 := ⟨by decide +kernel, rfl⟩
theorem e_X8_isEvent_2 : Dc cX8_isEvent 2 (.lconst 0) 1 3 := ⟨by decide +kernel, rfl⟩
theorem e_X8_isEvent_3 : Dc cX8_isEvent 3 (.aload_n 0) 1 4 := ⟨by decide +kernel, rfl⟩
theorem e_X8_isEvent_4 : Dc cX8_isEvent 4 (.invokevirtual 79) 3 7 := ⟨by decide +kernel, rfl⟩
theorem e_X8_isEvent_7 : Dc cX8_isEvent 7 (.iconst 1) 1 8 := ⟨by decide +kernel, rfl⟩
theorem e_X8_isEvent_8 : Dc cX8_isEvent 8 (.isub) 1 9 := ⟨by decide +kernel, rfl⟩
theorem e_X8_isEvent_9 : Dc cX8_isEvent 9 (.i2l) 1 10 := ⟨by decide +kernel, rfl⟩
theorem e_X8_isEvent_10 : Dc cX8_isEvent 10 (.invokestatic 75) 3 13 := ⟨by decide +kernel, rfl⟩
theorem e_X8_isEvent_13 : Dc cX8_isEvent 13 (.ireturn) 1 14 := ⟨by decide +kernel, rfl⟩
set_option maxHeartbeats 4000000 in
set_option maxRecDepth 20000 in
theorem R_X8_isEvent (hD : DD E) (x1 : Int32) (s : Sg) : ∀ v, (f_X8_isEvent x1 s) = some v → RI l E 1 M_X8_isEvent [.ref (ead E 70), .int x1] s v s := by
  refine ofP hD (by decide +kernel) (Nat.le_of_ble_eq_true rfl) (fun X C => ?_)
  show MF l E X (fun q : Int32 => QI E X q s) (f_X8_isEvent x1 s) s 0 [(0, .ref (ead E 70)), (1, .int x1)] []
  unfold f_X8_isEvent
  refine MF.iload_n C e_X8_isEvent_0 1 rfl rfl ?_
  refine MF.i2l C e_X8_isEvent_1 ?_
  refine MF.lconst (v := (0 : Int64)) C e_X8_isEvent_2 (by decide) ?_
  refine MF.aload_n C e_X8_isEvent_3 0 rfl rfl ?_
  refine MF.callVP (As := []) C (R_X8_events hD s) m_X8_events k_X8_79 kO_70 rfl (by decide) e_X8_isEvent_4 rfl rfl (Nat.le_of_ble_eq_true rfl) (fun v1 => ?_)
  refine MF.iconst (v := (nI 1)) C e_X8_isEvent_7 rfl ?_
  refine MF.isub C e_X8_isEvent_8 ?_
  refine MF.i2l C e_X8_isEvent_9 ?_
  refine MF.callSP (As := [.long (Int32.toInt64 x1), .long (0 : Int64), .long (Int32.toInt64 (v1 - (nI 1)))]) C (R_X8_in hD (Int32.toInt64 x1) (0 : Int64) (Int32.toInt64 (v1 - (nI 1))) s) m_X8_in k_X8_75 (by decide) e_X8_isEvent_10 rfl rfl (Nat.le_of_ble_eq_true rfl) (fun v2 => ?_)
  exact MF.nretp C e_X8_isEvent_13 rfl
theorem e_X8_isHour_0 : Dc cX8_isHour 0 (.iload_n 0) 1 1 := ⟨by decide +kernel, rfl⟩
theorem e_X8_isHour_1 : Dc cX8_isHour 1 (.i2l) 1 2 := ⟨by decide +kernel, rfl⟩
theorem e_X8_isHour_2 : Dc cX8_isHour 2 (.lconst 0) 1 3 := ⟨by decide +kernel, rfl⟩
theorem e_X8_isHour_3 : Dc cX8_isHour 3 (.ldc2_w 82) 3 6 := ⟨by decide +kernel, rfl⟩
theorem e_X8_isHour_6 : Dc cX8_isHour 6 (.invokestatic 75) 3 9 := ⟨by decide +kernel, rfl⟩
theorem e_X8_isHour_9 : Dc cX8_isHour 9 (.ireturn) 1 10 := ⟨by decide +kernel, rfl⟩
set_option maxHeartbeats 4000000 in
set_option maxRecDepth 20000 in
theorem R_X8_isHour (hD : DD E) (x0 : Int32) (s : Sg) : ∀ v, (f_X8_isHour x0 s) = some v → RI l E 1 M_X8_isHour [.int x0] s v s := by
  refine ofP hD (by decide +kernel) (Nat.le_of_ble_eq_true rfl) (fun X C => ?_)
  show MF l E X (fun q : Int32 => QI E X q s) (f_X8_isHour x0 s) s 0 [(0, .int x0)] []
  unfold f_X8_isHour
  refine MF.iload_n C e_X8_isHour_0 0 rfl rfl ?_
  refine MF.i2l C e_X8_isHour_1 ?_
  refine MF.lconst (v := (0 : Int64)) C e_X8_isHour_2 (by decide) ?_
  refine MF.ldc2 C e_X8_isHour_3 t_X8_82 ?_
  refine MF.callSP (As := [.long (Int32.toInt64 x0), .long (0 : Int64), .long (23 : Int64)]) C (R_X8_in hD (Int32.toInt64 x0) (0 : Int64) (23 : Int64) s) m_X8_in k_X8_75 (by decide) e_X8_isHour_6 rfl rfl (Nat.le_of_ble_eq_true rfl) (fun v1 => ?_)
  exact MF.nretp C e_X8_isHour_9 rfl
theorem e_X8_isWord_0 : Dc cX8_isWord 0 (.iload_n 0) 1 1 := ⟨by decide +kernel, rfl⟩
theorem e_X8_isWord_1 : Dc cX8_isWord 1 (.i2l) 1 2 := ⟨by decide +kernel, rfl⟩
theorem e_X8_isWord_2 : Dc cX8_isWord 2 (.lconst 0) 1 3 := ⟨by decide +kernel, rfl⟩
theorem e_X8_isWord_3 : Dc cX8_isWord 3 (.ldc2_w 84) 3 6 := ⟨by decide +kernel, rfl⟩
theorem e_X8_isWord_6 : Dc cX8_isWord 6 (.invokestatic 75) 3 9 := ⟨by decide +kernel, rfl⟩
theorem e_X8_isWord_9 : Dc cX8_isWord 9 (.ireturn) 1 10 := ⟨by decide +kernel, rfl⟩
set_option maxHeartbeats 4000000 in
set_option maxRecDepth 20000 in
theorem R_X8_isWord (hD : DD E) (x0 : Int32) (s : Sg) : ∀ v, (f_X8_isWord x0 s) = some v → RI l E 1 M_X8_isWord [.int x0] s v s := by
  refine ofP hD (by decide +kernel) (Nat.le_of_ble_eq_true rfl) (fun X C => ?_)
  show MF l E X (fun q : Int32 => QI E X q s) (f_X8_isWord x0 s) s 0 [(0, .int x0)] []
  unfold f_X8_isWord
  refine MF.iload_n C e_X8_isWord_0 0 rfl rfl ?_
  refine MF.i2l C e_X8_isWord_1 ?_
  refine MF.lconst (v := (0 : Int64)) C e_X8_isWord_2 (by decide) ?_
  refine MF.ldc2 C e_X8_isWord_3 t_X8_84 ?_
  refine MF.callSP (As := [.long (Int32.toInt64 x0), .long (0 : Int64), .long (15 : Int64)]) C (R_X8_in hD (Int32.toInt64 x0) (0 : Int64) (15 : Int64) s) m_X8_in k_X8_75 (by decide) e_X8_isWord_6 rfl rfl (Nat.le_of_ble_eq_true rfl) (fun v1 => ?_)
  exact MF.nretp C e_X8_isWord_9 rfl
theorem e_X8_areStreets_0 : Dc cX8_areStreets 0 (.iload_n 1) 1 1 := ⟨by decide +kernel, rfl⟩
theorem e_X8_areStreets_1 : Dc cX8_areStreets 1 (.i2l) 1 2 := ⟨by decide +kernel, rfl⟩
theorem e_X8_areStreets_2 : Dc cX8_areStreets 2 (.lconst 0) 1 3 := ⟨by decide +kernel, rfl⟩
theorem e_X8_areStreets_3 : Dc cX8_areStreets 3 (.iconst 1) 1 4 := ⟨by decide +kernel, rfl⟩
theorem e_X8_areStreets_4 : Dc cX8_areStreets 4 (.aload_n 0) 1 5 := ⟨by decide +kernel, rfl⟩
theorem e_X8_areStreets_5 : Dc cX8_areStreets 5 (.invokevirtual 71) 3 8 := ⟨by decide +kernel, rfl⟩
theorem e_X8_areStreets_8 : Dc cX8_areStreets 8 (.ishl) 1 9 := ⟨by decide +kernel, rfl⟩
theorem e_X8_areStreets_9 : Dc cX8_areStreets 9 (.iconst 1) 1 10 := ⟨by decide +kernel, rfl⟩
theorem e_X8_areStreets_10 : Dc cX8_areStreets 10 (.isub) 1 11 := ⟨by decide +kernel, rfl⟩
theorem e_X8_areStreets_11 : Dc cX8_areStreets 11 (.i2l) 1 12 := ⟨by decide +kernel, rfl⟩
theorem e_X8_areStreets_12 : Dc cX8_areStreets 12 (.invokestatic 75) 3 15 := ⟨by decide +kernel, rfl⟩
theorem e_X8_areStreets_15 : Dc cX8_areStreets 15 (.ireturn) 1 16 := ⟨by decide +kernel, rfl⟩
set_option maxHeartbeats 4000000 in
set_option maxRecDepth 20000 in
theorem R_X8_areStreets (hD : DD E) (x1 : Int32) (s : Sg) : ∀ v, (f_X8_areStreets x1 s) = some v → RI l E 1 M_X8_areStreets [.ref (ead E 70), .int x1] s v s := by
  refine ofP hD (by decide +kernel) (Nat.le_of_ble_eq_true rfl) (fun X C => ?_)
  show MF l E X (fun q : Int32 => QI E X q s) (f_X8_areStreets x1 s) s 0 [(0, .ref (ead E 70)), (1, .int x1)] []
  unfold f_X8_areStreets
  refine MF.iload_n C e_X8_areStreets_0 1 rfl rfl ?_
  refine MF.i2l C e_X8_areStreets_1 ?_
  refine MF.lconst (v := (0 : Int64)) C e_X8_areStreets_2 (by decide) ?_
  refine MF.iconst (v := (nI 1)) C e_X8_areStreets_3 rfl ?_
  refine MF.aload_n C e_X8_areStreets_4 0 rfl rfl ?_
  refine MF.callVP (As := []) C (R_X8_streets hD s) m_X8_streets k_X8_71 kO_70 rfl (by decide) e_X8_areStreets_5 rfl rfl (Nat.le_of_ble_eq_true rfl) (fun v1 => ?_)
  refine MF.ishl C e_X8_areStreets_8 ?_
  refine MF.iconst (v := (nI 1)) C e_X8_areStreets_9 rfl ?_
  refine MF.isub C e_X8_areStreets_10 ?_
  refine MF.i2l C e_X8_areStreets_11 ?_
  refine MF.callSP (As := [.long (Int32.toInt64 x1), .long (0 : Int64), .long (Int32.toInt64 (((nI 1) <<< (v1 &&& 31)) - (nI 1)))]) C (R_X8_in hD (Int32.toInt64 x1) (0 : Int64) (Int32.toInt64 (((nI 1) <<< (v1 &&& 31)) - (nI 1))) s) m_X8_in k_X8_75 (by decide) e_X8_areStreets_12 rfl rfl (Nat.le_of_ble_eq_true rfl) (fun v2 => ?_)
  exact MF.nretp C e_X8_areStreets_15 rfl
theorem e_X8_has_0 : Dc cX8_has 0 (.aload_n 0) 1 1 := ⟨by decide +kernel, rfl⟩
theorem e_X8_has_1 : Dc cX8_has 1 (.getfield 7) 3 4 := ⟨by decide +kernel, rfl⟩
theorem e_X8_has_4 : Dc cX8_has 4 (.iconst 5) 1 5 := ⟨by decide +kernel, rfl⟩
theorem e_X8_has_5 : Dc cX8_has 5 (.iconst 4) 1 6 := ⟨by decide +kernel, rfl⟩
theorem e_X8_has_6 : Dc cX8_has 6 (.iload_n 1) 1 7 := ⟨by decide +kernel, rfl⟩
theorem e_X8_has_7 : Dc cX8_has 7 (.imul) 1 8 := ⟨by decide +kernel, rfl⟩
theorem e_X8_has_8 : Dc cX8_has 8 (.iadd) 1 9 := ⟨by decide +kernel, rfl⟩
theorem e_X8_has_9 : Dc cX8_has 9 (.iload_n 2) 1 10 := ⟨by decide +kernel, rfl⟩
theorem e_X8_has_10 : Dc cX8_has 10 (.iadd) 1 11 := ⟨by decide +kernel, rfl⟩
theorem e_X8_has_11 : Dc cX8_has 11 (.iaload) 1 12 := ⟨by decide +kernel, rfl⟩
theorem e_X8_has_12 : Dc cX8_has 12 (.ireturn) 1 13 := ⟨by decide +kernel, rfl⟩
set_option maxHeartbeats 4000000 in
set_option maxRecDepth 20000 in
theorem R_X8_has (hD : DD E) (x1 : Int32) (x2 : Int32) (s : Sg) : ∀ v, (f_X8_has x1 x2 s) = some v → RI l E 0 M_X8_has [.ref (ead E 70), .int x1, .int x2] s v s := by
  refine ofP hD (by decide +kernel) (Nat.le_of_ble_eq_true rfl) (fun X C => ?_)
  show MF l E X (fun q : Int32 => QI E X q s) (f_X8_has x1 x2 s) s 0 [(0, .ref (ead E 70)), (1, .int x1), (2, .int x2)] []
  unfold f_X8_has
  refine MF.aload_n C e_X8_has_0 0 rfl rfl ?_
  refine MF.getR (j := 71) C cf_X8 l_X8_7 e_X8_has_1 kF_70_0 ?_
  refine MF.iconst (v := (nI 5)) C e_X8_has_4 rfl ?_
  refine MF.iconst (v := (nI 4)) C e_X8_has_5 rfl ?_
  refine MF.iload_n C e_X8_has_6 1 rfl rfl ?_
  refine MF.imul C e_X8_has_7 ?_
  refine MF.iadd C e_X8_has_8 ?_
  refine MF.iload_n C e_X8_has_9 2 rfl rfl ?_
  refine MF.iadd C e_X8_has_10 ?_
  refine MF.iald C e_X8_has_11 kA_71 (fun v1 => ?_)
  exact MF.iretp C e_X8_has_12
theorem e_X8_told_0 : Dc cX8_told 0 (.aload_n 0) 1 1 := ⟨by decide +kernel, rfl⟩
theorem e_X8_told_1 : Dc cX8_told 1 (.getfield 7) 3 4 := ⟨by decide +kernel, rfl⟩
theorem e_X8_told_4 : Dc cX8_told 4 (.bipush 33) 2 6 := ⟨by decide +kernel, rfl⟩
theorem e_X8_told_6 : Dc cX8_told 6 (.bipush 6) 2 8 := ⟨by decide +kernel, rfl⟩
theorem e_X8_told_8 : Dc cX8_told 8 (.iload_n 1) 1 9 := ⟨by decide +kernel, rfl⟩
theorem e_X8_told_9 : Dc cX8_told 9 (.imul) 1 10 := ⟨by decide +kernel, rfl⟩
theorem e_X8_told_10 : Dc cX8_told 10 (.iadd) 1 11 := ⟨by decide +kernel, rfl⟩
theorem e_X8_told_11 : Dc cX8_told 11 (.iload_n 2) 1 12 := ⟨by decide +kernel, rfl⟩
theorem e_X8_told_12 : Dc cX8_told 12 (.iadd) 1 13 := ⟨by decide +kernel, rfl⟩
theorem e_X8_told_13 : Dc cX8_told 13 (.iaload) 1 14 := ⟨by decide +kernel, rfl⟩
theorem e_X8_told_14 : Dc cX8_told 14 (.ireturn) 1 15 := ⟨by decide +kernel, rfl⟩
set_option maxHeartbeats 4000000 in
set_option maxRecDepth 20000 in
theorem R_X8_told (hD : DD E) (x1 : Int32) (x2 : Int32) (s : Sg) : ∀ v, (f_X8_told x1 x2 s) = some v → RI l E 0 M_X8_told [.ref (ead E 70), .int x1, .int x2] s v s := by
  refine ofP hD (by decide +kernel) (Nat.le_of_ble_eq_true rfl) (fun X C => ?_)
  show MF l E X (fun q : Int32 => QI E X q s) (f_X8_told x1 x2 s) s 0 [(0, .ref (ead E 70)), (1, .int x1), (2, .int x2)] []
  unfold f_X8_told
  refine MF.aload_n C e_X8_told_0 0 rfl rfl ?_
  refine MF.getR (j := 71) C cf_X8 l_X8_7 e_X8_told_1 kF_70_0 ?_
  refine MF.bipush (v := (nI 33)) C e_X8_told_4 (by decide) ?_
  refine MF.bipush (v := (nI 6)) C e_X8_told_6 (by decide) ?_
  refine MF.iload_n C e_X8_told_8 1 rfl rfl ?_
  refine MF.imul C e_X8_told_9 ?_
  refine MF.iadd C e_X8_told_10 ?_
  refine MF.iload_n C e_X8_told_11 2 rfl rfl ?_
  refine MF.iadd C e_X8_told_12 ?_
  refine MF.iald C e_X8_told_13 kA_71 (fun v1 => ?_)
  exact MF.iretp C e_X8_told_14
theorem e_X8_town_0 : Dc cX8_town 0 (.iload_n 1) 1 1 := ⟨by decide +kernel, rfl⟩
theorem e_X8_town_1 : Dc cX8_town 1 (.i2l) 1 2 := ⟨by decide +kernel, rfl⟩
theorem e_X8_town_2 : Dc cX8_town 2 (.lconst 0) 1 3 := ⟨by decide +kernel, rfl⟩
theorem e_X8_town_3 : Dc cX8_town 3 (.ldc2_w 86) 3 6 := ⟨by decide +kernel, rfl⟩
theorem e_X8_town_6 : Dc cX8_town 6 (.invokestatic 75) 3 9 := ⟨by decide +kernel, rfl⟩
theorem e_X8_town_9 : Dc cX8_town 9 (.ifCond .ne 10) 3 12 := ⟨by decide +kernel, rfl⟩
theorem e_X8_town_12 : Dc cX8_town 12 (.aload_n 0) 1 13 := ⟨by decide +kernel, rfl⟩
theorem e_X8_town_13 : Dc cX8_town 13 (.bipush (-2)) 2 15 := ⟨by decide +kernel, rfl⟩
theorem e_X8_town_15 : Dc cX8_town 15 (.invokevirtual 88) 3 18 := ⟨by decide +kernel, rfl⟩
theorem e_X8_town_18 : Dc cX8_town 18 (.ireturn) 1 19 := ⟨by decide +kernel, rfl⟩
theorem e_X8_town_19 : Dc cX8_town 19 (.aload_n 0) 1 20 := ⟨by decide +kernel, rfl⟩
theorem e_X8_town_20 : Dc cX8_town 20 (.invokevirtual 71) 3 23 := ⟨by decide +kernel, rfl⟩
theorem e_X8_town_23 : Dc cX8_town 23 (.istore_n 2) 1 24 := ⟨by decide +kernel, rfl⟩
theorem e_X8_town_24 : Dc cX8_town 24 (.aload_n 0) 1 25 := ⟨by decide +kernel, rfl⟩
theorem e_X8_town_25 : Dc cX8_town 25 (.getfield 7) 3 28 := ⟨by decide +kernel, rfl⟩
theorem e_X8_town_28 : Dc cX8_town 28 (.iload_n 1) 1 29 := ⟨by decide +kernel, rfl⟩
theorem e_X8_town_29 : Dc cX8_town 29 (.invokestatic 92) 3 32 := ⟨by decide +kernel, rfl⟩
theorem e_X8_town_32 : Dc cX8_town 32 (.iload_n 2) 1 33 := ⟨by decide +kernel, rfl⟩
theorem e_X8_town_33 : Dc cX8_town 33 (.ireturn) 1 34 := ⟨by decide +kernel, rfl⟩
set_option maxHeartbeats 4000000 in
set_option maxRecDepth 20000 in
theorem R_X8_town (hD : DD E) (x1 : Int32) (s : Sg) : ∀ v τ, (f_X8_town x1 s) = some (v, τ) → RI l E 1 M_X8_town [.ref (ead E 70), .int x1] s v τ := by
  refine ofI hD (by decide +kernel) (Nat.le_of_ble_eq_true rfl) (fun X C => ?_)
  show MF l E X (fun q : Int32 × Sg => QI E X q.1 q.2) (f_X8_town x1 s) s 0 [(0, .ref (ead E 70)), (1, .int x1)] []
  unfold f_X8_town
  refine MF.iload_n C e_X8_town_0 1 rfl rfl ?_
  refine MF.i2l C e_X8_town_1 ?_
  refine MF.lconst (v := (0 : Int64)) C e_X8_town_2 (by decide) ?_
  refine MF.ldc2 C e_X8_town_3 t_X8_86 ?_
  refine MF.callSP (As := [.long (Int32.toInt64 x1), .long (0 : Int64), .long (2 : Int64)]) C (R_X8_in hD (Int32.toInt64 x1) (0 : Int64) (2 : Int64) s) m_X8_in k_X8_75 (by decide) e_X8_town_6 rfl rfl (Nat.le_of_ble_eq_true rfl) (fun v1 => ?_)
  refine MF.if_ne (tgt := 19) C e_X8_town_9 (by decide) (fun _ => ?_) (fun _ => ?_)
  · refine MF.aload_n C e_X8_town_19 0 rfl rfl ?_
    refine MF.callVP (As := []) C (R_X8_streets hD s) m_X8_streets k_X8_71 kO_70 rfl (by decide) e_X8_town_20 rfl rfl (Nat.le_of_ble_eq_true rfl) (fun v2 => ?_)
    refine MF.istore_n (lv' := [(0, .ref (ead E 70)), (1, .int x1), (2, .int v2)]) C e_X8_town_23 (by decide) rfl ?_
    refine MF.aload_n C e_X8_town_24 0 rfl rfl ?_
    refine MF.getR (j := 71) C cf_X8 l_X8_7 e_X8_town_25 kF_70_0 ?_
    refine MF.iload_n C e_X8_town_28 1 rfl rfl ?_
    refine MF.callSU (As := [.ref (ead E 71), .int x1]) C (R_X8_begin hD 71 x1 kA_71 s) m_X8_begin k_X8_92 (by decide) e_X8_town_29 rfl rfl (Nat.le_of_ble_eq_true rfl) (fun s3 => ?_)
    refine MF.iload_n C e_X8_town_32 2 rfl rfl ?_
    exact MF.iret C e_X8_town_33
  · refine MF.aload_n C e_X8_town_12 0 rfl rfl ?_
    refine MF.bipush (v := (-2 : Int32)) C e_X8_town_13 (by decide) ?_
    refine MF.callVI (As := [.int (-2 : Int32)]) C (R_X8_bad hD (-2 : Int32) s) m_X8_bad k_X8_88 kO_70 rfl (by decide) e_X8_town_15 rfl rfl (Nat.le_of_ble_eq_true rfl) (fun v4 s5 => ?_)
    exact MF.iret C e_X8_town_18
theorem e_X8_layStreet_0 : Dc cX8_layStreet 0 (.iconst 5) 1 1 := ⟨by decide +kernel, rfl⟩
theorem e_X8_layStreet_1 : Dc cX8_layStreet 1 (.iconst 4) 1 2 := ⟨by decide +kernel, rfl⟩
theorem e_X8_layStreet_2 : Dc cX8_layStreet 2 (.aload_n 0) 1 3 := ⟨by decide +kernel, rfl⟩
theorem e_X8_layStreet_3 : Dc cX8_layStreet 3 (.iconst 0) 1 4 := ⟨by decide +kernel, rfl⟩
theorem e_X8_layStreet_4 : Dc cX8_layStreet 4 (.iaload) 1 5 := ⟨by decide +kernel, rfl⟩
theorem e_X8_layStreet_5 : Dc cX8_layStreet 5 (.imul) 1 6 := ⟨by decide +kernel, rfl⟩
theorem e_X8_layStreet_6 : Dc cX8_layStreet 6 (.iadd) 1 7 := ⟨by decide +kernel, rfl⟩
theorem e_X8_layStreet_7 : Dc cX8_layStreet 7 (.istore 5) 2 9 := ⟨by decide +kernel, rfl⟩
theorem e_X8_layStreet_9 : Dc cX8_layStreet 9 (.aload_n 0) 1 10 := ⟨by decide +kernel, rfl⟩
theorem e_X8_layStreet_10 : Dc cX8_layStreet 10 (.iload 5) 2 12 := ⟨by decide +kernel, rfl⟩
theorem e_X8_layStreet_12 : Dc cX8_layStreet 12 (.iconst 0) 1 13 := ⟨by decide +kernel, rfl⟩
theorem e_X8_layStreet_13 : Dc cX8_layStreet 13 (.iadd) 1 14 := ⟨by decide +kernel, rfl⟩
theorem e_X8_layStreet_14 : Dc cX8_layStreet 14 (.iload_n 1) 1 15 := ⟨by decide +kernel, rfl⟩
theorem e_X8_layStreet_15 : Dc cX8_layStreet 15 (.iastore) 1 16 := ⟨by decide +kernel, rfl⟩
theorem e_X8_layStreet_16 : Dc cX8_layStreet 16 (.aload_n 0) 1 17 := ⟨by decide +kernel, rfl⟩
theorem e_X8_layStreet_17 : Dc cX8_layStreet 17 (.iload 5) 2 19 := ⟨by decide +kernel, rfl⟩
theorem e_X8_layStreet_19 : Dc cX8_layStreet 19 (.iconst 1) 1 20 := ⟨by decide +kernel, rfl⟩
theorem e_X8_layStreet_20 : Dc cX8_layStreet 20 (.iadd) 1 21 := ⟨by decide +kernel, rfl⟩
theorem e_X8_layStreet_21 : Dc cX8_layStreet 21 (.iload_n 2) 1 22 := ⟨by decide +kernel, rfl⟩
theorem e_X8_layStreet_22 : Dc cX8_layStreet 22 (.iastore) 1 23 := ⟨by decide +kernel, rfl⟩
theorem e_X8_layStreet_23 : Dc cX8_layStreet 23 (.aload_n 0) 1 24 := ⟨by decide +kernel, rfl⟩
theorem e_X8_layStreet_24 : Dc cX8_layStreet 24 (.iload 5) 2 26 := ⟨by decide +kernel, rfl⟩
theorem e_X8_layStreet_26 : Dc cX8_layStreet 26 (.iconst 2) 1 27 := ⟨by decide +kernel, rfl⟩
theorem e_X8_layStreet_27 : Dc cX8_layStreet 27 (.iadd) 1 28 := ⟨by decide +kernel, rfl⟩
theorem e_X8_layStreet_28 : Dc cX8_layStreet 28 (.iload_n 3) 1 29 := ⟨by decide +kernel, rfl⟩
theorem e_X8_layStreet_29 : Dc cX8_layStreet 29 (.iastore) 1 30 := ⟨by decide +kernel, rfl⟩
theorem e_X8_layStreet_30 : Dc cX8_layStreet 30 (.aload_n 0) 1 31 := ⟨by decide +kernel, rfl⟩
theorem e_X8_layStreet_31 : Dc cX8_layStreet 31 (.iload 5) 2 33 := ⟨by decide +kernel, rfl⟩
theorem e_X8_layStreet_33 : Dc cX8_layStreet 33 (.iconst 3) 1 34 := ⟨by decide +kernel, rfl⟩
theorem e_X8_layStreet_34 : Dc cX8_layStreet 34 (.iadd) 1 35 := ⟨by decide +kernel, rfl⟩
theorem e_X8_layStreet_35 : Dc cX8_layStreet 35 (.iload 4) 2 37 := ⟨by decide +kernel, rfl⟩
theorem e_X8_layStreet_37 : Dc cX8_layStreet 37 (.iastore) 1 38 := ⟨by decide +kernel, rfl⟩
theorem e_X8_layStreet_38 : Dc cX8_layStreet 38 (.aload_n 0) 1 39 := ⟨by decide +kernel, rfl⟩
theorem e_X8_layStreet_39 : Dc cX8_layStreet 39 (.iconst 0) 1 40 := ⟨by decide +kernel, rfl⟩
theorem e_X8_layStreet_40 : Dc cX8_layStreet 40 (.dup2) 1 41 := ⟨by decide +kernel, rfl⟩
theorem e_X8_layStreet_41 : Dc cX8_layStreet 41 (.iaload) 1 42 := ⟨by decide +kernel, rfl⟩
theorem e_X8_layStreet_42 : Dc cX8_layStreet 42 (.iconst 1) 1 43 := ⟨by decide +kernel, rfl⟩
theorem e_X8_layStreet_43 : Dc cX8_layStreet 43 (.iadd) 1 44 := ⟨by decide +kernel, rfl⟩
theorem e_X8_layStreet_44 : Dc cX8_layStreet 44 (.iastore) 1 45 := ⟨by decide +kernel, rfl⟩
theorem e_X8_layStreet_45 : Dc cX8_layStreet 45 (.return_) 1 46 := ⟨by decide +kernel, rfl⟩
set_option maxHeartbeats 4000000 in
set_option maxRecDepth 20000 in
theorem R_X8_layStreet (hD : DD E) (c0 : Nat) (x1 : Int32) (x2 : Int32) (x3 : Int32) (x4 : Int32) (hc0 : iA c0) (s : Sg) : ∀ τ, (f_X8_layStreet c0 x1 x2 x3 x4 s) = some τ → RV l E 0 M_X8_layStreet [.ref (ead E c0), .int x1, .int x2, .int x3, .int x4] s τ := by
  refine ofU hD (by decide +kernel) (Nat.le_of_ble_eq_true rfl) (fun X C => ?_)
  show MF l E X (fun q : Sg => QV E X q) (f_X8_layStreet c0 x1 x2 x3 x4 s) s 0 [(0, .ref (ead E c0)), (1, .int x1), (2, .int x2), (3, .int x3), (4, .int x4)] []
  unfold f_X8_layStreet
  refine MF.iconst (v := (nI 5)) C e_X8_layStreet_0 rfl ?_
  refine MF.iconst (v := (nI 4)) C e_X8_layStreet_1 rfl ?_
  refine MF.aload_n C e_X8_layStreet_2 0 rfl rfl ?_
  refine MF.iconst (v := (nI 0)) C e_X8_layStreet_3 rfl ?_
  refine MF.iald C e_X8_layStreet_4 hc0 (fun v1 => ?_)
  refine MF.imul C e_X8_layStreet_5 ?_
  refine MF.iadd C e_X8_layStreet_6 ?_
  refine MF.nmI (fun v2 => ?_)
  refine MF.istore (lv' := [(0, .ref (ead E c0)), (1, .int x1), (2, .int x2), (3, .int x3), (4, .int x4), (5, .int v2)]) C e_X8_layStreet_7 (by decide) rfl ?_
  refine MF.aload_n C e_X8_layStreet_9 0 rfl rfl ?_
  refine MF.iload C e_X8_layStreet_10 5 rfl ?_
  refine MF.iconst (v := (nI 0)) C e_X8_layStreet_12 rfl ?_
  refine MF.iadd C e_X8_layStreet_13 ?_
  refine MF.iload_n C e_X8_layStreet_14 1 rfl rfl ?_
  refine MF.iast C e_X8_layStreet_15 hc0 (fun s3 => ?_)
  refine MF.aload_n C e_X8_layStreet_16 0 rfl rfl ?_
  refine MF.iload C e_X8_layStreet_17 5 rfl ?_
  refine MF.iconst (v := (nI 1)) C e_X8_layStreet_19 rfl ?_
  refine MF.iadd C e_X8_layStreet_20 ?_
  refine MF.iload_n C e_X8_layStreet_21 2 rfl rfl ?_
  refine MF.iast C e_X8_layStreet_22 hc0 (fun s4 => ?_)
  refine MF.aload_n C e_X8_layStreet_23 0 rfl rfl ?_
  refine MF.iload C e_X8_layStreet_24 5 rfl ?_
  refine MF.iconst (v := (nI 2)) C e_X8_layStreet_26 rfl ?_
  refine MF.iadd C e_X8_layStreet_27 ?_
  refine MF.iload_n C e_X8_layStreet_28 3 rfl rfl ?_
  refine MF.iast C e_X8_layStreet_29 hc0 (fun s5 => ?_)
  refine MF.aload_n C e_X8_layStreet_30 0 rfl rfl ?_
  refine MF.iload C e_X8_layStreet_31 5 rfl ?_
  refine MF.iconst (v := (nI 3)) C e_X8_layStreet_33 rfl ?_
  refine MF.iadd C e_X8_layStreet_34 ?_
  refine MF.iload C e_X8_layStreet_35 4 rfl ?_
  refine MF.iast C e_X8_layStreet_37 hc0 (fun s6 => ?_)
  refine MF.aload_n C e_X8_layStreet_38 0 rfl rfl ?_
  refine MF.iconst (v := (nI 0)) C e_X8_layStreet_39 rfl ?_
  refine MF.dup2 C e_X8_layStreet_40 rfl rfl ?_
  refine MF.iald C e_X8_layStreet_41 hc0 (fun v7 => ?_)
  refine MF.iconst (v := (nI 1)) C e_X8_layStreet_42 rfl ?_
  refine MF.iadd C e_X8_layStreet_43 ?_
  refine MF.iast C e_X8_layStreet_44 hc0 (fun s8 => ?_)
  exact MF.vret C e_X8_layStreet_45
theorem e_X8_street_0 : Dc cX8_street 0 (.iload_n 1) 1 1 := ⟨by decide +kernel, rfl⟩
theorem e_X8_street_1 : Dc cX8_street 1 (.i2l) 1 2 := ⟨by decide +kernel, rfl⟩
theorem e_X8_street_2 : Dc cX8_street 2 (.lconst 0) 1 3 := ⟨by decide +kernel, rfl⟩
theorem e_X8_street_3 : Dc cX8_street 3 (.ldc2_w 96) 3 6 := ⟨by decide +kernel, rfl⟩
theorem e_X8_street_6 : Dc cX8_street 6 (.invokestatic 75) 3 9 := ⟨by decide +kernel, rfl⟩
theorem e_X8_street_9 : Dc cX8_street 9 (.ifCond .eq 40) 3 12 := ⟨by decide +kernel, rfl⟩
theorem e_X8_street_12 : Dc cX8_street 12 (.iload_n 2) 1 13 := ⟨by decide +kernel, rfl⟩
theorem e_X8_street_13 : Dc cX8_street 13 (.i2l) 1 14 := ⟨by decide +kernel, rfl⟩
theorem e_X8_street_14 : Dc cX8_street 14 (.lconst 0) 1 15 := ⟨by decide +kernel, rfl⟩
theorem e_X8_street_15 : Dc cX8_street 15 (.ldc2_w 96) 3 18 := ⟨by decide +kernel, rfl⟩
theorem e_X8_street_18 : Dc cX8_street 18 (.invokestatic 75) 3 21 := ⟨by decide +kernel, rfl⟩
theorem e_X8_street_21 : Dc cX8_street 21 (.ifCond .eq 28) 3 24 := ⟨by decide +kernel, rfl⟩
theorem e_X8_street_24 : Dc cX8_street 24 (.iload_n 1) 1 25 := ⟨by decide +kernel, rfl⟩
theorem e_X8_street_25 : Dc cX8_street 25 (.iload_n 2) 1 26 := ⟨by decide +kernel, rfl⟩
theorem e_X8_street_26 : Dc cX8_street 26 (.if_icmp .eq 23) 3 29 := ⟨by decide +kernel, rfl⟩
theorem e_X8_street_29 : Dc cX8_street 29 (.iload_n 3) 1 30 := ⟨by decide +kernel, rfl⟩
theorem e_X8_street_30 : Dc cX8_street 30 (.i2l) 1 31 := ⟨by decide +kernel, rfl⟩
theorem e_X8_street_31 : Dc cX8_street 31 (.lconst 1) 1 32 := ⟨by decide +kernel, rfl⟩
theorem e_X8_street_32 : Dc cX8_street 32 (.ldc2_w 98) 3 35 := ⟨by decide +kernel, rfl⟩
theorem e_X8_street_35 : Dc cX8_street 35 (.invokestatic 75) 3 38 := ⟨by decide +kernel, rfl⟩
theorem e_X8_street_38 : Dc cX8_street 38 (.ifCond .eq 11) 3 41 := ⟨by decide +kernel, rfl⟩
theorem e_X8_street_41 : Dc cX8_street 41 (.iload 4) 2 43 := ⟨by decide +kernel, rfl⟩
theorem e_X8_street_43 : Dc cX8_street 43 (.invokestatic 100) 3 46 := ⟨by decide +kernel, rfl⟩
theorem e_X8_street_46 : Dc cX8_street 46 (.ifCond .ne 10) 3 49 := ⟨by decide +kernel, rfl⟩
theorem e_X8_street_49 : Dc cX8_street 49 (.aload_n 0) 1 50 := ⟨by decide +kernel, rfl⟩
theorem e_X8_street_50 : Dc cX8_street 50 (.bipush (-2)) 2 52 := ⟨by decide +kernel, rfl⟩
theorem e_X8_street_52 : Dc cX8_street 52 (.invokevirtual 88) 3 55 := ⟨by decide +kernel, rfl⟩
theorem e_X8_street_55 : Dc cX8_street 55 (.ireturn) 1 56 := ⟨by decide +kernel, rfl⟩
theorem e_X8_street_56 : Dc cX8_street 56 (.aload_n 0) 1 57 := ⟨by decide +kernel, rfl⟩
theorem e_X8_street_57 : Dc cX8_street 57 (.invokevirtual 71) 3 60 := ⟨by decide +kernel, rfl⟩
theorem e_X8_street_60 : Dc cX8_street 60 (.bipush 7) 2 62 := ⟨by decide +kernel, rfl⟩
theorem e_X8_street_62 : Dc cX8_street 62 (.if_icmp .ne 8) 3 65 := ⟨by decide +kernel, rfl⟩
theorem e_X8_street_65 : Dc cX8_street 65 (.aload_n 0) 1 66 := ⟨by decide +kernel, rfl⟩
theorem e_X8_street_66 : Dc cX8_street 66 (.invokevirtual 104) 3 69 := ⟨by decide +kernel, rfl⟩
theorem e_X8_street_69 : Dc cX8_street 69 (.ireturn) 1 70 := ⟨by decide +kernel, rfl⟩
theorem e_X8_street_70 : Dc cX8_street 70 (.aload_n 0) 1 71 := ⟨by decide +kernel, rfl⟩
theorem e_X8_street_71 : Dc cX8_street 71 (.getfield 7) 3 74 := ⟨by decide +kernel, rfl⟩
theorem e_X8_street_74 : Dc cX8_street 74 (.iload_n 1) 1 75 := ⟨by decide +kernel, rfl⟩
theorem e_X8_street_75 : Dc cX8_street 75 (.iload_n 2) 1 76 := ⟨by decide +kernel, rfl⟩
theorem e_X8_street_76 : Dc cX8_street 76 (.iload_n 3) 1 77 := ⟨by decide +kernel, rfl⟩
theorem e_X8_street_77 : Dc cX8_street 77 (.iload 4) 2 79 := ⟨by decide +kernel, rfl⟩
theorem e_X8_street_79 : Dc cX8_street 79 (.invokestatic 107) 3 82 := ⟨by decide +kernel, rfl⟩
theorem e_X8_street_82 : Dc cX8_street 82 (.aload_n 0) 1 83 := ⟨by decide +kernel, rfl⟩
theorem e_X8_street_83 : Dc cX8_street 83 (.getfield 7) 3 86 := ⟨by decide +kernel, rfl⟩
theorem e_X8_street_86 : Dc cX8_street 86 (.iconst 4) 1 87 := ⟨by decide +kernel, rfl⟩
theorem e_X8_street_87 : Dc cX8_street 87 (.iconst 0) 1 88 := ⟨by decide +kernel, rfl⟩
theorem e_X8_street_88 : Dc cX8_street 88 (.iastore) 1 89 := ⟨by decide +kernel, rfl⟩
theorem e_X8_street_89 : Dc cX8_street 89 (.aload_n 0) 1 90 := ⟨by decide +kernel, rfl⟩
theorem e_X8_street_90 : Dc cX8_street 90 (.invokevirtual 71) 3 93 := ⟨by decide +kernel, rfl⟩
theorem e_X8_street_93 : Dc cX8_street 93 (.iconst 1) 1 94 := ⟨by decide +kernel, rfl⟩
theorem e_X8_street_94 : Dc cX8_street 94 (.isub) 1 95 := ⟨by decide +kernel, rfl⟩
theorem e_X8_street_95 : Dc cX8_street 95 (.ireturn) 1 96 := ⟨by decide +kernel, rfl⟩
set_option maxHeartbeats 4000000 in
set_option maxRecDepth 20000 in
theorem R_X8_street (hD : DD E) (x1 : Int32) (x2 : Int32) (x3 : Int32) (x4 : Int32) (s : Sg) : ∀ v τ, (f_X8_street x1 x2 x3 x4 s) = some (v, τ) → RI l E 2 M_X8_street [.ref (ead E 70), .int x1, .int x2, .int x3, .int x4] s v τ := by
  refine ofI hD (by decide +kernel) (Nat.le_of_ble_eq_true rfl) (fun X C => ?_)
  show MF l E X (fun q : Int32 × Sg => QI E X q.1 q.2) (f_X8_street x1 x2 x3 x4 s) s 0 [(0, .ref (ead E 70)), (1, .int x1), (2, .int x2), (3, .int x3), (4, .int x4)] []
  unfold f_X8_street
  refine MF.iload_n C e_X8_street_0 1 rfl rfl ?_
  refine MF.i2l C e_X8_street_1 ?_
  refine MF.lconst (v := (0 : Int64)) C e_X8_street_2 (by decide) ?_
  refine MF.ldc2 C e_X8_street_3 t_X8_96 ?_
  refine MF.callSP (As := [.long (Int32.toInt64 x1), .long (0 : Int64), .long (7 : Int64)]) C (R_X8_in hD (Int32.toInt64 x1) (0 : Int64) (7 : Int64) s) m_X8_in k_X8_75 (by decide) e_X8_street_6 rfl rfl (Nat.le_of_ble_eq_true rfl) (fun v1 => ?_)
  refine MF.if_eq (tgt := 49) C e_X8_street_9 (by decide) (fun _ => ?_) (fun _ => ?_)
  · refine MF.aload_n C e_X8_street_49 0 rfl rfl ?_
    refine MF.bipush (v := (-2 : Int32)) C e_X8_street_50 (by decide) ?_
    refine MF.callVI (As := [.int (-2 : Int32)]) C (R_X8_bad hD (-2 : Int32) s) m_X8_bad k_X8_88 kO_70 rfl (by decide) e_X8_street_52 rfl rfl (Nat.le_of_ble_eq_true rfl) (fun v2 s3 => ?_)
    exact MF.iret C e_X8_street_55
  · refine MF.iload_n C e_X8_street_12 2 rfl rfl ?_
    refine MF.i2l C e_X8_street_13 ?_
    refine MF.lconst (v := (0 : Int64)) C e_X8_street_14 (by decide) ?_
    refine MF.ldc2 C e_X8_street_15 t_X8_96 ?_
    refine MF.callSP (As := [.long (Int32.toInt64 x2), .long (0 : Int64), .long (7 : Int64)]) C (R_X8_in hD (Int32.toInt64 x2) (0 : Int64) (7 : Int64) s) m_X8_in k_X8_75 (by decide) e_X8_street_18 rfl rfl (Nat.le_of_ble_eq_true rfl) (fun v4 => ?_)
    refine MF.if_eq (tgt := 49) C e_X8_street_21 (by decide) (fun _ => ?_) (fun _ => ?_)
    · refine MF.aload_n C e_X8_street_49 0 rfl rfl ?_
      refine MF.bipush (v := (-2 : Int32)) C e_X8_street_50 (by decide) ?_
      refine MF.callVI (As := [.int (-2 : Int32)]) C (R_X8_bad hD (-2 : Int32) s) m_X8_bad k_X8_88 kO_70 rfl (by decide) e_X8_street_52 rfl rfl (Nat.le_of_ble_eq_true rfl) (fun v5 s6 => ?_)
      exact MF.iret C e_X8_street_55
    · refine MF.iload_n C e_X8_street_24 1 rfl rfl ?_
      refine MF.iload_n C e_X8_street_25 2 rfl rfl ?_
      refine MF.icmp_eq (tgt := 49) C e_X8_street_26 (by decide) (fun _ => ?_) (fun _ => ?_)
      · refine MF.aload_n C e_X8_street_49 0 rfl rfl ?_
        refine MF.bipush (v := (-2 : Int32)) C e_X8_street_50 (by decide) ?_
        refine MF.callVI (As := [.int (-2 : Int32)]) C (R_X8_bad hD (-2 : Int32) s) m_X8_bad k_X8_88 kO_70 rfl (by decide) e_X8_street_52 rfl rfl (Nat.le_of_ble_eq_true rfl) (fun v7 s8 => ?_)
        exact MF.iret C e_X8_street_55
      · refine MF.iload_n C e_X8_street_29 3 rfl rfl ?_
        refine MF.i2l C e_X8_street_30 ?_
        refine MF.lconst (v := (1 : Int64)) C e_X8_street_31 (by decide) ?_
        refine MF.ldc2 C e_X8_street_32 t_X8_98 ?_
        refine MF.callSP (As := [.long (Int32.toInt64 x3), .long (1 : Int64), .long (9 : Int64)]) C (R_X8_in hD (Int32.toInt64 x3) (1 : Int64) (9 : Int64) s) m_X8_in k_X8_75 (by decide) e_X8_street_35 rfl rfl (Nat.le_of_ble_eq_true rfl) (fun v9 => ?_)
        refine MF.if_eq (tgt := 49) C e_X8_street_38 (by decide) (fun _ => ?_) (fun _ => ?_)
        · refine MF.aload_n C e_X8_street_49 0 rfl rfl ?_
          refine MF.bipush (v := (-2 : Int32)) C e_X8_street_50 (by decide) ?_
          refine MF.callVI (As := [.int (-2 : Int32)]) C (R_X8_bad hD (-2 : Int32) s) m_X8_bad k_X8_88 kO_70 rfl (by decide) e_X8_street_52 rfl rfl (Nat.le_of_ble_eq_true rfl) (fun v10 s11 => ?_)
          exact MF.iret C e_X8_street_55
        · refine MF.iload C e_X8_street_41 4 rfl ?_
          refine MF.callSP (As := [.int x4]) C (R_X8_isWord hD x4 s) m_X8_isWord k_X8_100 (by decide) e_X8_street_43 rfl rfl (Nat.le_of_ble_eq_true rfl) (fun v12 => ?_)
          refine MF.if_ne (tgt := 56) C e_X8_street_46 (by decide) (fun _ => ?_) (fun _ => ?_)
          · refine MF.aload_n C e_X8_street_56 0 rfl rfl ?_
            refine MF.callVP (As := []) C (R_X8_streets hD s) m_X8_streets k_X8_71 kO_70 rfl (by decide) e_X8_street_57 rfl rfl (Nat.le_of_ble_eq_true rfl) (fun v13 => ?_)
            refine MF.bipush (v := (nI 7)) C e_X8_street_60 (by decide) ?_
            refine MF.icmp_ne (tgt := 70) C e_X8_street_62 (by decide) (fun _ => ?_) (fun _ => ?_)
            · refine MF.aload_n C e_X8_street_70 0 rfl rfl ?_
              refine MF.getR (j := 71) C cf_X8 l_X8_7 e_X8_street_71 kF_70_0 ?_
              refine MF.iload_n C e_X8_street_74 1 rfl rfl ?_
              refine MF.iload_n C e_X8_street_75 2 rfl rfl ?_
              refine MF.iload_n C e_X8_street_76 3 rfl rfl ?_
              refine MF.iload C e_X8_street_77 4 rfl ?_
              refine MF.callSU (As := [.ref (ead E 71), .int x1, .int x2, .int x3, .int x4]) C (R_X8_layStreet hD 71 x1 x2 x3 x4 kA_71 s) m_X8_layStreet k_X8_107 (by decide) e_X8_street_79 rfl rfl (Nat.le_of_ble_eq_true rfl) (fun s14 => ?_)
              refine MF.aload_n C e_X8_street_82 0 rfl rfl ?_
              refine MF.getR (j := 71) C cf_X8 l_X8_7 e_X8_street_83 kF_70_0 ?_
              refine MF.iconst (v := (nI 4)) C e_X8_street_86 rfl ?_
              refine MF.iconst (v := (nI 0)) C e_X8_street_87 rfl ?_
              refine MF.iast C e_X8_street_88 kA_71 (fun s15 => ?_)
              refine MF.aload_n C e_X8_street_89 0 rfl rfl ?_
              refine MF.callVP (As := []) C (R_X8_streets hD s15) m_X8_streets k_X8_71 kO_70 rfl (by decide) e_X8_street_90 rfl rfl (Nat.le_of_ble_eq_true rfl) (fun v16 => ?_)
              refine MF.iconst (v := (nI 1)) C e_X8_street_93 rfl ?_
              refine MF.isub C e_X8_street_94 ?_
              exact MF.iret C e_X8_street_95
            · refine MF.aload_n C e_X8_street_65 0 rfl rfl ?_
              refine MF.callVI (As := []) C (R_X8_full hD s) m_X8_full k_X8_104 kO_70 rfl (by decide) e_X8_street_66 rfl rfl (Nat.le_of_ble_eq_true rfl) (fun v17 s18 => ?_)
              exact MF.iret C e_X8_street_69
          · refine MF.aload_n C e_X8_street_49 0 rfl rfl ?_
            refine MF.bipush (v := (-2 : Int32)) C e_X8_street_50 (by decide) ?_
            refine MF.callVI (As := [.int (-2 : Int32)]) C (R_X8_bad hD (-2 : Int32) s) m_X8_bad k_X8_88 kO_70 rfl (by decide) e_X8_street_52 rfl rfl (Nat.le_of_ble_eq_true rfl) (fun v19 s20 => ?_)
            exact MF.iret C e_X8_street_55
theorem e_X8_layEvent_0 : Dc cX8_layEvent 0 (.bipush 33) 2 2 := ⟨by decide +kernel, rfl⟩
theorem e_X8_layEvent_2 : Dc cX8_layEvent 2 (.bipush 6) 2 4 := ⟨by decide +kernel, rfl⟩
theorem e_X8_layEvent_4 : Dc cX8_layEvent 4 (.aload_n 0) 1 5 := ⟨by decide +kernel, rfl⟩
theorem e_X8_layEvent_5 : Dc cX8_layEvent 5 (.iconst 1) 1 6 := ⟨by decide +kernel, rfl⟩
theorem e_X8_layEvent_6 : Dc cX8_layEvent 6 (.iaload) 1 7 := ⟨by decide +kernel, rfl⟩
theorem e_X8_layEvent_7 : Dc cX8_layEvent 7 (.imul) 1 8 := ⟨by decide +kernel, rfl⟩
theorem e_X8_layEvent_8 : Dc cX8_layEvent 8 (.iadd) 1 9 := ⟨by decide +kernel, rfl⟩
theorem e_X8_layEvent_9 : Dc cX8_layEvent 9 (.istore 7) 2 11 := ⟨by decide +kernel, rfl⟩
theorem e_X8_layEvent_11 : Dc cX8_layEvent 11 (.aload_n 0) 1 12 := ⟨by decide +kernel, rfl⟩
theorem e_X8_layEvent_12 : Dc cX8_layEvent 12 (.iload 7) 2 14 := ⟨by decide +kernel, rfl⟩
theorem e_X8_layEvent_14 : Dc cX8_layEvent 14 (.iconst 0) 1 15 := ⟨by decide +kernel, rfl⟩
theorem e_X8_layEvent_15 : Dc cX8_layEvent 15 (.iadd) 1 16 := ⟨by decide +kernel, rfl⟩
theorem e_X8_layEvent_16 : Dc cX8_layEvent 16 (.iload_n 1) 1 17 := ⟨by decide +kernel, rfl⟩
theorem e_X8_layEvent_17 : Dc cX8_layEvent 17 (.iastore) 1 18 := ⟨by decide +kernel, rfl⟩
theorem e_X8_layEvent_18 : Dc cX8_layEvent 18 (.aload_n 0) 1 19 := ⟨by decide +kernel, rfl⟩
theorem e_X8_layEvent_19 : Dc cX8_layEvent 19 (.iload 7) 2 21 := ⟨by decide +kernel, rfl⟩
theorem e_X8_layEvent_21 : Dc cX8_layEvent 21 (.iconst 1) 1 22 := ⟨by decide +kernel, rfl⟩
theorem e_X8_layEvent_22 : Dc cX8_layEvent 22 (.iadd) 1 23 := ⟨by decide +kernel, rfl⟩
theorem e_X8_layEvent_23 : Dc cX8_layEvent 23 (.iload_n 2) 1 24 := ⟨by decide +kernel, rfl⟩
theorem e_X8_layEvent_24 : Dc cX8_layEvent 24 (.iastore) 1 25 := ⟨by decide +kernel, rfl⟩
theorem e_X8_layEvent_25 : Dc cX8_layEvent 25 (.aload_n 0) 1 26 := ⟨by decide +kernel, rfl⟩
theorem e_X8_layEvent_26 : Dc cX8_layEvent 26 (.iload 7) 2 28 := ⟨by decide +kernel, rfl⟩
theorem e_X8_layEvent_28 : Dc cX8_layEvent 28 (.iconst 2) 1 29 := ⟨by decide +kernel, rfl⟩
theorem e_X8_layEvent_29 : Dc cX8_layEvent 29 (.iadd) 1 30 := ⟨by decide +kernel, rfl⟩
theorem e_X8_layEvent_30 : Dc cX8_layEvent 30 (.iload_n 3) 1 31 := ⟨by decide +kernel, rfl⟩
theorem e_X8_layEvent_31 : Dc cX8_layEvent 31 (.iastore) 1 32 := ⟨by decide +kernel, rfl⟩
theorem e_X8_layEvent_32 : Dc cX8_layEvent 32 (.aload_n 0) 1 33 := ⟨by decide +kernel, rfl⟩
theorem e_X8_layEvent_33 : Dc cX8_layEvent 33 (.iload 7) 2 35 := ⟨by decide +kernel, rfl⟩
theorem e_X8_layEvent_35 : Dc cX8_layEvent 35 (.iconst 3) 1 36 := ⟨by decide +kernel, rfl⟩
theorem e_X8_layEvent_36 : Dc cX8_layEvent 36 (.iadd) 1 37 := ⟨by decide +kernel, rfl⟩
theorem e_X8_layEvent_37 : Dc cX8_layEvent 37 (.iload 4) 2 39 := ⟨by decide +kernel, rfl⟩
theorem e_X8_layEvent_39 : Dc cX8_layEvent 39 (.iastore) 1 40 := ⟨by decide +kernel, rfl⟩
theorem e_X8_layEvent_40 : Dc cX8_layEvent 40 (.aload_n 0) 1 41 := ⟨by decide +kernel, rfl⟩
theorem e_X8_layEvent_41 : Dc cX8_layEvent 41 (.iload 7) 2 43 := ⟨by decide +kernel, rfl⟩
theorem e_X8_layEvent_43 : Dc cX8_layEvent 43 (.iconst 4) 1 44 := ⟨by decide +kernel, rfl⟩
theorem e_X8_layEvent_44 : Dc cX8_layEvent 44 (.iadd) 1 45 := ⟨by decide +kernel, rfl⟩
theorem e_X8_layEvent_45 : Dc cX8_layEvent 45 (.iload 5) 2 47 := ⟨by decide +kernel, rfl⟩
theorem e_X8_layEvent_47 : Dc cX8_layEvent 47 (.iastore) 1 48 := ⟨by decide +kernel, rfl⟩
theorem e_X8_layEvent_48 : Dc cX8_layEvent 48 (.aload_n 0) 1 49 := ⟨by decide +kernel, rfl⟩
theorem e_X8_layEvent_49 : Dc cX8_layEvent 49 (.iload 7) 2 51 := ⟨by decide +kernel, rfl⟩
theorem e_X8_layEvent_51 : Dc cX8_layEvent 51 (.iconst 5) 1 52 := ⟨by decide +kernel, rfl⟩
theorem e_X8_layEvent_52 : Dc cX8_layEvent 52 (.iadd) 1 53 := ⟨by decide +kernel, rfl⟩
theorem e_X8_layEvent_53 : Dc cX8_layEvent 53 (.iload 6) 2 55 := ⟨by decide +kernel, rfl⟩
theorem e_X8_layEvent_55 : Dc cX8_layEvent 55 (.iastore) 1 56 := ⟨by decide +kernel, rfl⟩
theorem e_X8_layEvent_56 : Dc cX8_layEvent 56 (.aload_n 0) 1 57 := ⟨by decide +kernel, rfl⟩
theorem e_X8_layEvent_57 : Dc cX8_layEvent 57 (.iconst 1) 1 58 := ⟨by decide +kernel, rfl⟩
theorem e_X8_layEvent_58 : Dc cX8_layEvent 58 (.dup2) 1 59 := ⟨by decide +kernel, rfl⟩
theorem e_X8_layEvent_59 : Dc cX8_layEvent 59 (.iaload) 1 60 := ⟨by decide +kernel, rfl⟩
theorem e_X8_layEvent_60 : Dc cX8_layEvent 60 (.iconst 1) 1 61 := ⟨by decide +kernel, rfl⟩
theorem e_X8_layEvent_61 : Dc cX8_layEvent 61 (.iadd) 1 62 := ⟨by decide +kernel, rfl⟩
theorem e_X8_layEvent_62 : Dc cX8_layEvent 62 (.iastore) 1 63 := ⟨by decide +kernel, rfl⟩
theorem e_X8_layEvent_63 : Dc cX8_layEvent 63 (.return_) 1 64 := ⟨by decide +kernel, rfl⟩
set_option maxHeartbeats 4000000 in
set_option maxRecDepth 20000 in
theorem R_X8_layEvent (hD : DD E) (c0 : Nat) (x1 : Int32) (x2 : Int32) (x3 : Int32) (x4 : Int32) (x5 : Int32) (x6 : Int32) (hc0 : iA c0) (s : Sg) : ∀ τ, (f_X8_layEvent c0 x1 x2 x3 x4 x5 x6 s) = some τ → RV l E 0 M_X8_layEvent [.ref (ead E c0), .int x1, .int x2, .int x3, .int x4, .int x5, .int x6] s τ := by
  refine ofU hD (by decide +kernel) (Nat.le_of_ble_eq_true rfl) (fun X C => ?_)
  show MF l E X (fun q : Sg => QV E X q) (f_X8_layEvent c0 x1 x2 x3 x4 x5 x6 s) s 0 [(0, .ref (ead E c0)), (1, .int x1), (2, .int x2), (3, .int x3), (4, .int x4), (5, .int x5), (6, .int x6)] []
  unfold f_X8_layEvent
  refine MF.bipush (v := (nI 33)) C e_X8_layEvent_0 (by decide) ?_
  refine MF.bipush (v := (nI 6)) C e_X8_layEvent_2 (by decide) ?_
  refine MF.aload_n C e_X8_layEvent_4 0 rfl rfl ?_
  refine MF.iconst (v := (nI 1)) C e_X8_layEvent_5 rfl ?_
  refine MF.iald C e_X8_layEvent_6 hc0 (fun v1 => ?_)
  refine MF.imul C e_X8_layEvent_7 ?_
  refine MF.iadd C e_X8_layEvent_8 ?_
  refine MF.nmI (fun v2 => ?_)
  refine MF.istore (lv' := [(0, .ref (ead E c0)), (1, .int x1), (2, .int x2), (3, .int x3), (4, .int x4), (5, .int x5), (6, .int x6), (7, .int v2)]) C e_X8_layEvent_9 (by decide) rfl ?_
  refine MF.aload_n C e_X8_layEvent_11 0 rfl rfl ?_
  refine MF.iload C e_X8_layEvent_12 7 rfl ?_
  refine MF.iconst (v := (nI 0)) C e_X8_layEvent_14 rfl ?_
  refine MF.iadd C e_X8_layEvent_15 ?_
  refine MF.iload_n C e_X8_layEvent_16 1 rfl rfl ?_
  refine MF.iast C e_X8_layEvent_17 hc0 (fun s3 => ?_)
  refine MF.aload_n C e_X8_layEvent_18 0 rfl rfl ?_
  refine MF.iload C e_X8_layEvent_19 7 rfl ?_
  refine MF.iconst (v := (nI 1)) C e_X8_layEvent_21 rfl ?_
  refine MF.iadd C e_X8_layEvent_22 ?_
  refine MF.iload_n C e_X8_layEvent_23 2 rfl rfl ?_
  refine MF.iast C e_X8_layEvent_24 hc0 (fun s4 => ?_)
  refine MF.aload_n C e_X8_layEvent_25 0 rfl rfl ?_
  refine MF.iload C e_X8_layEvent_26 7 rfl ?_
  refine MF.iconst (v := (nI 2)) C e_X8_layEvent_28 rfl ?_
  refine MF.iadd C e_X8_layEvent_29 ?_
  refine MF.iload_n C e_X8_layEvent_30 3 rfl rfl ?_
  refine MF.iast C e_X8_layEvent_31 hc0 (fun s5 => ?_)
  refine MF.aload_n C e_X8_layEvent_32 0 rfl rfl ?_
  refine MF.iload C e_X8_layEvent_33 7 rfl ?_
  refine MF.iconst (v := (nI 3)) C e_X8_layEvent_35 rfl ?_
  refine MF.iadd C e_X8_layEvent_36 ?_
  refine MF.iload C e_X8_layEvent_37 4 rfl ?_
  refine MF.iast C e_X8_layEvent_39 hc0 (fun s6 => ?_)
  refine MF.aload_n C e_X8_layEvent_40 0 rfl rfl ?_
  refine MF.iload C e_X8_layEvent_41 7 rfl ?_
  refine MF.iconst (v := (nI 4)) C e_X8_layEvent_43 rfl ?_
  refine MF.iadd C e_X8_layEvent_44 ?_
  refine MF.iload C e_X8_layEvent_45 5 rfl ?_
  refine MF.iast C e_X8_layEvent_47 hc0 (fun s7 => ?_)
  refine MF.aload_n C e_X8_layEvent_48 0 rfl rfl ?_
  refine MF.iload C e_X8_layEvent_49 7 rfl ?_
  refine MF.iconst (v := (nI 5)) C e_X8_layEvent_51 rfl ?_
  refine MF.iadd C e_X8_layEvent_52 ?_
  refine MF.iload C e_X8_layEvent_53 6 rfl ?_
  refine MF.iast C e_X8_layEvent_55 hc0 (fun s8 => ?_)
  refine MF.aload_n C e_X8_layEvent_56 0 rfl rfl ?_
  refine MF.iconst (v := (nI 1)) C e_X8_layEvent_57 rfl ?_
  refine MF.dup2 C e_X8_layEvent_58 rfl rfl ?_
  refine MF.iald C e_X8_layEvent_59 hc0 (fun v9 => ?_)
  refine MF.iconst (v := (nI 1)) C e_X8_layEvent_60 rfl ?_
  refine MF.iadd C e_X8_layEvent_61 ?_
  refine MF.iast C e_X8_layEvent_62 hc0 (fun s10 => ?_)
  exact MF.vret C e_X8_layEvent_63
theorem e_X8_keep_0 : Dc cX8_keep 0 (.aload_n 0) 1 1 := ⟨by decide +kernel, rfl⟩
theorem e_X8_keep_1 : Dc cX8_keep 1 (.getfield 7) 3 4 := ⟨by decide +kernel, rfl⟩
theorem e_X8_keep_4 : Dc cX8_keep 4 (.iconst 4) 1 5 := ⟨by decide +kernel, rfl⟩
theorem e_X8_keep_5 : Dc cX8_keep 5 (.iaload) 1 6 := ⟨by decide +kernel, rfl⟩
theorem e_X8_keep_6 : Dc cX8_keep 6 (.bipush 8) 2 8 := ⟨by decide +kernel, rfl⟩
theorem e_X8_keep_8 : Dc cX8_keep 8 (.if_icmp .ne 45) 3 11 := ⟨by decide +kernel, rfl⟩
theorem e_X8_keep_11 : Dc cX8_keep 11 (.iconst 0) 1 12 := ⟨by decide +kernel, rfl⟩
theorem e_X8_keep_12 : Dc cX8_keep 12 (.istore_n 1) 1 13 := ⟨by decide +kernel, rfl⟩
theorem e_X8_keep_13 : Dc cX8_keep 13 (.iload_n 1) 1 14 := ⟨by decide +kernel, rfl⟩
theorem e_X8_keep_14 : Dc cX8_keep 14 (.sipush 350) 3 17 := ⟨by decide +kernel, rfl⟩
theorem e_X8_keep_17 : Dc cX8_keep 17 (.if_icmp .ge 28) 3 20 := ⟨by decide +kernel, rfl⟩
theorem e_X8_keep_20 : Dc cX8_keep 20 (.aload_n 0) 1 21 := ⟨by decide +kernel, rfl⟩
theorem e_X8_keep_21 : Dc cX8_keep 21 (.getfield 7) 3 24 := ⟨by decide +kernel, rfl⟩
theorem e_X8_keep_24 : Dc cX8_keep 24 (.bipush 115) 2 26 := ⟨by decide +kernel, rfl⟩
theorem e_X8_keep_26 : Dc cX8_keep 26 (.iload_n 1) 1 27 := ⟨by decide +kernel, rfl⟩
theorem e_X8_keep_27 : Dc cX8_keep 27 (.iadd) 1 28 := ⟨by decide +kernel, rfl⟩
theorem e_X8_keep_28 : Dc cX8_keep 28 (.aload_n 0) 1 29 := ⟨by decide +kernel, rfl⟩
theorem e_X8_keep_29 : Dc cX8_keep 29 (.getfield 7) 3 32 := ⟨by decide +kernel, rfl⟩
theorem e_X8_keep_32 : Dc cX8_keep 32 (.sipush 165) 3 35 := ⟨by decide +kernel, rfl⟩
theorem e_X8_keep_35 : Dc cX8_keep 35 (.iload_n 1) 1 36 := ⟨by decide +kernel, rfl⟩
theorem e_X8_keep_36 : Dc cX8_keep 36 (.iadd) 1 37 := ⟨by decide +kernel, rfl⟩
theorem e_X8_keep_37 : Dc cX8_keep 37 (.iaload) 1 38 := ⟨by decide +kernel, rfl⟩
theorem e_X8_keep_38 : Dc cX8_keep 38 (.iastore) 1 39 := ⟨by decide +kernel, rfl⟩
theorem e_X8_keep_39 : Dc cX8_keep 39 (.iinc 1 1) 3 42 := ⟨by decide +kernel, rfl⟩
theorem e_X8_keep_42 : Dc cX8_keep 42 (.goto (-29)) 3 45 := ⟨by decide +kernel, rfl⟩
theorem e_X8_keep_45 : Dc cX8_keep 45 (.aload_n 0) 1 46 := ⟨by decide +kernel, rfl⟩
theorem e_X8_keep_46 : Dc cX8_keep 46 (.getfield 7) 3 49 := ⟨by decide +kernel, rfl⟩
theorem e_X8_keep_49 : Dc cX8_keep 49 (.iconst 4) 1 50 := ⟨by decide +kernel, rfl⟩
theorem e_X8_keep_50 : Dc cX8_keep 50 (.bipush 7) 2 52 := ⟨by decide +kernel, rfl⟩
theorem e_X8_keep_52 : Dc cX8_keep 52 (.iastore) 1 53 := ⟨by decide +kernel, rfl⟩
theorem e_X8_keep_53 : Dc cX8_keep 53 (.bipush 115) 2 55 := ⟨by decide +kernel, rfl⟩
theorem e_X8_keep_55 : Dc cX8_keep 55 (.bipush 50) 2 57 := ⟨by decide +kernel, rfl⟩
theorem e_X8_keep_57 : Dc cX8_keep 57 (.aload_n 0) 1 58 := ⟨by decide +kernel, rfl⟩
theorem e_X8_keep_58 : Dc cX8_keep 58 (.getfield 7) 3 61 := ⟨by decide +kernel, rfl⟩
theorem e_X8_keep_61 : Dc cX8_keep 61 (.iconst 4) 1 62 := ⟨by decide +kernel, rfl⟩
theorem e_X8_keep_62 : Dc cX8_keep 62 (.iaload) 1 63 := ⟨by decide +kernel, rfl⟩
theorem e_X8_keep_63 : Dc cX8_keep 63 (.imul) 1 64 := ⟨by decide +kernel, rfl⟩
theorem e_X8_keep_64 : Dc cX8_keep 64 (.iadd) 1 65 := ⟨by decide +kernel, rfl⟩
theorem e_X8_keep_65 : Dc cX8_keep 65 (.istore_n 1) 1 66 := ⟨by decide +kernel, rfl⟩
theorem e_X8_keep_66 : Dc cX8_keep 66 (.iconst 0) 1 67 := ⟨by decide +kernel, rfl⟩
theorem e_X8_keep_67 : Dc cX8_keep 67 (.istore_n 2) 1 68 := ⟨by decide +kernel, rfl⟩
theorem e_X8_keep_68 : Dc cX8_keep 68 (.iload_n 2) 1 69 := ⟨by decide +kernel, rfl⟩
theorem e_X8_keep_69 : Dc cX8_keep 69 (.bipush 48) 2 71 := ⟨by decide +kernel, rfl⟩
theorem e_X8_keep_71 : Dc cX8_keep 71 (.if_icmp .ge 26) 3 74 := ⟨by decide +kernel, rfl⟩
theorem e_X8_keep_74 : Dc cX8_keep 74 (.aload_n 0) 1 75 := ⟨by decide +kernel, rfl⟩
theorem e_X8_keep_75 : Dc cX8_keep 75 (.getfield 7) 3 78 := ⟨by decide +kernel, rfl⟩
theorem e_X8_keep_78 : Dc cX8_keep 78 (.iload_n 1) 1 79 := ⟨by decide +kernel, rfl⟩
theorem e_X8_keep_79 : Dc cX8_keep 79 (.iload_n 2) 1 80 := ⟨by decide +kernel, rfl⟩
theorem e_X8_keep_80 : Dc cX8_keep 80 (.iadd) 1 81 := ⟨by decide +kernel, rfl⟩
theorem e_X8_keep_81 : Dc cX8_keep 81 (.aload_n 0) 1 82 := ⟨by decide +kernel, rfl⟩
theorem e_X8_keep_82 : Dc cX8_keep 82 (.getfield 7) 3 85 := ⟨by decide +kernel, rfl⟩
theorem e_X8_keep_85 : Dc cX8_keep 85 (.bipush 33) 2 87 := ⟨by decide +kernel, rfl⟩
theorem e_X8_keep_87 : Dc cX8_keep 87 (.iload_n 2) 1 88 := ⟨by decide +kernel, rfl⟩
theorem e_X8_keep_88 : Dc cX8_keep 88 (.iadd) 1 89 := ⟨by decide +kernel, rfl⟩
theorem e_X8_keep_89 : Dc cX8_keep 89 (.iaload) 1 90 := ⟨by decide +kernel, rfl⟩
theorem e_X8_keep_90 : Dc cX8_keep 90 (.iastore) 1 91 := ⟨by decide +kernel, rfl⟩
theorem e_X8_keep_91 : Dc cX8_keep 91 (.iinc 2 1) 3 94 := ⟨by decide +kernel, rfl⟩
theorem e_X8_keep_94 : Dc cX8_keep 94 (.goto (-26)) 3 97 := ⟨by decide +kernel, rfl⟩
theorem e_X8_keep_97 : Dc cX8_keep 97 (.aload_n 0) 1 98 := ⟨by decide +kernel, rfl⟩
theorem e_X8_keep_98 : Dc cX8_keep 98 (.getfield 7) 3 101 := ⟨by decide +kernel, rfl⟩
theorem e_X8_keep_101 : Dc cX8_keep 101 (.iload_n 1) 1 102 := ⟨by decide +kernel, rfl⟩
theorem e_X8_keep_102 : Dc cX8_keep 102 (.bipush 48) 2 104 := ⟨by decide +kernel, rfl⟩
theorem e_X8_keep_104 : Dc cX8_keep 104 (.iadd) 1 105 := ⟨by decide +kernel, rfl⟩
theorem e_X8_keep_105 : Dc cX8_keep 105 (.aload_n 0) 1 106 := ⟨by decide +kernel, rfl⟩
theorem e_X8_keep_106 : Dc cX8_keep 106 (.invokevirtual 79) 3 109 := ⟨by decide +kernel, rfl⟩
theorem e_X8_keep_109 : Dc cX8_keep 109 (.iastore) 1 110 := ⟨by decide +kernel, rfl⟩
theorem e_X8_keep_110 : Dc cX8_keep 110 (.aload_n 0) 1 111 := ⟨by decide +kernel, rfl⟩
theorem e_X8_keep_111 : Dc cX8_keep 111 (.getfield 7) 3 114 := ⟨by decide +kernel, rfl⟩
theorem e_X8_keep_114 : Dc cX8_keep 114 (.iload_n 1) 1 115 := ⟨by decide +kernel, rfl⟩
theorem e_X8_keep_115 : Dc cX8_keep 115 (.bipush 49) 2 117 := ⟨by decide +kernel, rfl⟩
theorem e_X8_keep_117 : Dc cX8_keep 117 (.iadd) 1 118 := ⟨by decide +kernel, rfl⟩
theorem e_X8_keep_118 : Dc cX8_keep 118 (.aload_n 0) 1 119 := ⟨by decide +kernel, rfl⟩
theorem e_X8_keep_119 : Dc cX8_keep 119 (.getfield 7) 3 122 := ⟨by decide +kernel, rfl⟩
theorem e_X8_keep_122 : Dc cX8_keep 122 (.iconst 2) 1 123 := ⟨by decide +kernel, rfl⟩
theorem e_X8_keep_123 : Dc cX8_keep 123 (.iaload) 1 124 := ⟨by decide +kernel, rfl⟩
theorem e_X8_keep_124 : Dc cX8_keep 124 (.iastore) 1 125 := ⟨by decide +kernel, rfl⟩
theorem e_X8_keep_125 : Dc cX8_keep 125 (.aload_n 0) 1 126 := ⟨by decide +kernel, rfl⟩
theorem e_X8_keep_126 : Dc cX8_keep 126 (.getfield 7) 3 129 := ⟨by decide +kernel, rfl⟩
theorem e_X8_keep_129 : Dc cX8_keep 129 (.iconst 4) 1 130 := ⟨by decide +kernel, rfl⟩
theorem e_X8_keep_130 : Dc cX8_keep 130 (.dup2) 1 131 := ⟨by decide +kernel, rfl⟩
theorem e_X8_keep_131 : Dc cX8_keep 131 (.iaload) 1 132 := ⟨by decide +kernel, rfl⟩
theorem e_X8_keep_132 : Dc cX8_keep 132 (.iconst 1) 1 133 := ⟨by decide +kernel, rfl⟩
theorem e_X8_keep_133 : Dc cX8_keep 133 (.iadd) 1 134 := ⟨by decide +kernel, rfl⟩
theorem e_X8_keep_134 : Dc cX8_keep 134 (.iastore) 1 135 := ⟨by decide +kernel, rfl⟩
theorem e_X8_keep_135 : Dc cX8_keep 135 (.return_) 1 136 := ⟨by decide +kernel, rfl⟩
set_option maxHeartbeats 4000000 in
set_option maxRecDepth 20000 in
theorem R_X8_keep (hD : DD E) (s : Sg) : ∀ τ, (f_X8_keep s) = some τ → RV l E 1 M_X8_keep [.ref (ead E 70)] s τ := by
  refine ofU hD (by decide +kernel) (Nat.le_of_ble_eq_true rfl) (fun X C => ?_)
  show MF l E X (fun q : Sg => QV E X q) (f_X8_keep s) s 0 [(0, .ref (ead E 70))] []
  unfold f_X8_keep
  refine MF.aload_n C e_X8_keep_0 0 rfl rfl ?_
  refine MF.getR (j := 71) C cf_X8 l_X8_7 e_X8_keep_1 kF_70_0 ?_
  refine MF.iconst (v := (nI 4)) C e_X8_keep_4 rfl ?_
  refine MF.iald C e_X8_keep_5 kA_71 (fun v1 => ?_)
  refine MF.bipush (v := (nI 8)) C e_X8_keep_6 (by decide) ?_
  refine MF.join (fun j : Sg → Option Sg => ∀ (s2 : Sg), MF l E X (fun q : Sg => QV E X q) (j s2) s2 53 [(0, .ref (ead E 70))] []) ?_ (fun j3 hj3 => ?_)
  · intro s2
    refine MF.bipush (v := (nI 115)) C e_X8_keep_53 (by decide) ?_
    refine MF.bipush (v := (nI 50)) C e_X8_keep_55 (by decide) ?_
    refine MF.aload_n C e_X8_keep_57 0 rfl rfl ?_
    refine MF.getR (j := 71) C cf_X8 l_X8_7 e_X8_keep_58 kF_70_0 ?_
    refine MF.iconst (v := (nI 4)) C e_X8_keep_61 rfl ?_
    refine MF.iald C e_X8_keep_62 kA_71 (fun v4 => ?_)
    refine MF.imul C e_X8_keep_63 ?_
    refine MF.iadd C e_X8_keep_64 ?_
    refine MF.nmI (fun v5 => ?_)
    refine MF.istore_n (lv' := [(0, .ref (ead E 70)), (1, .int v5)]) C e_X8_keep_65 (by decide) rfl ?_
    refine MF.iconst (v := (nI 0)) C e_X8_keep_66 rfl ?_
    refine MF.istore_n (lv' := [(0, .ref (ead E 70)), (1, .int v5), (2, .int (nI 0))]) C e_X8_keep_67 (by decide) rfl ?_
    refine MF.join (fun j : Sg → Option Sg => ∀ (s6 : Sg), MF l E X (fun q : Sg => QV E X q) (j s6) s6 97 [(0, .ref (ead E 70)), (1, .int v5)] []) ?_ (fun j7 hj7 => ?_)
    · intro s6
      refine MF.aload_n C e_X8_keep_97 0 rfl rfl ?_
      refine MF.getR (j := 71) C cf_X8 l_X8_7 e_X8_keep_98 kF_70_0 ?_
      refine MF.iload_n C e_X8_keep_101 1 rfl rfl ?_
      refine MF.bipush (v := (nI 48)) C e_X8_keep_102 (by decide) ?_
      refine MF.iadd C e_X8_keep_104 ?_
      refine MF.aload_n C e_X8_keep_105 0 rfl rfl ?_
      refine MF.callVP (As := []) C (R_X8_events hD s6) m_X8_events k_X8_79 kO_70 rfl (by decide) e_X8_keep_106 rfl rfl (Nat.le_of_ble_eq_true rfl) (fun v8 => ?_)
      refine MF.iast C e_X8_keep_109 kA_71 (fun s9 => ?_)
      refine MF.aload_n C e_X8_keep_110 0 rfl rfl ?_
      refine MF.getR (j := 71) C cf_X8 l_X8_7 e_X8_keep_111 kF_70_0 ?_
      refine MF.iload_n C e_X8_keep_114 1 rfl rfl ?_
      refine MF.bipush (v := (nI 49)) C e_X8_keep_115 (by decide) ?_
      refine MF.iadd C e_X8_keep_117 ?_
      refine MF.aload_n C e_X8_keep_118 0 rfl rfl ?_
      refine MF.getR (j := 71) C cf_X8 l_X8_7 e_X8_keep_119 kF_70_0 ?_
      refine MF.iconst (v := (nI 2)) C e_X8_keep_122 rfl ?_
      refine MF.iald C e_X8_keep_123 kA_71 (fun v10 => ?_)
      refine MF.iast C e_X8_keep_124 kA_71 (fun s11 => ?_)
      refine MF.aload_n C e_X8_keep_125 0 rfl rfl ?_
      refine MF.getR (j := 71) C cf_X8 l_X8_7 e_X8_keep_126 kF_70_0 ?_
      refine MF.iconst (v := (nI 4)) C e_X8_keep_129 rfl ?_
      refine MF.dup2 C e_X8_keep_130 rfl rfl ?_
      refine MF.iald C e_X8_keep_131 kA_71 (fun v12 => ?_)
      refine MF.iconst (v := (nI 1)) C e_X8_keep_132 rfl ?_
      refine MF.iadd C e_X8_keep_133 ?_
      refine MF.iast C e_X8_keep_134 kA_71 (fun s13 => ?_)
      exact MF.vret C e_X8_keep_135
    refine MF.loop2 (fun i14 s15 => s15) (fun i14 s15 => [(0, .ref (ead E 70)), (1, .int v5), (2, .int i14)]) (fun self16 hself16 i14 s15 => ?_) fu (nI 0) s2
    unfold b_X8_keep_68
    refine MF.iload_n C e_X8_keep_68 2 rfl rfl ?_
    refine MF.bipush (v := (nI 48)) C e_X8_keep_69 (by decide) ?_
    refine MF.icmp_ge (tgt := 97) C e_X8_keep_71 (by decide) (fun _ => ?_) (fun _ => ?_)
    · refine MF.sub [0, 1] rfl ?_
      exact hj7 s15
    · refine MF.aload_n C e_X8_keep_74 0 rfl rfl ?_
      refine MF.getR (j := 71) C cf_X8 l_X8_7 e_X8_keep_75 kF_70_0 ?_
      refine MF.iload_n C e_X8_keep_78 1 rfl rfl ?_
      refine MF.iload_n C e_X8_keep_79 2 rfl rfl ?_
      refine MF.iadd C e_X8_keep_80 ?_
      refine MF.aload_n C e_X8_keep_81 0 rfl rfl ?_
      refine MF.getR (j := 71) C cf_X8 l_X8_7 e_X8_keep_82 kF_70_0 ?_
      refine MF.bipush (v := (nI 33)) C e_X8_keep_85 (by decide) ?_
      refine MF.iload_n C e_X8_keep_87 2 rfl rfl ?_
      refine MF.iadd C e_X8_keep_88 ?_
      refine MF.iald C e_X8_keep_89 kA_71 (fun v17 => ?_)
      refine MF.iast C e_X8_keep_90 kA_71 (fun s18 => ?_)
      refine MF.iinc (v := (nI 1)) (lv' := [(0, .ref (ead E 70)), (1, .int v5), (2, .int (i14 + (nI 1)))]) C e_X8_keep_91 2 rfl rfl (by decide) rfl ?_
      refine MF.goto (tgt := 68) C e_X8_keep_94 (by decide) ?_
      exact hself16 (i14 + (nI 1)) s18
  refine MF.icmp_ne (tgt := 53) C e_X8_keep_8 (by decide) (fun _ => ?_) (fun _ => ?_)
  · exact hj3 s
  · refine MF.iconst (v := (nI 0)) C e_X8_keep_11 rfl ?_
    refine MF.istore_n (lv' := [(0, .ref (ead E 70)), (1, .int (nI 0))]) C e_X8_keep_12 (by decide) rfl ?_
    refine MF.join (fun j : Sg → Option Sg => ∀ (s19 : Sg), MF l E X (fun q : Sg => QV E X q) (j s19) s19 45 [(0, .ref (ead E 70))] []) ?_ (fun j20 hj20 => ?_)
    · intro s19
      refine MF.aload_n C e_X8_keep_45 0 rfl rfl ?_
      refine MF.getR (j := 71) C cf_X8 l_X8_7 e_X8_keep_46 kF_70_0 ?_
      refine MF.iconst (v := (nI 4)) C e_X8_keep_49 rfl ?_
      refine MF.bipush (v := (nI 7)) C e_X8_keep_50 (by decide) ?_
      refine MF.iast C e_X8_keep_52 kA_71 (fun s21 => ?_)
      exact hj3 s21
    refine MF.loop2 (fun i22 s23 => s23) (fun i22 s23 => [(0, .ref (ead E 70)), (1, .int i22)]) (fun self24 hself24 i22 s23 => ?_) fu (nI 0) s
    unfold b_X8_keep_13
    refine MF.iload_n C e_X8_keep_13 1 rfl rfl ?_
    refine MF.sipush (v := (nI 350)) C e_X8_keep_14 (by decide) ?_
    refine MF.icmp_ge (tgt := 45) C e_X8_keep_17 (by decide) (fun _ => ?_) (fun _ => ?_)
    · refine MF.sub [0] rfl ?_
      exact hj20 s23
    · refine MF.aload_n C e_X8_keep_20 0 rfl rfl ?_
      refine MF.getR (j := 71) C cf_X8 l_X8_7 e_X8_keep_21 kF_70_0 ?_
      refine MF.bipush (v := (nI 115)) C e_X8_keep_24 (by decide) ?_
      refine MF.iload_n C e_X8_keep_26 1 rfl rfl ?_
      refine MF.iadd C e_X8_keep_27 ?_
      refine MF.aload_n C e_X8_keep_28 0 rfl rfl ?_
      refine MF.getR (j := 71) C cf_X8 l_X8_7 e_X8_keep_29 kF_70_0 ?_
      refine MF.sipush (v := (nI 165)) C e_X8_keep_32 (by decide) ?_
      refine MF.iload_n C e_X8_keep_35 1 rfl rfl ?_
      refine MF.iadd C e_X8_keep_36 ?_
      refine MF.iald C e_X8_keep_37 kA_71 (fun v25 => ?_)
      refine MF.iast C e_X8_keep_38 kA_71 (fun s26 => ?_)
      refine MF.iinc (v := (nI 1)) (lv' := [(0, .ref (ead E 70)), (1, .int (i22 + (nI 1)))]) C e_X8_keep_39 1 rfl rfl (by decide) rfl ?_
      refine MF.goto (tgt := 13) C e_X8_keep_42 (by decide) ?_
      exact hself24 (i22 + (nI 1)) s26
theorem e_X8_event_0 : Dc cX8_event 0 (.iload_n 1) 1 1 := ⟨by decide +kernel, rfl⟩
theorem e_X8_event_1 : Dc cX8_event 1 (.i2l) 1 2 := ⟨by decide +kernel, rfl⟩
theorem e_X8_event_2 : Dc cX8_event 2 (.lconst 0) 1 3 := ⟨by decide +kernel, rfl⟩
theorem e_X8_event_3 : Dc cX8_event 3 (.ldc2_w 111) 3 6 := ⟨by decide +kernel, rfl⟩
theorem e_X8_event_6 : Dc cX8_event 6 (.invokestatic 75) 3 9 := ⟨by decide +kernel, rfl⟩
theorem e_X8_event_9 : Dc cX8_event 9 (.ifCond .eq 22) 3 12 := ⟨by decide +kernel, rfl⟩
theorem e_X8_event_12 : Dc cX8_event 12 (.aload_n 0) 1 13 := ⟨by decide +kernel, rfl⟩
theorem e_X8_event_13 : Dc cX8_event 13 (.iload_n 2) 1 14 := ⟨by decide +kernel, rfl⟩
theorem e_X8_event_14 : Dc cX8_event 14 (.invokevirtual 113) 3 17 := ⟨by decide +kernel, rfl⟩
theorem e_X8_event_17 : Dc cX8_event 17 (.ifCond .eq 14) 3 20 := ⟨by decide +kernel, rfl⟩
theorem e_X8_event_20 : Dc cX8_event 20 (.iload_n 3) 1 21 := ⟨by decide +kernel, rfl⟩
theorem e_X8_event_21 : Dc cX8_event 21 (.invokestatic 116) 3 24 := ⟨by decide +kernel, rfl⟩
theorem e_X8_event_24 : Dc cX8_event 24 (.ifCond .eq 7) 3 27 := ⟨by decide +kernel, rfl⟩
theorem e_X8_event_27 : Dc cX8_event 27 (.iconst 1) 1 28 := ⟨by decide +kernel, rfl⟩
theorem e_X8_event_28 : Dc cX8_event 28 (.goto 4) 3 31 := ⟨by decide +kernel, rfl⟩
theorem e_X8_event_31 : Dc cX8_event 31 (.iconst 0) 1 32 := ⟨by decide +kernel, rfl⟩
theorem e_X8_event_32 : Dc cX8_event 32 (.istore 7) 2 34 := ⟨by decide +kernel, rfl⟩
theorem e_X8_event_34 : Dc cX8_event 34 (.iload 7) 2 36 := ⟨by decide +kernel, rfl⟩
theorem e_X8_event_36 : Dc cX8_event 36 (.ifCond .eq 37) 3 39 := ⟨by decide +kernel, rfl⟩
theorem e_X8_event_39 : Dc cX8_event 39 (.iload 4) 2 41 := ⟨by decide +kernel, rfl⟩
theorem e_X8_event_41 : Dc cX8_event 41 (.i2l) 1 42 := ⟨by decide +kernel, rfl⟩
theorem e_X8_event_42 : Dc cX8_event 42 (.lconst 0) 1 43 := ⟨by decide +kernel, rfl⟩
theorem e_X8_event_43 : Dc cX8_event 43 (.ldc2_w 98) 3 46 := ⟨by decide +kernel, rfl⟩
theorem e_X8_event_46 : Dc cX8_event 46 (.invokestatic 75) 3 49 := ⟨by decide +kernel, rfl⟩
theorem e_X8_event_49 : Dc cX8_event 49 (.ifCond .eq 24) 3 52 := ⟨by decide +kernel, rfl⟩
theorem e_X8_event_52 : Dc cX8_event 52 (.iload 5) 2 54 := ⟨by decide +kernel, rfl⟩
theorem e_X8_event_54 : Dc cX8_event 54 (.i2l) 1 55 := ⟨by decide +kernel, rfl⟩
theorem e_X8_event_55 : Dc cX8_event 55 (.lconst 0) 1 56 := ⟨by decide +kernel, rfl⟩
theorem e_X8_event_56 : Dc cX8_event 56 (.ldc2_w 98) 3 59 := ⟨by decide +kernel, rfl⟩
theorem e_X8_event_59 : Dc cX8_event 59 (.invokestatic 75) 3 62 := ⟨by decide +kernel, rfl⟩
theorem e_X8_event_62 : Dc cX8_event 62 (.ifCond .eq 11) 3 65 := ⟨by decide +kernel, rfl⟩
theorem e_X8_event_65 : Dc cX8_event 65 (.iload 6) 2 67 := ⟨by decide +kernel, rfl⟩
theorem e_X8_event_67 : Dc cX8_event 67 (.invokestatic 100) 3 70 := ⟨by decide +kernel, rfl⟩
theorem e_X8_event_70 : Dc cX8_event 70 (.ifCond .ne 10) 3 73 := ⟨by decide +kernel, rfl⟩
theorem e_X8_event_73 : Dc cX8_event 73 (.aload_n 0) 1 74 := ⟨by decide +kernel, rfl⟩
theorem e_X8_event_74 : Dc cX8_event 74 (.bipush (-2)) 2 76 := ⟨by decide +kernel, rfl⟩
theorem e_X8_event_76 : Dc cX8_event 76 (.invokevirtual 88) 3 79 := ⟨by decide +kernel, rfl⟩
theorem e_X8_event_79 : Dc cX8_event 79 (.ireturn) 1 80 := ⟨by decide +kernel, rfl⟩
theorem e_X8_event_80 : Dc cX8_event 80 (.aload_n 0) 1 81 := ⟨by decide +kernel, rfl⟩
theorem e_X8_event_81 : Dc cX8_event 81 (.invokevirtual 79) 3 84 := ⟨by decide +kernel, rfl⟩
theorem e_X8_event_84 : Dc cX8_event 84 (.bipush 8) 2 86 := ⟨by decide +kernel, rfl⟩
theorem e_X8_event_86 : Dc cX8_event 86 (.if_icmp .ne 8) 3 89 := ⟨by decide +kernel, rfl⟩
theorem e_X8_event_89 : Dc cX8_event 89 (.aload_n 0) 1 90 := ⟨by decide +kernel, rfl⟩
theorem e_X8_event_90 : Dc cX8_event 90 (.invokevirtual 104) 3 93 := ⟨by decide +kernel, rfl⟩
theorem e_X8_event_93 : Dc cX8_event 93 (.ireturn) 1 94 := ⟨by decide +kernel, rfl⟩
theorem e_X8_event_94 : Dc cX8_event 94 (.aload_n 0) 1 95 := ⟨by decide +kernel, rfl⟩
theorem e_X8_event_95 : Dc cX8_event 95 (.invokevirtual 119) 3 98 := ⟨by decide +kernel, rfl⟩
theorem e_X8_event_98 : Dc cX8_event 98 (.aload_n 0) 1 99 := ⟨by decide +kernel, rfl⟩
theorem e_X8_event_99 : Dc cX8_event 99 (.getfield 7) 3 102 := ⟨by decide +kernel, rfl⟩
theorem e_X8_event_102 : Dc cX8_event 102 (.iload_n 1) 1 103 := ⟨by decide +kernel, rfl⟩
theorem e_X8_event_103 : Dc cX8_event 103 (.iload_n 2) 1 104 := ⟨by decide +kernel, rfl⟩
theorem e_X8_event_104 : Dc cX8_event 104 (.iload_n 3) 1 105 := ⟨by decide +kernel, rfl⟩
theorem e_X8_event_105 : Dc cX8_event 105 (.iload 4) 2 107 := ⟨by decide +kernel, rfl⟩
theorem e_X8_event_107 : Dc cX8_event 107 (.iload 5) 2 109 := ⟨by decide +kernel, rfl⟩
theorem e_X8_event_109 : Dc cX8_event 109 (.iload 6) 2 111 := ⟨by decide +kernel, rfl⟩
theorem e_X8_event_111 : Dc cX8_event 111 (.invokestatic 122) 3 114 := ⟨by decide +kernel, rfl⟩
theorem e_X8_event_114 : Dc cX8_event 114 (.aload_n 0) 1 115 := ⟨by decide +kernel, rfl⟩
theorem e_X8_event_115 : Dc cX8_event 115 (.invokevirtual 79) 3 118 := ⟨by decide +kernel, rfl⟩
theorem e_X8_event_118 : Dc cX8_event 118 (.iconst 1) 1 119 := ⟨by decide +kernel, rfl⟩
theorem e_X8_event_119 : Dc cX8_event 119 (.isub) 1 120 := ⟨by decide +kernel, rfl⟩
theorem e_X8_event_120 : Dc cX8_event 120 (.ireturn) 1 121 := ⟨by decide +kernel, rfl⟩
set_option maxHeartbeats 4000000 in
set_option maxRecDepth 20000 in
theorem R_X8_event (hD : DD E) (x1 : Int32) (x2 : Int32) (x3 : Int32) (x4 : Int32) (x5 : Int32) (x6 : Int32) (s : Sg) : ∀ v τ, (f_X8_event x1 x2 x3 x4 x5 x6 s) = some (v, τ) → RI l E 2 M_X8_event [.ref (ead E 70), .int x1, .int x2, .int x3, .int x4, .int x5, .int x6] s v τ := by
  refine ofI hD (by decide +kernel) (Nat.le_of_ble_eq_true rfl) (fun X C => ?_)
  show MF l E X (fun q : Int32 × Sg => QI E X q.1 q.2) (f_X8_event x1 x2 x3 x4 x5 x6 s) s 0 [(0, .ref (ead E 70)), (1, .int x1), (2, .int x2), (3, .int x3), (4, .int x4), (5, .int x5), (6, .int x6)] []
  unfold f_X8_event
  refine MF.iload_n C e_X8_event_0 1 rfl rfl ?_
  refine MF.i2l C e_X8_event_1 ?_
  refine MF.lconst (v := (0 : Int64)) C e_X8_event_2 (by decide) ?_
  refine MF.ldc2 C e_X8_event_3 t_X8_111 ?_
  refine MF.callSP (As := [.long (Int32.toInt64 x1), .long (0 : Int64), .long (5 : Int64)]) C (R_X8_in hD (Int32.toInt64 x1) (0 : Int64) (5 : Int64) s) m_X8_in k_X8_75 (by decide) e_X8_event_6 rfl rfl (Nat.le_of_ble_eq_true rfl) (fun v1 => ?_)
  refine MF.join (fun j : Int32 → Option (Int32 × Sg) => ∀ (a2 : Int32), MF l E X (fun q : Int32 × Sg => QI E X q.1 q.2) (j a2) s 32 [(0, .ref (ead E 70)), (1, .int x1), (2, .int x2), (3, .int x3), (4, .int x4), (5, .int x5), (6, .int x6)] [.int a2]) ?_ (fun j3 hj3 => ?_)
  · intro a2
    refine MF.istore (lv' := [(0, .ref (ead E 70)), (1, .int x1), (2, .int x2), (3, .int x3), (4, .int x4), (5, .int x5), (6, .int x6), (7, .int a2)]) C e_X8_event_32 (by decide) rfl ?_
    refine MF.iload C e_X8_event_34 7 rfl ?_
    refine MF.if_eq (tgt := 73) C e_X8_event_36 (by decide) (fun _ => ?_) (fun _ => ?_)
    · refine MF.aload_n C e_X8_event_73 0 rfl rfl ?_
      refine MF.bipush (v := (-2 : Int32)) C e_X8_event_74 (by decide) ?_
      refine MF.callVI (As := [.int (-2 : Int32)]) C (R_X8_bad hD (-2 : Int32) s) m_X8_bad k_X8_88 kO_70 rfl (by decide) e_X8_event_76 rfl rfl (Nat.le_of_ble_eq_true rfl) (fun v4 s5 => ?_)
      exact MF.iret C e_X8_event_79
    · refine MF.iload C e_X8_event_39 4 rfl ?_
      refine MF.i2l C e_X8_event_41 ?_
      refine MF.lconst (v := (0 : Int64)) C e_X8_event_42 (by decide) ?_
      refine MF.ldc2 C e_X8_event_43 t_X8_98 ?_
      refine MF.callSP (As := [.long (Int32.toInt64 x4), .long (0 : Int64), .long (9 : Int64)]) C (R_X8_in hD (Int32.toInt64 x4) (0 : Int64) (9 : Int64) s) m_X8_in k_X8_75 (by decide) e_X8_event_46 rfl rfl (Nat.le_of_ble_eq_true rfl) (fun v6 => ?_)
      refine MF.if_eq (tgt := 73) C e_X8_event_49 (by decide) (fun _ => ?_) (fun _ => ?_)
      · refine MF.aload_n C e_X8_event_73 0 rfl rfl ?_
        refine MF.bipush (v := (-2 : Int32)) C e_X8_event_74 (by decide) ?_
        refine MF.callVI (As := [.int (-2 : Int32)]) C (R_X8_bad hD (-2 : Int32) s) m_X8_bad k_X8_88 kO_70 rfl (by decide) e_X8_event_76 rfl rfl (Nat.le_of_ble_eq_true rfl) (fun v7 s8 => ?_)
        exact MF.iret C e_X8_event_79
      · refine MF.iload C e_X8_event_52 5 rfl ?_
        refine MF.i2l C e_X8_event_54 ?_
        refine MF.lconst (v := (0 : Int64)) C e_X8_event_55 (by decide) ?_
        refine MF.ldc2 C e_X8_event_56 t_X8_98 ?_
        refine MF.callSP (As := [.long (Int32.toInt64 x5), .long (0 : Int64), .long (9 : Int64)]) C (R_X8_in hD (Int32.toInt64 x5) (0 : Int64) (9 : Int64) s) m_X8_in k_X8_75 (by decide) e_X8_event_59 rfl rfl (Nat.le_of_ble_eq_true rfl) (fun v9 => ?_)
        refine MF.if_eq (tgt := 73) C e_X8_event_62 (by decide) (fun _ => ?_) (fun _ => ?_)
        · refine MF.aload_n C e_X8_event_73 0 rfl rfl ?_
          refine MF.bipush (v := (-2 : Int32)) C e_X8_event_74 (by decide) ?_
          refine MF.callVI (As := [.int (-2 : Int32)]) C (R_X8_bad hD (-2 : Int32) s) m_X8_bad k_X8_88 kO_70 rfl (by decide) e_X8_event_76 rfl rfl (Nat.le_of_ble_eq_true rfl) (fun v10 s11 => ?_)
          exact MF.iret C e_X8_event_79
        · refine MF.iload C e_X8_event_65 6 rfl ?_
          refine MF.callSP (As := [.int x6]) C (R_X8_isWord hD x6 s) m_X8_isWord k_X8_100 (by decide) e_X8_event_67 rfl rfl (Nat.le_of_ble_eq_true rfl) (fun v12 => ?_)
          refine MF.if_ne (tgt := 80) C e_X8_event_70 (by decide) (fun _ => ?_) (fun _ => ?_)
          · refine MF.aload_n C e_X8_event_80 0 rfl rfl ?_
            refine MF.callVP (As := []) C (R_X8_events hD s) m_X8_events k_X8_79 kO_70 rfl (by decide) e_X8_event_81 rfl rfl (Nat.le_of_ble_eq_true rfl) (fun v13 => ?_)
            refine MF.bipush (v := (nI 8)) C e_X8_event_84 (by decide) ?_
            refine MF.icmp_ne (tgt := 94) C e_X8_event_86 (by decide) (fun _ => ?_) (fun _ => ?_)
            · refine MF.aload_n C e_X8_event_94 0 rfl rfl ?_
              refine MF.callVU (As := []) C (R_X8_keep hD s) m_X8_keep k_X8_119 kO_70 rfl (by decide) e_X8_event_95 rfl rfl (Nat.le_of_ble_eq_true rfl) (fun s14 => ?_)
              refine MF.aload_n C e_X8_event_98 0 rfl rfl ?_
              refine MF.getR (j := 71) C cf_X8 l_X8_7 e_X8_event_99 kF_70_0 ?_
              refine MF.iload_n C e_X8_event_102 1 rfl rfl ?_
              refine MF.iload_n C e_X8_event_103 2 rfl rfl ?_
              refine MF.iload_n C e_X8_event_104 3 rfl rfl ?_
              refine MF.iload C e_X8_event_105 4 rfl ?_
              refine MF.iload C e_X8_event_107 5 rfl ?_
              refine MF.iload C e_X8_event_109 6 rfl ?_
              refine MF.callSU (As := [.ref (ead E 71), .int x1, .int x2, .int x3, .int x4, .int x5, .int x6]) C (R_X8_layEvent hD 71 x1 x2 x3 x4 x5 x6 kA_71 s14) m_X8_layEvent k_X8_122 (by decide) e_X8_event_111 rfl rfl (Nat.le_of_ble_eq_true rfl) (fun s15 => ?_)
              refine MF.aload_n C e_X8_event_114 0 rfl rfl ?_
              refine MF.callVP (As := []) C (R_X8_events hD s15) m_X8_events k_X8_79 kO_70 rfl (by decide) e_X8_event_115 rfl rfl (Nat.le_of_ble_eq_true rfl) (fun v16 => ?_)
              refine MF.iconst (v := (nI 1)) C e_X8_event_118 rfl ?_
              refine MF.isub C e_X8_event_119 ?_
              exact MF.iret C e_X8_event_120
            · refine MF.aload_n C e_X8_event_89 0 rfl rfl ?_
              refine MF.callVI (As := []) C (R_X8_full hD s) m_X8_full k_X8_104 kO_70 rfl (by decide) e_X8_event_90 rfl rfl (Nat.le_of_ble_eq_true rfl) (fun v17 s18 => ?_)
              exact MF.iret C e_X8_event_93
          · refine MF.aload_n C e_X8_event_73 0 rfl rfl ?_
            refine MF.bipush (v := (-2 : Int32)) C e_X8_event_74 (by decide) ?_
            refine MF.callVI (As := [.int (-2 : Int32)]) C (R_X8_bad hD (-2 : Int32) s) m_X8_bad k_X8_88 kO_70 rfl (by decide) e_X8_event_76 rfl rfl (Nat.le_of_ble_eq_true rfl) (fun v19 s20 => ?_)
            exact MF.iret C e_X8_event_79
  refine MF.join (fun j : Unit → Option (Int32 × Sg) => ∀ (_u : Unit), MF l E X (fun q : Int32 × Sg => QI E X q.1 q.2) (j _u) s 31 [(0, .ref (ead E 70)), (1, .int x1), (2, .int x2), (3, .int x3), (4, .int x4), (5, .int x5), (6, .int x6)] []) ?_ (fun j21 hj21 => ?_)
  · intro _
    refine MF.iconst (v := (nI 0)) C e_X8_event_31 rfl ?_
    exact hj3 (nI 0)
  refine MF.if_eq (tgt := 31) C e_X8_event_9 (by decide) (fun _ => ?_) (fun _ => ?_)
  · exact hj21 ()
  · refine MF.aload_n C e_X8_event_12 0 rfl rfl ?_
    refine MF.iload_n C e_X8_event_13 2 rfl rfl ?_
    refine MF.callVP (As := [.int x2]) C (R_X8_isStreet hD x2 s) m_X8_isStreet k_X8_113 kO_70 rfl (by decide) e_X8_event_14 rfl rfl (Nat.le_of_ble_eq_true rfl) (fun v22 => ?_)
    refine MF.if_eq (tgt := 31) C e_X8_event_17 (by decide) (fun _ => ?_) (fun _ => ?_)
    · exact hj21 ()
    · refine MF.iload_n C e_X8_event_20 3 rfl rfl ?_
      refine MF.callSP (As := [.int x3]) C (R_X8_isHour hD x3 s) m_X8_isHour k_X8_116 (by decide) e_X8_event_21 rfl rfl (Nat.le_of_ble_eq_true rfl) (fun v23 => ?_)
      refine MF.if_eq (tgt := 31) C e_X8_event_24 (by decide) (fun _ => ?_) (fun _ => ?_)
      · exact hj21 ()
      · refine MF.iconst (v := (nI 1)) C e_X8_event_27 rfl ?_
        refine MF.goto (tgt := 32) C e_X8_event_28 (by decide) ?_
        exact hj3 (nI 1)
theorem e_X8_back_0 : Dc cX8_back 0 (.aload_n 0) 1 1 := ⟨by decide +kernel, rfl⟩
theorem e_X8_back_1 : Dc cX8_back 1 (.iload_n 1) 1 2 := ⟨by decide +kernel, rfl⟩
theorem e_X8_back_2 : Dc cX8_back 2 (.invokevirtual 126) 3 5 := ⟨by decide +kernel, rfl⟩
theorem e_X8_back_5 : Dc cX8_back 5 (.ifCond .ne 10) 3 8 := ⟨by decide +kernel, rfl⟩
theorem e_X8_back_8 : Dc cX8_back 8 (.aload_n 0) 1 9 := ⟨by decide +kernel, rfl⟩
theorem e_X8_back_9 : Dc cX8_back 9 (.bipush (-2)) 2 11 := ⟨by decide +kernel, rfl⟩
theorem e_X8_back_11 : Dc cX8_back 11 (.invokevirtual 88) 3 14 := ⟨by decide +kernel, rfl⟩
theorem e_X8_back_14 : Dc cX8_back 14 (.ireturn) 1 15 := ⟨by decide +kernel, rfl⟩
theorem e_X8_back_15 : Dc cX8_back 15 (.aload_n 0) 1 16 := ⟨by decide +kernel, rfl⟩
theorem e_X8_back_16 : Dc cX8_back 16 (.invokevirtual 119) 3 19 := ⟨by decide +kernel, rfl⟩
theorem e_X8_back_19 : Dc cX8_back 19 (.bipush 6) 2 21 := ⟨by decide +kernel, rfl⟩
theorem e_X8_back_21 : Dc cX8_back 21 (.iload_n 1) 1 22 := ⟨by decide +kernel, rfl⟩
theorem e_X8_back_22 : Dc cX8_back 22 (.imul) 1 23 := ⟨by decide +kernel, rfl⟩
theorem e_X8_back_23 : Dc cX8_back 23 (.istore_n 2) 1 24 := ⟨by decide +kernel, rfl⟩
theorem e_X8_back_24 : Dc cX8_back 24 (.iload_n 2) 1 25 := ⟨by decide +kernel, rfl⟩
theorem e_X8_back_25 : Dc cX8_back 25 (.bipush 42) 2 27 := ⟨by decide +kernel, rfl⟩
theorem e_X8_back_27 : Dc cX8_back 27 (.if_icmp .ge 30) 3 30 := ⟨by decide +kernel, rfl⟩
theorem e_X8_back_30 : Dc cX8_back 30 (.aload_n 0) 1 31 := ⟨by decide +kernel, rfl⟩
theorem e_X8_back_31 : Dc cX8_back 31 (.getfield 7) 3 34 := ⟨by decide +kernel, rfl⟩
theorem e_X8_back_34 : Dc cX8_back 34 (.bipush 33) 2 36 := ⟨by decide +kernel, rfl⟩
theorem e_X8_back_36 : Dc cX8_back 36 (.iload_n 2) 1 37 := ⟨by decide +kernel, rfl⟩
theorem e_X8_back_37 : Dc cX8_back 37 (.iadd) 1 38 := ⟨by decide +kernel, rfl⟩
theorem e_X8_back_38 : Dc cX8_back 38 (.aload_n 0) 1 39 := ⟨by decide +kernel, rfl⟩
theorem e_X8_back_39 : Dc cX8_back 39 (.getfield 7) 3 42 := ⟨by decide +kernel, rfl⟩
theorem e_X8_back_42 : Dc cX8_back 42 (.bipush 33) 2 44 := ⟨by decide +kernel, rfl⟩
theorem e_X8_back_44 : Dc cX8_back 44 (.iload_n 2) 1 45 := ⟨by decide +kernel, rfl⟩
theorem e_X8_back_45 : Dc cX8_back 45 (.iadd) 1 46 := ⟨by decide +kernel, rfl⟩
theorem e_X8_back_46 : Dc cX8_back 46 (.bipush 6) 2 48 := ⟨by decide +kernel, rfl⟩
theorem e_X8_back_48 : Dc cX8_back 48 (.iadd) 1 49 := ⟨by decide +kernel, rfl⟩
theorem e_X8_back_49 : Dc cX8_back 49 (.iaload) 1 50 := ⟨by decide +kernel, rfl⟩
theorem e_X8_back_50 : Dc cX8_back 50 (.iastore) 1 51 := ⟨by decide +kernel, rfl⟩
theorem e_X8_back_51 : Dc cX8_back 51 (.iinc 2 1) 3 54 := ⟨by decide +kernel, rfl⟩
theorem e_X8_back_54 : Dc cX8_back 54 (.goto (-30)) 3 57 := ⟨by decide +kernel, rfl⟩
theorem e_X8_back_57 : Dc cX8_back 57 (.aload_n 0) 1 58 := ⟨by decide +kernel, rfl⟩
theorem e_X8_back_58 : Dc cX8_back 58 (.getfield 7) 3 61 := ⟨by decide +kernel, rfl⟩
theorem e_X8_back_61 : Dc cX8_back 61 (.iconst 1) 1 62 := ⟨by decide +kernel, rfl⟩
theorem e_X8_back_62 : Dc cX8_back 62 (.dup2) 1 63 := ⟨by decide +kernel, rfl⟩
theorem e_X8_back_63 : Dc cX8_back 63 (.iaload) 1 64 := ⟨by decide +kernel, rfl⟩
theorem e_X8_back_64 : Dc cX8_back 64 (.iconst 1) 1 65 := ⟨by decide +kernel, rfl⟩
theorem e_X8_back_65 : Dc cX8_back 65 (.isub) 1 66 := ⟨by decide +kernel, rfl⟩
theorem e_X8_back_66 : Dc cX8_back 66 (.iastore) 1 67 := ⟨by decide +kernel, rfl⟩
theorem e_X8_back_67 : Dc cX8_back 67 (.aload_n 0) 1 68 := ⟨by decide +kernel, rfl⟩
theorem e_X8_back_68 : Dc cX8_back 68 (.invokevirtual 79) 3 71 := ⟨by decide +kernel, rfl⟩
theorem e_X8_back_71 : Dc cX8_back 71 (.ireturn) 1 72 := ⟨by decide +kernel, rfl⟩
set_option maxHeartbeats 4000000 in
set_option maxRecDepth 20000 in
theorem R_X8_back (hD : DD E) (x1 : Int32) (s : Sg) : ∀ v τ, (f_X8_back x1 s) = some (v, τ) → RI l E 2 M_X8_back [.ref (ead E 70), .int x1] s v τ := by
  refine ofI hD (by decide +kernel) (Nat.le_of_ble_eq_true rfl) (fun X C => ?_)
  show MF l E X (fun q : Int32 × Sg => QI E X q.1 q.2) (f_X8_back x1 s) s 0 [(0, .ref (ead E 70)), (1, .int x1)] []
  unfold f_X8_back
  refine MF.aload_n C e_X8_back_0 0 rfl rfl ?_
  refine MF.iload_n C e_X8_back_1 1 rfl rfl ?_
  refine MF.callVP (As := [.int x1]) C (R_X8_isEvent hD x1 s) m_X8_isEvent k_X8_126 kO_70 rfl (by decide) e_X8_back_2 rfl rfl (Nat.le_of_ble_eq_true rfl) (fun v1 => ?_)
  refine MF.if_ne (tgt := 15) C e_X8_back_5 (by decide) (fun _ => ?_) (fun _ => ?_)
  · refine MF.aload_n C e_X8_back_15 0 rfl rfl ?_
    refine MF.callVU (As := []) C (R_X8_keep hD s) m_X8_keep k_X8_119 kO_70 rfl (by decide) e_X8_back_16 rfl rfl (Nat.le_of_ble_eq_true rfl) (fun s2 => ?_)
    refine MF.bipush (v := (nI 6)) C e_X8_back_19 (by decide) ?_
    refine MF.iload_n C e_X8_back_21 1 rfl rfl ?_
    refine MF.imul C e_X8_back_22 ?_
    refine MF.nmI (fun v3 => ?_)
    refine MF.istore_n (lv' := [(0, .ref (ead E 70)), (1, .int x1), (2, .int v3)]) C e_X8_back_23 (by decide) rfl ?_
    refine MF.sub [0, 2] rfl ?_
    refine MF.join (fun j : Sg → Option (Int32 × Sg) => ∀ (s4 : Sg), MF l E X (fun q : Int32 × Sg => QI E X q.1 q.2) (j s4) s4 57 [(0, .ref (ead E 70))] []) ?_ (fun j5 hj5 => ?_)
    · intro s4
      refine MF.aload_n C e_X8_back_57 0 rfl rfl ?_
      refine MF.getR (j := 71) C cf_X8 l_X8_7 e_X8_back_58 kF_70_0 ?_
      refine MF.iconst (v := (nI 1)) C e_X8_back_61 rfl ?_
      refine MF.dup2 C e_X8_back_62 rfl rfl ?_
      refine MF.iald C e_X8_back_63 kA_71 (fun v6 => ?_)
      refine MF.iconst (v := (nI 1)) C e_X8_back_64 rfl ?_
      refine MF.isub C e_X8_back_65 ?_
      refine MF.iast C e_X8_back_66 kA_71 (fun s7 => ?_)
      refine MF.aload_n C e_X8_back_67 0 rfl rfl ?_
      refine MF.callVP (As := []) C (R_X8_events hD s7) m_X8_events k_X8_79 kO_70 rfl (by decide) e_X8_back_68 rfl rfl (Nat.le_of_ble_eq_true rfl) (fun v8 => ?_)
      exact MF.iret C e_X8_back_71
    refine MF.loop2 (fun i9 s10 => s10) (fun i9 s10 => [(0, .ref (ead E 70)), (2, .int i9)]) (fun self11 hself11 i9 s10 => ?_) fu v3 s2
    unfold b_X8_back_24
    refine MF.iload_n C e_X8_back_24 1 rfl rfl ?_
    refine MF.bipush (v := (nI 42)) C e_X8_back_25 (by decide) ?_
    refine MF.icmp_ge (tgt := 57) C e_X8_back_27 (by decide) (fun _ => ?_) (fun _ => ?_)
    · refine MF.sub [0] rfl ?_
      exact hj5 s10
    · refine MF.aload_n C e_X8_back_30 0 rfl rfl ?_
      refine MF.getR (j := 71) C cf_X8 l_X8_7 e_X8_back_31 kF_70_0 ?_
      refine MF.bipush (v := (nI 33)) C e_X8_back_34 (by decide) ?_
      refine MF.iload_n C e_X8_back_36 1 rfl rfl ?_
      refine MF.iadd C e_X8_back_37 ?_
      refine MF.aload_n C e_X8_back_38 0 rfl rfl ?_
      refine MF.getR (j := 71) C cf_X8 l_X8_7 e_X8_back_39 kF_70_0 ?_
      refine MF.bipush (v := (nI 33)) C e_X8_back_42 (by decide) ?_
      refine MF.iload_n C e_X8_back_44 1 rfl rfl ?_
      refine MF.iadd C e_X8_back_45 ?_
      refine MF.bipush (v := (nI 6)) C e_X8_back_46 (by decide) ?_
      refine MF.iadd C e_X8_back_48 ?_
      refine MF.iald C e_X8_back_49 kA_71 (fun v12 => ?_)
      refine MF.iast C e_X8_back_50 kA_71 (fun s13 => ?_)
      refine MF.iinc (v := (nI 1)) (lv' := [(0, .ref (ead E 70)), (2, .int (i9 + (nI 1)))]) C e_X8_back_51 1 rfl rfl (by decide) rfl ?_
      refine MF.goto (tgt := 24) C e_X8_back_54 (by decide) ?_
      exact hself11 (i9 + (nI 1)) s13
  · refine MF.aload_n C e_X8_back_8 0 rfl rfl ?_
    refine MF.bipush (v := (-2 : Int32)) C e_X8_back_9 (by decide) ?_
    refine MF.callVI (As := [.int (-2 : Int32)]) C (R_X8_bad hD (-2 : Int32) s) m_X8_bad k_X8_88 kO_70 rfl (by decide) e_X8_back_11 rfl rfl (Nat.le_of_ble_eq_true rfl) (fun v14 s15 => ?_)
    exact MF.iret C e_X8_back_14
end WK
