section WK
variable {l : Launch} {E : EX}
theorem e_X2_size_0 : Dc cX2_size 0 (.aload_n 0) 1 1 := ⟨by decide +kernel, rfl⟩
theorem e_X2_size_1 : Dc cX2_size 1 (.getfield 7) 3 4 := ⟨by decide +kernel, rfl⟩
theorem e_X2_size_4 : Dc cX2_size 4 (.ireturn) 1 5 := ⟨by decide +kernel, rfl⟩
set_option maxHeartbeats 4000000 in
set_option maxRecDepth 20000 in
theorem R_X2_size (hD : DD E) (o : Nat) (ho : iRo o) (s : Sg) : ∀ v, (f_X2_size o s) = some v → RI l E 0 M_X2_size [.ref (ead E o)] s v s := by
  refine ofP hD (by decide +kernel) (Nat.le_of_ble_eq_true rfl) (fun X C => ?_)
  show MF l E X (fun q : Int32 => QI E X q s) (f_X2_size o s) s 0 [(0, .ref (ead E o))] []
  unfold f_X2_size
  refine MF.aload_n C e_X2_size_0 0 rfl rfl ?_
  refine MF.get C cf_X2 l_X2_7 e_X2_size_1 (iRo.f2 ho) ?_
  exact MF.iretp C e_X2_size_4
theorem e_X2_cell_0 : Dc cX2_cell 0 (.iload_n 1) 1 1 := ⟨by decide +kernel, rfl⟩
theorem e_X2_cell_1 : Dc cX2_cell 1 (.ifCond .lt 23) 3 4 := ⟨by decide +kernel, rfl⟩
theorem e_X2_cell_4 : Dc cX2_cell 4 (.iload_n 1) 1 5 := ⟨by decide +kernel, rfl⟩
theorem e_X2_cell_5 : Dc cX2_cell 5 (.aload_n 0) 1 6 := ⟨by decide +kernel, rfl⟩
theorem e_X2_cell_6 : Dc cX2_cell 6 (.getfield 7) 3 9 := ⟨by decide +kernel, rfl⟩
theorem e_X2_cell_9 : Dc cX2_cell 9 (.if_icmp .ge 15) 3 12 := ⟨by decide +kernel, rfl⟩
theorem e_X2_cell_12 : Dc cX2_cell 12 (.iload_n 2) 1 13 := ⟨by decide +kernel, rfl⟩
theorem e_X2_cell_13 : Dc cX2_cell 13 (.ifCond .lt 11) 3 16 := ⟨by decide +kernel, rfl⟩
theorem e_X2_cell_16 : Dc cX2_cell 16 (.iload_n 2) 1 17 := ⟨by decide +kernel, rfl⟩
theorem e_X2_cell_17 : Dc cX2_cell 17 (.aload_n 0) 1 18 := ⟨by decide +kernel, rfl⟩
theorem e_X2_cell_18 : Dc cX2_cell 18 (.getfield 13) 3 21 := ⟨by decide +kernel, rfl⟩
theorem e_X2_cell_21 : Dc cX2_cell 21 (.if_icmp .lt 5) 3 24 := ⟨by decide +kernel, rfl⟩
theorem e_X2_cell_24 : Dc cX2_cell 24 (.iconst 0) 1 25 := ⟨by decide +kernel, rfl⟩
theorem e_X2_cell_25 : Dc cX2_cell 25 (.ireturn) 1 26 := ⟨by decide +kernel, rfl⟩
theorem e_X2_cell_26 : Dc cX2_cell 26 (.aload_n 0) 1 27 := ⟨by decide +kernel, rfl⟩
theorem e_X2_cell_27 : Dc cX2_cell 27 (.getfield 16) 3 30 := ⟨by decide +kernel, rfl⟩
theorem e_X2_cell_30 : Dc cX2_cell 30 (.iload_n 1) 1 31 := ⟨by decide +kernel, rfl⟩
theorem e_X2_cell_31 : Dc cX2_cell 31 (.aload_n 0) 1 32 := ⟨by decide +kernel, rfl⟩
theorem e_X2_cell_32 : Dc cX2_cell 32 (.getfield 13) 3 35 := ⟨by decide +kernel, rfl⟩
theorem e_X2_cell_35 : Dc cX2_cell 35 (.imul) 1 36 := ⟨by decide +kernel, rfl⟩
theorem e_X2_cell_36 : Dc cX2_cell 36 (.iload_n 2) 1 37 := ⟨by decide +kernel, rfl⟩
theorem e_X2_cell_37 : Dc cX2_cell 37 (.iadd) 1 38 := ⟨by decide +kernel, rfl⟩
theorem e_X2_cell_38 : Dc cX2_cell 38 (.iaload) 1 39 := ⟨by decide +kernel, rfl⟩
theorem e_X2_cell_39 : Dc cX2_cell 39 (.ireturn) 1 40 := ⟨by decide +kernel, rfl⟩
set_option maxHeartbeats 4000000 in
set_option maxRecDepth 20000 in
theorem R_X2_cell (hD : DD E) (o : Nat) (x1 : Int32) (x2 : Int32) (ho : iRo o) (s : Sg) : ∀ v, (f_X2_cell o x1 x2 s) = some v → RI l E 0 M_X2_cell [.ref (ead E o), .int x1, .int x2] s v s := by
  refine ofP hD (by decide +kernel) (Nat.le_of_ble_eq_true rfl) (fun X C => ?_)
  show MF l E X (fun q : Int32 => QI E X q s) (f_X2_cell o x1 x2 s) s 0 [(0, .ref (ead E o)), (1, .int x1), (2, .int x2)] []
  unfold f_X2_cell
  refine MF.iload_n C e_X2_cell_0 1 rfl rfl ?_
  refine MF.if_lt (tgt := 24) C e_X2_cell_1 (by decide) (fun _ => ?_) (fun _ => ?_)
  · refine MF.iconst (v := (nI 0)) C e_X2_cell_24 rfl ?_
    exact MF.iretp C e_X2_cell_25
  · refine MF.iload_n C e_X2_cell_4 1 rfl rfl ?_
    refine MF.aload_n C e_X2_cell_5 0 rfl rfl ?_
    refine MF.get C cf_X2 l_X2_7 e_X2_cell_6 (iRo.f2 ho) ?_
    refine MF.icmp_ge (tgt := 24) C e_X2_cell_9 (by decide) (fun _ => ?_) (fun _ => ?_)
    · refine MF.iconst (v := (nI 0)) C e_X2_cell_24 rfl ?_
      exact MF.iretp C e_X2_cell_25
    · refine MF.iload_n C e_X2_cell_12 2 rfl rfl ?_
      refine MF.if_lt (tgt := 24) C e_X2_cell_13 (by decide) (fun _ => ?_) (fun _ => ?_)
      · refine MF.iconst (v := (nI 0)) C e_X2_cell_24 rfl ?_
        exact MF.iretp C e_X2_cell_25
      · refine MF.iload_n C e_X2_cell_16 2 rfl rfl ?_
        refine MF.aload_n C e_X2_cell_17 0 rfl rfl ?_
        refine MF.get C cf_X2 l_X2_13 e_X2_cell_18 (iRo.f0 ho) ?_
        refine MF.icmp_lt (tgt := 26) C e_X2_cell_21 (by decide) (fun _ => ?_) (fun _ => ?_)
        · refine MF.aload_n C e_X2_cell_26 0 rfl rfl ?_
          refine MF.getR (j := (o + 1)) C cf_X2 l_X2_16 e_X2_cell_27 (iRo.f1 ho) ?_
          refine MF.iload_n C e_X2_cell_30 1 rfl rfl ?_
          refine MF.aload_n C e_X2_cell_31 0 rfl rfl ?_
          refine MF.get C cf_X2 l_X2_13 e_X2_cell_32 (iRo.f0 ho) ?_
          refine MF.imul C e_X2_cell_35 ?_
          refine MF.iload_n C e_X2_cell_36 2 rfl rfl ?_
          refine MF.iadd C e_X2_cell_37 ?_
          refine MF.iald C e_X2_cell_38 (iRo.a ho) (fun v1 => ?_)
          exact MF.iretp C e_X2_cell_39
        · refine MF.iconst (v := (nI 0)) C e_X2_cell_24 rfl ?_
          exact MF.iretp C e_X2_cell_25
theorem e_X2_empty_0 : Dc cX2_empty 0 (.aload_n 0) 1 1 := ⟨by decide +kernel, rfl⟩
theorem e_X2_empty_1 : Dc cX2_empty 1 (.iconst 0) 1 2 := ⟨by decide +kernel, rfl⟩
theorem e_X2_empty_2 : Dc cX2_empty 2 (.putfield 7) 3 5 := ⟨by decide +kernel, rfl⟩
theorem e_X2_empty_5 : Dc cX2_empty 5 (.return_) 1 6 := ⟨by decide +kernel, rfl⟩
set_option maxHeartbeats 4000000 in
set_option maxRecDepth 20000 in
theorem R_X2_empty (hD : DD E) (o : Nat) (ho : iRo o) (s : Sg) : ∀ τ, (f_X2_empty o s) = some τ → RV l E 0 M_X2_empty [.ref (ead E o)] s τ := by
  refine ofU hD (by decide +kernel) (Nat.le_of_ble_eq_true rfl) (fun X C => ?_)
  show MF l E X (fun q : Sg => QV E X q) (f_X2_empty o s) s 0 [(0, .ref (ead E o))] []
  unfold f_X2_empty
  refine MF.aload_n C e_X2_empty_0 0 rfl rfl ?_
  refine MF.iconst (v := (nI 0)) C e_X2_empty_1 rfl ?_
  refine MF.put C cf_X2 l_X2_7 p_X2_2 e_X2_empty_2 (iRo.f2 ho) rfl ?_
  refine MF.nmS (fun s1 => ?_)
  exact MF.vret C e_X2_empty_5
theorem e_X7_isBelow_0 : Dc cX7_isBelow 0 (.iload_n 0) 1 1 := ⟨by decide +kernel, rfl⟩
theorem e_X7_isBelow_1 : Dc cX7_isBelow 1 (.ifCond .lt 12) 3 4 := ⟨by decide +kernel, rfl⟩
theorem e_X7_isBelow_4 : Dc cX7_isBelow 4 (.iload_n 0) 1 5 := ⟨by decide +kernel, rfl⟩
theorem e_X7_isBelow_5 : Dc cX7_isBelow 5 (.iload_n 1) 1 6 := ⟨by decide +kernel, rfl⟩
theorem e_X7_isBelow_6 : Dc cX7_isBelow 6 (.if_icmp .ge 7) 3 9 := ⟨by decide +kernel, rfl⟩
theorem e_X7_isBelow_9 : Dc cX7_isBelow 9 (.iconst 1) 1 10 := ⟨by decide +kernel, rfl⟩
theorem e_X7_isBelow_10 : Dc cX7_isBelow 10 (.goto 4) 3 13 := ⟨by decide +kernel, rfl⟩
theorem e_X7_isBelow_13 : Dc cX7_isBelow 13 (.iconst 0) 1 14 := ⟨by decide +kernel, rfl⟩
theorem e_X7_isBelow_14 : Dc cX7_isBelow 14 (.ireturn) 1 15 := ⟨by decide +kernel, rfl⟩
set_option maxHeartbeats 4000000 in
set_option maxRecDepth 20000 in
theorem R_X7_isBelow (hD : DD E) (x0 : Int32) (x1 : Int32) (s : Sg) : ∀ v, (f_X7_isBelow x0 x1 s) = some v → RI l E 0 M_X7_isBelow [.int x0, .int x1] s v s := by
  refine ofP hD (by decide +kernel) (Nat.le_of_ble_eq_true rfl) (fun X C => ?_)
  show MF l E X (fun q : Int32 => QI E X q s) (f_X7_isBelow x0 x1 s) s 0 [(0, .int x0), (1, .int x1)] []
  unfold f_X7_isBelow
  refine MF.iload_n C e_X7_isBelow_0 0 rfl rfl ?_
  refine MF.if_lt (tgt := 13) C e_X7_isBelow_1 (by decide) (fun _ => ?_) (fun _ => ?_)
  · refine MF.iconst (v := (nI 0)) C e_X7_isBelow_13 rfl ?_
    exact MF.nretp C e_X7_isBelow_14 rfl
  · refine MF.iload_n C e_X7_isBelow_4 0 rfl rfl ?_
    refine MF.iload_n C e_X7_isBelow_5 1 rfl rfl ?_
    refine MF.icmp_ge (tgt := 13) C e_X7_isBelow_6 (by decide) (fun _ => ?_) (fun _ => ?_)
    · refine MF.iconst (v := (nI 0)) C e_X7_isBelow_13 rfl ?_
      exact MF.nretp C e_X7_isBelow_14 rfl
    · refine MF.iconst (v := (nI 1)) C e_X7_isBelow_9 rfl ?_
      refine MF.goto (tgt := 14) C e_X7_isBelow_10 (by decide) ?_
      exact MF.nretp C e_X7_isBelow_14 rfl
theorem e_X5_kindOf_0 : Dc cX5_kindOf 0 (.aload_n 0) 1 1 := ⟨by decide +kernel, rfl⟩
theorem e_X5_kindOf_1 : Dc cX5_kindOf 1 (.getfield 20) 3 4 := ⟨by decide +kernel, rfl⟩
theorem e_X5_kindOf_4 : Dc cX5_kindOf 4 (.iload_n 1) 1 5 := ⟨by decide +kernel, rfl⟩
theorem e_X5_kindOf_5 : Dc cX5_kindOf 5 (.iconst 0) 1 6 := ⟨by decide +kernel, rfl⟩
theorem e_X5_kindOf_6 : Dc cX5_kindOf 6 (.invokevirtual 83) 3 9 := ⟨by decide +kernel, rfl⟩
theorem e_X5_kindOf_9 : Dc cX5_kindOf 9 (.istore_n 2) 1 10 := ⟨by decide +kernel, rfl⟩
theorem e_X5_kindOf_10 : Dc cX5_kindOf 10 (.iload_n 2) 1 11 := ⟨by decide +kernel, rfl⟩
theorem e_X5_kindOf_11 : Dc cX5_kindOf 11 (.getstatic 86) 3 14 := ⟨by decide +kernel, rfl⟩
theorem e_X5_kindOf_14 : Dc cX5_kindOf 14 (.arraylength) 1 15 := ⟨by decide +kernel, rfl⟩
theorem e_X5_kindOf_15 : Dc cX5_kindOf 15 (.invokestatic 46) 3 18 := ⟨by decide +kernel, rfl⟩
theorem e_X5_kindOf_18 : Dc cX5_kindOf 18 (.ifCond .eq 7) 3 21 := ⟨by decide +kernel, rfl⟩
theorem e_X5_kindOf_21 : Dc cX5_kindOf 21 (.iload_n 2) 1 22 := ⟨by decide +kernel, rfl⟩
theorem e_X5_kindOf_22 : Dc cX5_kindOf 22 (.goto 4) 3 25 := ⟨by decide +kernel, rfl⟩
theorem e_X5_kindOf_25 : Dc cX5_kindOf 25 (.iconst 0) 1 26 := ⟨by decide +kernel, rfl⟩
theorem e_X5_kindOf_26 : Dc cX5_kindOf 26 (.ireturn) 1 27 := ⟨by decide +kernel, rfl⟩
set_option maxHeartbeats 4000000 in
set_option maxRecDepth 20000 in
theorem R_X5_kindOf (hD : DD E) (t : Nat) (x1 : Int32) (ht : iTo t) (s : Sg) : ∀ v, (f_X5_kindOf t x1 s) = some v → RI l E 1 M_X5_kindOf [.ref (ead E t), .int x1] s v s := by
  refine ofP hD (by decide +kernel) (Nat.le_of_ble_eq_true rfl) (fun X C => ?_)
  show MF l E X (fun q : Int32 => QI E X q s) (f_X5_kindOf t x1 s) s 0 [(0, .ref (ead E t)), (1, .int x1)] []
  unfold f_X5_kindOf
  refine MF.aload_n C e_X5_kindOf_0 0 rfl rfl ?_
  refine MF.getR (j := (t + 3)) C cf_X5 l_X5_20 e_X5_kindOf_1 (iTo.f1 ht) ?_
  refine MF.iload_n C e_X5_kindOf_4 1 rfl rfl ?_
  refine MF.iconst (v := (nI 0)) C e_X5_kindOf_5 rfl ?_
  refine MF.callVP (As := [.int x1, .int (nI 0)]) C (R_X2_cell hD (t + 3) x1 (nI 0) (iTo.o1 ht) s) m_X2_cell k_X5_83 (iRo.o (iTo.o1 ht)) rfl (by decide) e_X5_kindOf_6 rfl rfl (Nat.le_of_ble_eq_true rfl) (fun v1 => ?_)
  refine MF.istore_n (lv' := [(0, .ref (ead E t)), (1, .int x1), (2, .int v1)]) C e_X5_kindOf_9 (by decide) rfl ?_
  refine MF.iload_n C e_X5_kindOf_10 2 rfl rfl ?_
  refine MF.getTN (t := 2) C (by decide) l_X5_86 e_X5_kindOf_11 ?_
  refine MF.tlen (n := (nI 6)) C (by decide) rfl e_X5_kindOf_14 ?_
  refine MF.callSNP (As := [.int v1, .int (nI 6)]) C (R_X7_isBelow hD v1 (nI 6) s) m_X7_isBelow k_X5_46 (by decide) e_X5_kindOf_15 rfl rfl (Nat.le_of_ble_eq_true rfl) (fun v2 => ?_)
  refine MF.if_eq (tgt := 25) C e_X5_kindOf_18 (by decide) (fun _ => ?_) (fun _ => ?_)
  · refine MF.iconst (v := (nI 0)) C e_X5_kindOf_25 rfl ?_
    exact MF.iretp C e_X5_kindOf_26
  · refine MF.iload_n C e_X5_kindOf_21 2 rfl rfl ?_
    refine MF.goto (tgt := 26) C e_X5_kindOf_22 (by decide) ?_
    exact MF.iretp C e_X5_kindOf_26
theorem e_X5_needed_0 : Dc cX5_needed 0 (.getstatic 86) 3 3 := ⟨by decide +kernel, rfl⟩
theorem e_X5_needed_3 : Dc cX5_needed 3 (.aload_n 0) 1 4 := ⟨by decide +kernel, rfl⟩
theorem e_X5_needed_4 : Dc cX5_needed 4 (.iload_n 1) 1 5 := ⟨by decide +kernel, rfl⟩
theorem e_X5_needed_5 : Dc cX5_needed 5 (.invokevirtual 89) 3 8 := ⟨by decide +kernel, rfl⟩
theorem e_X5_needed_8 : Dc cX5_needed 8 (.iaload) 1 9 := ⟨by decide +kernel, rfl⟩
theorem e_X5_needed_9 : Dc cX5_needed 9 (.ireturn) 1 10 := ⟨by decide +kernel, rfl⟩
set_option maxHeartbeats 4000000 in
set_option maxRecDepth 20000 in
theorem R_X5_needed (hD : DD E) (t : Nat) (x1 : Int32) (ht : iTo t) (s : Sg) : ∀ v, (f_X5_needed t x1 s) = some v → RI l E 2 M_X5_needed [.ref (ead E t), .int x1] s v s := by
  refine ofP hD (by decide +kernel) (Nat.le_of_ble_eq_true rfl) (fun X C => ?_)
  show MF l E X (fun q : Int32 => QI E X q s) (f_X5_needed t x1 s) s 0 [(0, .ref (ead E t)), (1, .int x1)] []
  unfold f_X5_needed
  refine MF.getTN (t := 2) C (by decide) l_X5_86 e_X5_needed_0 ?_
  refine MF.aload_n C e_X5_needed_3 0 rfl rfl ?_
  refine MF.iload_n C e_X5_needed_4 1 rfl rfl ?_
  refine MF.callVP (As := [.int x1]) C (R_X5_kindOf hD t x1 ht s) m_X5_kindOf k_X5_89 (iTo.o ht) rfl (by decide) e_X5_needed_5 rfl rfl (Nat.le_of_ble_eq_true rfl) (fun v1 => ?_)
  refine MF.tald C (by decide) e_X5_needed_8 (fun v2 => ?_)
  exact MF.iretp C e_X5_needed_9
theorem e_X5_isSeenByEnough_0 : Dc cX5_isSeenByEnough 0 (.aload_n 0) 1 1 := ⟨by decide +kernel, rfl⟩
theorem e_X5_isSeenByEnough_1 : Dc cX5_isSeenByEnough 1 (.getfield 20) 3 4 := ⟨by decide +kernel, rfl⟩
theorem e_X5_isSeenByEnough_4 : Dc cX5_isSeenByEnough 4 (.iload_n 1) 1 5 := ⟨by decide +kernel, rfl⟩
theorem e_X5_isSeenByEnough_5 : Dc cX5_isSeenByEnough 5 (.iconst 3) 1 6 := ⟨by decide +kernel, rfl⟩
theorem e_X5_isSeenByEnough_6 : Dc cX5_isSeenByEnough 6 (.invokevirtual 83) 3 9 := ⟨by decide +kernel, rfl⟩
theorem e_X5_isSeenByEnough_9 : Dc cX5_isSeenByEnough 9 (.aload_n 0) 1 10 := ⟨by decide +kernel, rfl⟩
theorem e_X5_isSeenByEnough_10 : Dc cX5_isSeenByEnough 10 (.iload_n 1) 1 11 := ⟨by decide +kernel, rfl⟩
theorem e_X5_isSeenByEnough_11 : Dc cX5_isSeenByEnough 11 (.invokevirtual 92) 3 14 := ⟨by decide +kernel, rfl⟩
theorem e_X5_isSeenByEnough_14 : Dc cX5_isSeenByEnough 14 (.if_icmp .lt 7) 3 17 := ⟨by decide +kernel, rfl⟩
theorem e_X5_isSeenByEnough_17 : Dc cX5_isSeenByEnough 17 (.iconst 1) 1 18 := ⟨by decide +kernel, rfl⟩
theorem e_X5_isSeenByEnough_18 : Dc cX5_isSeenByEnough 18 (.goto 4) 3 21 := ⟨by decide +kernel, rfl⟩
theorem e_X5_isSeenByEnough_21 : Dc cX5_isSeenByEnough 21 (.iconst 0) 1 22 := ⟨by decide +kernel, rfl⟩
theorem e_X5_isSeenByEnough_22 : Dc cX5_isSeenByEnough 22 (.ireturn) 1 23 := ⟨by decide +kernel, rfl⟩
set_option maxHeartbeats 4000000 in
set_option maxRecDepth 20000 in
theorem R_X5_isSeenByEnough (hD : DD E) (t : Nat) (x1 : Int32) (ht : iTo t) (s : Sg) : ∀ v, (f_X5_isSeenByEnough t x1 s) = some v → RI l E 3 M_X5_isSeenByEnough [.ref (ead E t), .int x1] s v s := by
  refine ofP hD (by decide +kernel) (Nat.le_of_ble_eq_true rfl) (fun X C => ?_)
  show MF l E X (fun q : Int32 => QI E X q s) (f_X5_isSeenByEnough t x1 s) s 0 [(0, .ref (ead E t)), (1, .int x1)] []
  unfold f_X5_isSeenByEnough
  refine MF.aload_n C e_X5_isSeenByEnough_0 0 rfl rfl ?_
  refine MF.getR (j := (t + 3)) C cf_X5 l_X5_20 e_X5_isSeenByEnough_1 (iTo.f1 ht) ?_
  refine MF.iload_n C e_X5_isSeenByEnough_4 1 rfl rfl ?_
  refine MF.iconst (v := (nI 3)) C e_X5_isSeenByEnough_5 rfl ?_
  refine MF.callVP (As := [.int x1, .int (nI 3)]) C (R_X2_cell hD (t + 3) x1 (nI 3) (iTo.o1 ht) s) m_X2_cell k_X5_83 (iRo.o (iTo.o1 ht)) rfl (by decide) e_X5_isSeenByEnough_6 rfl rfl (Nat.le_of_ble_eq_true rfl) (fun v1 => ?_)
  refine MF.aload_n C e_X5_isSeenByEnough_9 0 rfl rfl ?_
  refine MF.iload_n C e_X5_isSeenByEnough_10 1 rfl rfl ?_
  refine MF.callVP (As := [.int x1]) C (R_X5_needed hD t x1 ht s) m_X5_needed k_X5_92 (iTo.o ht) rfl (by decide) e_X5_isSeenByEnough_11 rfl rfl (Nat.le_of_ble_eq_true rfl) (fun v2 => ?_)
  refine MF.icmp_lt (tgt := 21) C e_X5_isSeenByEnough_14 (by decide) (fun _ => ?_) (fun _ => ?_)
  · refine MF.iconst (v := (nI 0)) C e_X5_isSeenByEnough_21 rfl ?_
    exact MF.nretp C e_X5_isSeenByEnough_22 rfl
  · refine MF.iconst (v := (nI 1)) C e_X5_isSeenByEnough_17 rfl ?_
    refine MF.goto (tgt := 22) C e_X5_isSeenByEnough_18 (by decide) ?_
    exact MF.nretp C e_X5_isSeenByEnough_22 rfl
theorem e_X5_meet_0 : Dc cX5_meet 0 (.aload_n 0) 1 1 := ⟨by decide +kernel, rfl⟩
theorem e_X5_meet_1 : Dc cX5_meet 1 (.getfield 16) 3 4 := ⟨by decide +kernel, rfl⟩
theorem e_X5_meet_4 : Dc cX5_meet 4 (.iload_n 1) 1 5 := ⟨by decide +kernel, rfl⟩
theorem e_X5_meet_5 : Dc cX5_meet 5 (.iconst 0) 1 6 := ⟨by decide +kernel, rfl⟩
theorem e_X5_meet_6 : Dc cX5_meet 6 (.invokevirtual 83) 3 9 := ⟨by decide +kernel, rfl⟩
theorem e_X5_meet_9 : Dc cX5_meet 9 (.istore_n 3) 1 10 := ⟨by decide +kernel, rfl⟩
theorem e_X5_meet_10 : Dc cX5_meet 10 (.aload_n 0) 1 11 := ⟨by decide +kernel, rfl⟩
theorem e_X5_meet_11 : Dc cX5_meet 11 (.getfield 16) 3 14 := ⟨by decide +kernel, rfl⟩
theorem e_X5_meet_14 : Dc cX5_meet 14 (.iload_n 1) 1 15 := ⟨by decide +kernel, rfl⟩
theorem e_X5_meet_15 : Dc cX5_meet 15 (.iconst 1) 1 16 := ⟨by decide +kernel, rfl⟩
theorem e_X5_meet_16 : Dc cX5_meet 16 (.invokevirtual 83) 3 19 := ⟨by decide +kernel, rfl⟩
theorem e_X5_meet_19 : Dc cX5_meet 19 (.istore 4) 2 21 := ⟨by decide +kernel, rfl⟩
theorem e_X5_meet_21 : Dc cX5_meet 21 (.aload_n 0) 1 22 := ⟨by decide +kernel, rfl⟩
theorem e_X5_meet_22 : Dc cX5_meet 22 (.getfield 16) 3 25 := ⟨by decide +kernel, rfl⟩
theorem e_X5_meet_25 : Dc cX5_meet 25 (.iload_n 2) 1 26 := ⟨by decide +kernel, rfl⟩
theorem e_X5_meet_26 : Dc cX5_meet 26 (.iconst 0) 1 27 := ⟨by decide +kernel, rfl⟩
theorem e_X5_meet_27 : Dc cX5_meet 27 (.invokevirtual 83) 3 30 := ⟨by decide +kernel, rfl⟩
theorem e_X5_meet_30 : Dc cX5_meet 30 (.istore 5) 2 32 := ⟨by decide +kernel, rfl⟩
theorem e_X5_meet_32 : Dc cX5_meet 32 (.aload_n 0) 1 33 := ⟨by decide +kernel, rfl⟩
theorem e_X5_meet_33 : Dc cX5_meet 33 (.getfield 16) 3 36 := ⟨by decide +kernel, rfl⟩
theorem e_X5_meet_36 : Dc cX5_meet 36 (.iload_n 2) 1 37 := ⟨by decide +kernel, rfl⟩
theorem e_X5_meet_37 : Dc cX5_meet 37 (.iconst 1) 1 38 := ⟨by decide +kernel, rfl⟩
theorem e_X5_meet_38 : Dc cX5_meet 38 (.invokevirtual 83) 3 41 := ⟨by decide +kernel, rfl⟩
theorem e_X5_meet_41 : Dc cX5_meet 41 (.istore 6) 2 43 := ⟨by decide +kernel, rfl⟩
theorem e_X5_meet_43 : Dc cX5_meet 43 (.iload_n 3) 1 44 := ⟨by decide +kernel, rfl⟩
theorem e_X5_meet_44 : Dc cX5_meet 44 (.iload 5) 2 46 := ⟨by decide +kernel, rfl⟩
theorem e_X5_meet_46 : Dc cX5_meet 46 (.if_icmp .eq 23) 3 49 := ⟨by decide +kernel, rfl⟩
theorem e_X5_meet_49 : Dc cX5_meet 49 (.iload_n 3) 1 50 := ⟨by decide +kernel, rfl⟩
theorem e_X5_meet_50 : Dc cX5_meet 50 (.iload 6) 2 52 := ⟨by decide +kernel, rfl⟩
theorem e_X5_meet_52 : Dc cX5_meet 52 (.if_icmp .eq 17) 3 55 := ⟨by decide +kernel, rfl⟩
theorem e_X5_meet_55 : Dc cX5_meet 55 (.iload 4) 2 57 := ⟨by decide +kernel, rfl⟩
theorem e_X5_meet_57 : Dc cX5_meet 57 (.iload 5) 2 59 := ⟨by decide +kernel, rfl⟩
theorem e_X5_meet_59 : Dc cX5_meet 59 (.if_icmp .eq 10) 3 62 := ⟨by decide +kernel, rfl⟩
theorem e_X5_meet_62 : Dc cX5_meet 62 (.iload 4) 2 64 := ⟨by decide +kernel, rfl⟩
theorem e_X5_meet_64 : Dc cX5_meet 64 (.iload 6) 2 66 := ⟨by decide +kernel, rfl⟩
theorem e_X5_meet_66 : Dc cX5_meet 66 (.if_icmp .ne 7) 3 69 := ⟨by decide +kernel, rfl⟩
theorem e_X5_meet_69 : Dc cX5_meet 69 (.iconst 1) 1 70 := ⟨by decide +kernel, rfl⟩
theorem e_X5_meet_70 : Dc cX5_meet 70 (.goto 4) 3 73 := ⟨by decide +kernel, rfl⟩
theorem e_X5_meet_73 : Dc cX5_meet 73 (.iconst 0) 1 74 := ⟨by decide +kernel, rfl⟩
theorem e_X5_meet_74 : Dc cX5_meet 74 (.ireturn) 1 75 := ⟨by decide +kernel, rfl⟩
set_option maxHeartbeats 4000000 in
set_option maxRecDepth 20000 in
theorem R_X5_meet (hD : DD E) (t : Nat) (x1 : Int32) (x2 : Int32) (ht : iTo t) (s : Sg) : ∀ v, (f_X5_meet t x1 x2 s) = some v → RI l E 1 M_X5_meet [.ref (ead E t), .int x1, .int x2] s v s := by
  refine ofP hD (by decide +kernel) (Nat.le_of_ble_eq_true rfl) (fun X C => ?_)
  show MF l E X (fun q : Int32 => QI E X q s) (f_X5_meet t x1 x2 s) s 0 [(0, .ref (ead E t)), (1, .int x1), (2, .int x2)] []
  unfold f_X5_meet
  refine MF.aload_n C e_X5_meet_0 0 rfl rfl ?_
  refine MF.getR (j := (t + 1)) C cf_X5 l_X5_16 e_X5_meet_1 (iTo.f0 ht) ?_
  refine MF.iload_n C e_X5_meet_4 1 rfl rfl ?_
  refine MF.iconst (v := (nI 0)) C e_X5_meet_5 rfl ?_
  refine MF.callVP (As := [.int x1, .int (nI 0)]) C (R_X2_cell hD (t + 1) x1 (nI 0) (iTo.o0 ht) s) m_X2_cell k_X5_83 (iRo.o (iTo.o0 ht)) rfl (by decide) e_X5_meet_6 rfl rfl (Nat.le_of_ble_eq_true rfl) (fun v1 => ?_)
  refine MF.istore_n (lv' := [(0, .ref (ead E t)), (1, .int x1), (2, .int x2), (3, .int v1)]) C e_X5_meet_9 (by decide) rfl ?_
  refine MF.aload_n C e_X5_meet_10 0 rfl rfl ?_
  refine MF.getR (j := (t + 1)) C cf_X5 l_X5_16 e_X5_meet_11 (iTo.f0 ht) ?_
  refine MF.iload_n C e_X5_meet_14 1 rfl rfl ?_
  refine MF.iconst (v := (nI 1)) C e_X5_meet_15 rfl ?_
  refine MF.callVP (As := [.int x1, .int (nI 1)]) C (R_X2_cell hD (t + 1) x1 (nI 1) (iTo.o0 ht) s) m_X2_cell k_X5_83 (iRo.o (iTo.o0 ht)) rfl (by decide) e_X5_meet_16 rfl rfl (Nat.le_of_ble_eq_true rfl) (fun v2 => ?_)
  refine MF.istore (lv' := [(0, .ref (ead E t)), (1, .int x1), (2, .int x2), (3, .int v1), (4, .int v2)]) C e_X5_meet_19 (by decide) rfl ?_
  refine MF.aload_n C e_X5_meet_21 0 rfl rfl ?_
  refine MF.getR (j := (t + 1)) C cf_X5 l_X5_16 e_X5_meet_22 (iTo.f0 ht) ?_
  refine MF.iload_n C e_X5_meet_25 2 rfl rfl ?_
  refine MF.iconst (v := (nI 0)) C e_X5_meet_26 rfl ?_
  refine MF.callVP (As := [.int x2, .int (nI 0)]) C (R_X2_cell hD (t + 1) x2 (nI 0) (iTo.o0 ht) s) m_X2_cell k_X5_83 (iRo.o (iTo.o0 ht)) rfl (by decide) e_X5_meet_27 rfl rfl (Nat.le_of_ble_eq_true rfl) (fun v3 => ?_)
  refine MF.istore (lv' := [(0, .ref (ead E t)), (1, .int x1), (2, .int x2), (3, .int v1), (4, .int v2), (5, .int v3)]) C e_X5_meet_30 (by decide) rfl ?_
  refine MF.aload_n C e_X5_meet_32 0 rfl rfl ?_
  refine MF.getR (j := (t + 1)) C cf_X5 l_X5_16 e_X5_meet_33 (iTo.f0 ht) ?_
  refine MF.iload_n C e_X5_meet_36 2 rfl rfl ?_
  refine MF.iconst (v := (nI 1)) C e_X5_meet_37 rfl ?_
  refine MF.callVP (As := [.int x2, .int (nI 1)]) C (R_X2_cell hD (t + 1) x2 (nI 1) (iTo.o0 ht) s) m_X2_cell k_X5_83 (iRo.o (iTo.o0 ht)) rfl (by decide) e_X5_meet_38 rfl rfl (Nat.le_of_ble_eq_true rfl) (fun v4 => ?_)
  refine MF.istore (lv' := [(0, .ref (ead E t)), (1, .int x1), (2, .int x2), (3, .int v1), (4, .int v2), (5, .int v3), (6, .int v4)]) C e_X5_meet_41 (by decide) rfl ?_
  refine MF.iload_n C e_X5_meet_43 3 rfl rfl ?_
  refine MF.iload C e_X5_meet_44 5 rfl ?_
  refine MF.icmp_eq (tgt := 69) C e_X5_meet_46 (by decide) (fun _ => ?_) (fun _ => ?_)
  · refine MF.iconst (v := (nI 1)) C e_X5_meet_69 rfl ?_
    refine MF.goto (tgt := 74) C e_X5_meet_70 (by decide) ?_
    exact MF.nretp C e_X5_meet_74 rfl
  · refine MF.iload_n C e_X5_meet_49 3 rfl rfl ?_
    refine MF.iload C e_X5_meet_50 6 rfl ?_
    refine MF.icmp_eq (tgt := 69) C e_X5_meet_52 (by decide) (fun _ => ?_) (fun _ => ?_)
    · refine MF.iconst (v := (nI 1)) C e_X5_meet_69 rfl ?_
      refine MF.goto (tgt := 74) C e_X5_meet_70 (by decide) ?_
      exact MF.nretp C e_X5_meet_74 rfl
    · refine MF.iload C e_X5_meet_55 4 rfl ?_
      refine MF.iload C e_X5_meet_57 5 rfl ?_
      refine MF.icmp_eq (tgt := 69) C e_X5_meet_59 (by decide) (fun _ => ?_) (fun _ => ?_)
      · refine MF.iconst (v := (nI 1)) C e_X5_meet_69 rfl ?_
        refine MF.goto (tgt := 74) C e_X5_meet_70 (by decide) ?_
        exact MF.nretp C e_X5_meet_74 rfl
      · refine MF.iload C e_X5_meet_62 4 rfl ?_
        refine MF.iload C e_X5_meet_64 6 rfl ?_
        refine MF.icmp_ne (tgt := 73) C e_X5_meet_66 (by decide) (fun _ => ?_) (fun _ => ?_)
        · refine MF.iconst (v := (nI 0)) C e_X5_meet_73 rfl ?_
          exact MF.nretp C e_X5_meet_74 rfl
        · refine MF.iconst (v := (nI 1)) C e_X5_meet_69 rfl ?_
          refine MF.goto (tgt := 74) C e_X5_meet_70 (by decide) ?_
          exact MF.nretp C e_X5_meet_74 rfl
theorem e_X5_streetsOf_0 : Dc cX5_streetsOf 0 (.aload_n 0) 1 1 := ⟨by decide +kernel, rfl⟩
theorem e_X5_streetsOf_1 : Dc cX5_streetsOf 1 (.getfield 20) 3 4 := ⟨by decide +kernel, rfl⟩
theorem e_X5_streetsOf_4 : Dc cX5_streetsOf 4 (.iload_n 1) 1 5 := ⟨by decide +kernel, rfl⟩
theorem e_X5_streetsOf_5 : Dc cX5_streetsOf 5 (.iconst 1) 1 6 := ⟨by decide +kernel, rfl⟩
theorem e_X5_streetsOf_6 : Dc cX5_streetsOf 6 (.invokevirtual 83) 3 9 := ⟨by decide +kernel, rfl⟩
theorem e_X5_streetsOf_9 : Dc cX5_streetsOf 9 (.istore_n 2) 1 10 := ⟨by decide +kernel, rfl⟩
theorem e_X5_streetsOf_10 : Dc cX5_streetsOf 10 (.aload_n 0) 1 11 := ⟨by decide +kernel, rfl⟩
theorem e_X5_streetsOf_11 : Dc cX5_streetsOf 11 (.iload_n 1) 1 12 := ⟨by decide +kernel, rfl⟩
theorem e_X5_streetsOf_12 : Dc cX5_streetsOf 12 (.invokevirtual 89) 3 15 := ⟨by decide +kernel, rfl⟩
theorem e_X5_streetsOf_15 : Dc cX5_streetsOf 15 (.iconst 1) 1 16 := ⟨by decide +kernel, rfl⟩
theorem e_X5_streetsOf_16 : Dc cX5_streetsOf 16 (.if_icmp .eq 7) 3 19 := ⟨by decide +kernel, rfl⟩
theorem e_X5_streetsOf_19 : Dc cX5_streetsOf 19 (.iconst 1) 1 20 := ⟨by decide +kernel, rfl⟩
theorem e_X5_streetsOf_20 : Dc cX5_streetsOf 20 (.iload_n 2) 1 21 := ⟨by decide +kernel, rfl⟩
theorem e_X5_streetsOf_21 : Dc cX5_streetsOf 21 (.ishl) 1 22 := ⟨by decide +kernel, rfl⟩
theorem e_X5_streetsOf_22 : Dc cX5_streetsOf 22 (.ireturn) 1 23 := ⟨by decide +kernel, rfl⟩
theorem e_X5_streetsOf_23 : Dc cX5_streetsOf 23 (.iconst 0) 1 24 := ⟨by decide +kernel, rfl⟩
theorem e_X5_streetsOf_24 : Dc cX5_streetsOf 24 (.istore_n 3) 1 25 := ⟨by decide +kernel, rfl⟩
theorem e_X5_streetsOf_25 : Dc cX5_streetsOf 25 (.iconst 0) 1 26 := ⟨by decide +kernel, rfl⟩
theorem e_X5_streetsOf_26 : Dc cX5_streetsOf 26 (.istore 4) 2 28 := ⟨by decide +kernel, rfl⟩
theorem e_X5_streetsOf_28 : Dc cX5_streetsOf 28 (.iload 4) 2 30 := ⟨by decide +kernel, rfl⟩
theorem e_X5_streetsOf_30 : Dc cX5_streetsOf 30 (.aload_n 0) 1 31 := ⟨by decide +kernel, rfl⟩
theorem e_X5_streetsOf_31 : Dc cX5_streetsOf 31 (.getfield 16) 3 34 := ⟨by decide +kernel, rfl⟩
theorem e_X5_streetsOf_34 : Dc cX5_streetsOf 34 (.invokevirtual 50) 3 37 := ⟨by decide +kernel, rfl⟩
theorem e_X5_streetsOf_37 : Dc cX5_streetsOf 37 (.if_icmp .ge 26) 3 40 := ⟨by decide +kernel, rfl⟩
theorem e_X5_streetsOf_40 : Dc cX5_streetsOf 40 (.aload_n 0) 1 41 := ⟨by decide +kernel, rfl⟩
theorem e_X5_streetsOf_41 : Dc cX5_streetsOf 41 (.iload_n 2) 1 42 := ⟨by decide +kernel, rfl⟩
theorem e_X5_streetsOf_42 : Dc cX5_streetsOf 42 (.iload 4) 2 44 := ⟨by decide +kernel, rfl⟩
theorem e_X5_streetsOf_44 : Dc cX5_streetsOf 44 (.invokevirtual 101) 3 47 := ⟨by decide +kernel, rfl⟩
theorem e_X5_streetsOf_47 : Dc cX5_streetsOf 47 (.ifCond .eq 10) 3 50 := ⟨by decide +kernel, rfl⟩
theorem e_X5_streetsOf_50 : Dc cX5_streetsOf 50 (.iload_n 3) 1 51 := ⟨by decide +kernel, rfl⟩
theorem e_X5_streetsOf_51 : Dc cX5_streetsOf 51 (.iconst 1) 1 52 := ⟨by decide +kernel, rfl⟩
theorem e_X5_streetsOf_52 : Dc cX5_streetsOf 52 (.iload 4) 2 54 := ⟨by decide +kernel, rfl⟩
theorem e_X5_streetsOf_54 : Dc cX5_streetsOf 54 (.ishl) 1 55 := ⟨by decide +kernel, rfl⟩
theorem e_X5_streetsOf_55 : Dc cX5_streetsOf 55 (.ior) 1 56 := ⟨by decide +kernel, rfl⟩
theorem e_X5_streetsOf_56 : Dc cX5_streetsOf 56 (.istore_n 3) 1 57 := ⟨by decide +kernel, rfl⟩
theorem e_X5_streetsOf_57 : Dc cX5_streetsOf 57 (.iinc 4 1) 3 60 := ⟨by decide +kernel, rfl⟩
theorem e_X5_streetsOf_60 : Dc cX5_streetsOf 60 (.goto (-32)) 3 63 := ⟨by decide +kernel, rfl⟩
theorem e_X5_streetsOf_63 : Dc cX5_streetsOf 63 (.iload_n 3) 1 64 := ⟨by decide +kernel, rfl⟩
theorem e_X5_streetsOf_64 : Dc cX5_streetsOf 64 (.ireturn) 1 65 := ⟨by decide +kernel, rfl⟩
set_option maxHeartbeats 4000000 in
set_option maxRecDepth 20000 in
theorem R_X5_streetsOf (hD : DD E) (t : Nat) (x1 : Int32) (ht : iTo t) (s : Sg) : ∀ v, (f_X5_streetsOf t x1 s) = some v → RI l E 2 M_X5_streetsOf [.ref (ead E t), .int x1] s v s := by
  refine ofP hD (by decide +kernel) (Nat.le_of_ble_eq_true rfl) (fun X C => ?_)
  show MF l E X (fun q : Int32 => QI E X q s) (f_X5_streetsOf t x1 s) s 0 [(0, .ref (ead E t)), (1, .int x1)] []
  unfold f_X5_streetsOf
  refine MF.aload_n C e_X5_streetsOf_0 0 rfl rfl ?_
  refine MF.getR (j := (t + 3)) C cf_X5 l_X5_20 e_X5_streetsOf_1 (iTo.f1 ht) ?_
  refine MF.iload_n C e_X5_streetsOf_4 1 rfl rfl ?_
  refine MF.iconst (v := (nI 1)) C e_X5_streetsOf_5 rfl ?_
  refine MF.callVP (As := [.int x1, .int (nI 1)]) C (R_X2_cell hD (t + 3) x1 (nI 1) (iTo.o1 ht) s) m_X2_cell k_X5_83 (iRo.o (iTo.o1 ht)) rfl (by decide) e_X5_streetsOf_6 rfl rfl (Nat.le_of_ble_eq_true rfl) (fun v1 => ?_)
  refine MF.istore_n (lv' := [(0, .ref (ead E t)), (1, .int x1), (2, .int v1)]) C e_X5_streetsOf_9 (by decide) rfl ?_
  refine MF.aload_n C e_X5_streetsOf_10 0 rfl rfl ?_
  refine MF.iload_n C e_X5_streetsOf_11 1 rfl rfl ?_
  refine MF.callVP (As := [.int x1]) C (R_X5_kindOf hD t x1 ht s) m_X5_kindOf k_X5_89 (iTo.o ht) rfl (by decide) e_X5_streetsOf_12 rfl rfl (Nat.le_of_ble_eq_true rfl) (fun v2 => ?_)
  refine MF.iconst (v := (nI 1)) C e_X5_streetsOf_15 rfl ?_
  refine MF.icmp_eq (tgt := 23) C e_X5_streetsOf_16 (by decide) (fun _ => ?_) (fun _ => ?_)
  · refine MF.iconst (v := (nI 0)) C e_X5_streetsOf_23 rfl ?_
    refine MF.istore_n (lv' := [(0, .ref (ead E t)), (1, .int x1), (2, .int v1), (3, .int (nI 0))]) C e_X5_streetsOf_24 (by decide) rfl ?_
    refine MF.iconst (v := (nI 0)) C e_X5_streetsOf_25 rfl ?_
    refine MF.istore (lv' := [(0, .ref (ead E t)), (1, .int x1), (2, .int v1), (3, .int (nI 0)), (4, .int (nI 0))]) C e_X5_streetsOf_26 (by decide) rfl ?_
    refine MF.sub [0, 2, 3, 4] rfl ?_
    refine MF.loop2 (fun i3 i4 => s) (fun i3 i4 => [(0, .ref (ead E t)), (2, .int v1), (3, .int i3), (4, .int i4)]) (fun self5 hself5 i3 i4 => ?_) fu (nI 0) (nI 0)
    unfold b_X5_streetsOf_28
    refine MF.iload C e_X5_streetsOf_28 3 rfl ?_
    refine MF.aload_n C e_X5_streetsOf_30 0 rfl rfl ?_
    refine MF.getR (j := (t + 1)) C cf_X5 l_X5_16 e_X5_streetsOf_31 (iTo.f0 ht) ?_
    refine MF.callVP (As := []) C (R_X2_size hD (t + 1) (iTo.o0 ht) s) m_X2_size k_X5_50 (iRo.o (iTo.o0 ht)) rfl (by decide) e_X5_streetsOf_34 rfl rfl (Nat.le_of_ble_eq_true rfl) (fun v6 => ?_)
    refine MF.icmp_ge (tgt := 63) C e_X5_streetsOf_37 (by decide) (fun _ => ?_) (fun _ => ?_)
    · refine MF.iload_n C e_X5_streetsOf_63 2 rfl rfl ?_
      exact MF.iretp C e_X5_streetsOf_64
    · refine MF.aload_n C e_X5_streetsOf_40 0 rfl rfl ?_
      refine MF.iload_n C e_X5_streetsOf_41 1 rfl rfl ?_
      refine MF.iload C e_X5_streetsOf_42 3 rfl ?_
      refine MF.callVP (As := [.int v1, .int i4]) C (R_X5_meet hD t v1 i4 ht s) m_X5_meet k_X5_101 (iTo.o ht) rfl (by decide) e_X5_streetsOf_44 rfl rfl (Nat.le_of_ble_eq_true rfl) (fun v7 => ?_)
      refine MF.join (fun j : Int32 → Option Int32 => ∀ (a8 : Int32), MF l E X (fun q : Int32 => QI E X q s) (j a8) s 57 [(0, .ref (ead E t)), (2, .int v1), (3, .int a8), (4, .int i4)] []) ?_ (fun j9 hj9 => ?_)
      · intro a8
        refine MF.iinc (v := (nI 1)) (lv' := [(0, .ref (ead E t)), (2, .int v1), (3, .int a8), (4, .int (i4 + (nI 1)))]) C e_X5_streetsOf_57 3 rfl rfl (by decide) rfl ?_
        refine MF.goto (tgt := 28) C e_X5_streetsOf_60 (by decide) ?_
        exact hself5 a8 (i4 + (nI 1))
      refine MF.if_eq (tgt := 57) C e_X5_streetsOf_47 (by decide) (fun _ => ?_) (fun _ => ?_)
      · exact hj9 i3
      · refine MF.iload_n C e_X5_streetsOf_50 2 rfl rfl ?_
        refine MF.iconst (v := (nI 1)) C e_X5_streetsOf_51 rfl ?_
        refine MF.iload C e_X5_streetsOf_52 3 rfl ?_
        refine MF.ishl C e_X5_streetsOf_54 ?_
        refine MF.ior C e_X5_streetsOf_55 ?_
        refine MF.nmI (fun v10 => ?_)
        refine MF.istore_n (lv' := [(0, .ref (ead E t)), (2, .int v1), (3, .int v10), (4, .int i4)]) C e_X5_streetsOf_56 (by decide) rfl ?_
        exact hj9 v10
  · refine MF.iconst (v := (nI 1)) C e_X5_streetsOf_19 rfl ?_
    refine MF.iload_n C e_X5_streetsOf_20 2 rfl rfl ?_
    refine MF.ishl C e_X5_streetsOf_21 ?_
    exact MF.iretp C e_X5_streetsOf_22
theorem e_X7_rankBy_0 : Dc cX7_rankBy 0 (.iload_n 0) 1 1 := ⟨by decide +kernel, rfl⟩
theorem e_X7_rankBy_1 : Dc cX7_rankBy 1 (.iconst 3) 1 2 := ⟨by decide +kernel, rfl⟩
theorem e_X7_rankBy_2 : Dc cX7_rankBy 2 (.if_icmp .ne 7) 3 5 := ⟨by decide +kernel, rfl⟩
theorem e_X7_rankBy_5 : Dc cX7_rankBy 5 (.iload_n 1) 1 6 := ⟨by decide +kernel, rfl⟩
theorem e_X7_rankBy_6 : Dc cX7_rankBy 6 (.iconst 2) 1 7 := ⟨by decide +kernel, rfl⟩
theorem e_X7_rankBy_7 : Dc cX7_rankBy 7 (.idiv) 1 8 := ⟨by decide +kernel, rfl⟩
theorem e_X7_rankBy_8 : Dc cX7_rankBy 8 (.ireturn) 1 9 := ⟨by decide +kernel, rfl⟩
theorem e_X7_rankBy_9 : Dc cX7_rankBy 9 (.iload_n 0) 1 10 := ⟨by decide +kernel, rfl⟩
theorem e_X7_rankBy_10 : Dc cX7_rankBy 10 (.getstatic 275) 3 13 := ⟨by decide +kernel, rfl⟩
theorem e_X7_rankBy_13 : Dc cX7_rankBy 13 (.arraylength) 1 14 := ⟨by decide +kernel, rfl⟩
theorem e_X7_rankBy_14 : Dc cX7_rankBy 14 (.invokestatic 93) 3 17 := ⟨by decide +kernel, rfl⟩
theorem e_X7_rankBy_17 : Dc cX7_rankBy 17 (.ifCond .eq 13) 3 20 := ⟨by decide +kernel, rfl⟩
theorem e_X7_rankBy_20 : Dc cX7_rankBy 20 (.iload_n 1) 1 21 := ⟨by decide +kernel, rfl⟩
theorem e_X7_rankBy_21 : Dc cX7_rankBy 21 (.getstatic 275) 3 24 := ⟨by decide +kernel, rfl⟩
theorem e_X7_rankBy_24 : Dc cX7_rankBy 24 (.iload_n 0) 1 25 := ⟨by decide +kernel, rfl⟩
theorem e_X7_rankBy_25 : Dc cX7_rankBy 25 (.iaload) 1 26 := ⟨by decide +kernel, rfl⟩
theorem e_X7_rankBy_26 : Dc cX7_rankBy 26 (.iadd) 1 27 := ⟨by decide +kernel, rfl⟩
theorem e_X7_rankBy_27 : Dc cX7_rankBy 27 (.goto 4) 3 30 := ⟨by decide +kernel, rfl⟩
theorem e_X7_rankBy_30 : Dc cX7_rankBy 30 (.iload_n 1) 1 31 := ⟨by decide +kernel, rfl⟩
theorem e_X7_rankBy_31 : Dc cX7_rankBy 31 (.ireturn) 1 32 := ⟨by decide +kernel, rfl⟩
set_option maxHeartbeats 4000000 in
set_option maxRecDepth 20000 in
theorem R_X7_rankBy (hD : DD E) (x0 : Int32) (x1 : Int32) (s : Sg) : ∀ v, (f_X7_rankBy x0 x1 s) = some v → RI l E 1 M_X7_rankBy [.int x0, .int x1] s v s := by
  refine ofP hD (by decide +kernel) (Nat.le_of_ble_eq_true rfl) (fun X C => ?_)
  show MF l E X (fun q : Int32 => QI E X q s) (f_X7_rankBy x0 x1 s) s 0 [(0, .int x0), (1, .int x1)] []
  unfold f_X7_rankBy
  refine MF.iload_n C e_X7_rankBy_0 0 rfl rfl ?_
  refine MF.iconst (v := (nI 3)) C e_X7_rankBy_1 rfl ?_
  refine MF.icmp_ne (tgt := 9) C e_X7_rankBy_2 (by decide) (fun _ => ?_) (fun _ => ?_)
  · refine MF.iload_n C e_X7_rankBy_9 0 rfl rfl ?_
    refine MF.getT (t := 3) C (by decide) l_X7_275 e_X7_rankBy_10 ?_
    refine MF.tlen (n := (nI 6)) C (by decide) rfl e_X7_rankBy_13 ?_
    refine MF.callSP (As := [.int x0, .int (nI 6)]) C (R_X7_isBelow hD x0 (nI 6) s) m_X7_isBelow k_X7_93 (by decide) e_X7_rankBy_14 rfl rfl (Nat.le_of_ble_eq_true rfl) (fun v1 => ?_)
    refine MF.if_eq (tgt := 30) C e_X7_rankBy_17 (by decide) (fun _ => ?_) (fun _ => ?_)
    · refine MF.iload_n C e_X7_rankBy_30 1 rfl rfl ?_
      exact MF.iretp C e_X7_rankBy_31
    · refine MF.iload_n C e_X7_rankBy_20 1 rfl rfl ?_
      refine MF.getT (t := 3) C (by decide) l_X7_275 e_X7_rankBy_21 ?_
      refine MF.iload_n C e_X7_rankBy_24 0 rfl rfl ?_
      refine MF.tald C (by decide) e_X7_rankBy_25 (fun v2 => ?_)
      refine MF.iadd C e_X7_rankBy_26 ?_
      refine MF.goto (tgt := 31) C e_X7_rankBy_27 (by decide) ?_
      exact MF.iretp C e_X7_rankBy_31
  · refine MF.iload_n C e_X7_rankBy_5 1 rfl rfl ?_
    refine MF.iconst (v := (nI 2)) C e_X7_rankBy_6 rfl ?_
    refine MF.idiv C e_X7_rankBy_7 (by decide) ?_
    exact MF.iretp C e_X7_rankBy_8
theorem e_X5_rankGiven_0 : Dc cX5_rankGiven 0 (.aload_n 0) 1 1 := ⟨by decide +kernel, rfl⟩
theorem e_X5_rankGiven_1 : Dc cX5_rankGiven 1 (.iload_n 1) 1 2 := ⟨by decide +kernel, rfl⟩
theorem e_X5_rankGiven_2 : Dc cX5_rankGiven 2 (.invokevirtual 89) 3 5 := ⟨by decide +kernel, rfl⟩
theorem e_X5_rankGiven_5 : Dc cX5_rankGiven 5 (.aload_n 0) 1 6 := ⟨by decide +kernel, rfl⟩
theorem e_X5_rankGiven_6 : Dc cX5_rankGiven 6 (.getfield 20) 3 9 := ⟨by decide +kernel, rfl⟩
theorem e_X5_rankGiven_9 : Dc cX5_rankGiven 9 (.iload_n 1) 1 10 := ⟨by decide +kernel, rfl⟩
theorem e_X5_rankGiven_10 : Dc cX5_rankGiven 10 (.iconst 4) 1 11 := ⟨by decide +kernel, rfl⟩
theorem e_X5_rankGiven_11 : Dc cX5_rankGiven 11 (.invokevirtual 83) 3 14 := ⟨by decide +kernel, rfl⟩
theorem e_X5_rankGiven_14 : Dc cX5_rankGiven 14 (.invokestatic 95) 3 17 := ⟨by decide +kernel, rfl⟩
theorem e_X5_rankGiven_17 : Dc cX5_rankGiven 17 (.ireturn) 1 18 := ⟨by decide +kernel, rfl⟩
set_option maxHeartbeats 4000000 in
set_option maxRecDepth 20000 in
theorem R_X5_rankGiven (hD : DD E) (t : Nat) (x1 : Int32) (ht : iTo t) (s : Sg) : ∀ v, (f_X5_rankGiven t x1 s) = some v → RI l E 2 M_X5_rankGiven [.ref (ead E t), .int x1] s v s := by
  refine ofP hD (by decide +kernel) (Nat.le_of_ble_eq_true rfl) (fun X C => ?_)
  show MF l E X (fun q : Int32 => QI E X q s) (f_X5_rankGiven t x1 s) s 0 [(0, .ref (ead E t)), (1, .int x1)] []
  unfold f_X5_rankGiven
  refine MF.aload_n C e_X5_rankGiven_0 0 rfl rfl ?_
  refine MF.iload_n C e_X5_rankGiven_1 1 rfl rfl ?_
  refine MF.callVP (As := [.int x1]) C (R_X5_kindOf hD t x1 ht s) m_X5_kindOf k_X5_89 (iTo.o ht) rfl (by decide) e_X5_rankGiven_2 rfl rfl (Nat.le_of_ble_eq_true rfl) (fun v1 => ?_)
  refine MF.aload_n C e_X5_rankGiven_5 0 rfl rfl ?_
  refine MF.getR (j := (t + 3)) C cf_X5 l_X5_20 e_X5_rankGiven_6 (iTo.f1 ht) ?_
  refine MF.iload_n C e_X5_rankGiven_9 1 rfl rfl ?_
  refine MF.iconst (v := (nI 4)) C e_X5_rankGiven_10 rfl ?_
  refine MF.callVP (As := [.int x1, .int (nI 4)]) C (R_X2_cell hD (t + 3) x1 (nI 4) (iTo.o1 ht) s) m_X2_cell k_X5_83 (iRo.o (iTo.o1 ht)) rfl (by decide) e_X5_rankGiven_11 rfl rfl (Nat.le_of_ble_eq_true rfl) (fun v2 => ?_)
  refine MF.callSNP (As := [.int v1, .int v2]) C (R_X7_rankBy hD v1 v2 s) m_X7_rankBy k_X5_95 (by decide) e_X5_rankGiven_14 rfl rfl (Nat.le_of_ble_eq_true rfl) (fun v3 => ?_)
  exact MF.iretp C e_X5_rankGiven_17
theorem e_X5_hoursGiven_0 : Dc cX5_hoursGiven 0 (.getstatic 98) 3 3 := ⟨by decide +kernel, rfl⟩
theorem e_X5_hoursGiven_3 : Dc cX5_hoursGiven 3 (.aload_n 0) 1 4 := ⟨by decide +kernel, rfl⟩
theorem e_X5_hoursGiven_4 : Dc cX5_hoursGiven 4 (.iload_n 1) 1 5 := ⟨by decide +kernel, rfl⟩
theorem e_X5_hoursGiven_5 : Dc cX5_hoursGiven 5 (.invokevirtual 89) 3 8 := ⟨by decide +kernel, rfl⟩
theorem e_X5_hoursGiven_8 : Dc cX5_hoursGiven 8 (.iaload) 1 9 := ⟨by decide +kernel, rfl⟩
theorem e_X5_hoursGiven_9 : Dc cX5_hoursGiven 9 (.ireturn) 1 10 := ⟨by decide +kernel, rfl⟩
set_option maxHeartbeats 4000000 in
set_option maxRecDepth 20000 in
theorem R_X5_hoursGiven (hD : DD E) (t : Nat) (x1 : Int32) (ht : iTo t) (s : Sg) : ∀ v, (f_X5_hoursGiven t x1 s) = some v → RI l E 2 M_X5_hoursGiven [.ref (ead E t), .int x1] s v s := by
  refine ofP hD (by decide +kernel) (Nat.le_of_ble_eq_true rfl) (fun X C => ?_)
  show MF l E X (fun q : Int32 => QI E X q s) (f_X5_hoursGiven t x1 s) s 0 [(0, .ref (ead E t)), (1, .int x1)] []
  unfold f_X5_hoursGiven
  refine MF.getTN (t := 4) C (by decide) l_X5_98 e_X5_hoursGiven_0 ?_
  refine MF.aload_n C e_X5_hoursGiven_3 0 rfl rfl ?_
  refine MF.iload_n C e_X5_hoursGiven_4 1 rfl rfl ?_
  refine MF.callVP (As := [.int x1]) C (R_X5_kindOf hD t x1 ht s) m_X5_kindOf k_X5_89 (iTo.o ht) rfl (by decide) e_X5_hoursGiven_5 rfl rfl (Nat.le_of_ble_eq_true rfl) (fun v1 => ?_)
  refine MF.tald C (by decide) e_X5_hoursGiven_8 (fun v2 => ?_)
  exact MF.iretp C e_X5_hoursGiven_9
theorem e_X0_placeBehind_0 : Dc cX0_placeBehind 0 (.iconst 0) 1 1 := ⟨by decide +kernel, rfl⟩
theorem e_X0_placeBehind_1 : Dc cX0_placeBehind 1 (.istore_n 2) 1 2 := ⟨by decide +kernel, rfl⟩
theorem e_X0_placeBehind_2 : Dc cX0_placeBehind 2 (.iload_n 2) 1 3 := ⟨by decide +kernel, rfl⟩
theorem e_X0_placeBehind_3 : Dc cX0_placeBehind 3 (.aload_n 0) 1 4 := ⟨by decide +kernel, rfl⟩
theorem e_X0_placeBehind_4 : Dc cX0_placeBehind 4 (.getfield 16) 3 7 := ⟨by decide +kernel, rfl⟩
theorem e_X0_placeBehind_7 : Dc cX0_placeBehind 7 (.invokevirtual 54) 3 10 := ⟨by decide +kernel, rfl⟩
theorem e_X0_placeBehind_10 : Dc cX0_placeBehind 10 (.if_icmp .ge 22) 3 13 := ⟨by decide +kernel, rfl⟩
theorem e_X0_placeBehind_13 : Dc cX0_placeBehind 13 (.aload_n 0) 1 14 := ⟨by decide +kernel, rfl⟩
theorem e_X0_placeBehind_14 : Dc cX0_placeBehind 14 (.getfield 16) 3 17 := ⟨by decide +kernel, rfl⟩
theorem e_X0_placeBehind_17 : Dc cX0_placeBehind 17 (.iload_n 2) 1 18 := ⟨by decide +kernel, rfl⟩
theorem e_X0_placeBehind_18 : Dc cX0_placeBehind 18 (.iconst 0) 1 19 := ⟨by decide +kernel, rfl⟩
theorem e_X0_placeBehind_19 : Dc cX0_placeBehind 19 (.invokevirtual 58) 3 22 := ⟨by decide +kernel, rfl⟩
theorem e_X0_placeBehind_22 : Dc cX0_placeBehind 22 (.iload_n 1) 1 23 := ⟨by decide +kernel, rfl⟩
theorem e_X0_placeBehind_23 : Dc cX0_placeBehind 23 (.if_icmp .gt 9) 3 26 := ⟨by decide +kernel, rfl⟩
theorem e_X0_placeBehind_26 : Dc cX0_placeBehind 26 (.iinc 2 1) 3 29 := ⟨by decide +kernel, rfl⟩
theorem e_X0_placeBehind_29 : Dc cX0_placeBehind 29 (.goto (-27)) 3 32 := ⟨by decide +kernel, rfl⟩
theorem e_X0_placeBehind_32 : Dc cX0_placeBehind 32 (.iload_n 2) 1 33 := ⟨by decide +kernel, rfl⟩
theorem e_X0_placeBehind_33 : Dc cX0_placeBehind 33 (.ireturn) 1 34 := ⟨by decide +kernel, rfl⟩
set_option maxHeartbeats 4000000 in
set_option maxRecDepth 20000 in
theorem R_X0_placeBehind (hD : DD E) (x1 : Int32) (s : Sg) : ∀ v, (f_X0_placeBehind x1 s) = some v → RI l E 1 M_X0_placeBehind [.ref (ead E 52), .int x1] s v s := by
  refine ofP hD (by decide +kernel) (Nat.le_of_ble_eq_true rfl) (fun X C => ?_)
  show MF l E X (fun q : Int32 => QI E X q s) (f_X0_placeBehind x1 s) s 0 [(0, .ref (ead E 52)), (1, .int x1)] []
  unfold f_X0_placeBehind
  refine MF.iconst (v := (nI 0)) C e_X0_placeBehind_0 rfl ?_
  refine MF.istore_n (lv' := [(0, .ref (ead E 52)), (1, .int x1), (2, .int (nI 0))]) C e_X0_placeBehind_1 (by decide) rfl ?_
  refine MF.loop1 (fun i1 => s) (fun i1 => [(0, .ref (ead E 52)), (1, .int x1), (2, .int i1)]) (fun self2 hself2 i1 => ?_) fu (nI 0)
  unfold b_X0_placeBehind_2
  refine MF.iload_n C e_X0_placeBehind_2 2 rfl rfl ?_
  refine MF.aload_n C e_X0_placeBehind_3 0 rfl rfl ?_
  refine MF.getR (j := 53) C cf_X0 l_X0_16 e_X0_placeBehind_4 kF_52_0 ?_
  refine MF.callVP (As := []) C (R_X2_size hD 53 kR_53 s) m_X2_size k_X0_54 (iRo.o kR_53) rfl (by decide) e_X0_placeBehind_7 rfl rfl (Nat.le_of_ble_eq_true rfl) (fun v3 => ?_)
  refine MF.icmp_ge (tgt := 32) C e_X0_placeBehind_10 (by decide) (fun _ => ?_) (fun _ => ?_)
  · refine MF.iload_n C e_X0_placeBehind_32 2 rfl rfl ?_
    exact MF.iretp C e_X0_placeBehind_33
  · refine MF.aload_n C e_X0_placeBehind_13 0 rfl rfl ?_
    refine MF.getR (j := 53) C cf_X0 l_X0_16 e_X0_placeBehind_14 kF_52_0 ?_
    refine MF.iload_n C e_X0_placeBehind_17 2 rfl rfl ?_
    refine MF.iconst (v := (nI 0)) C e_X0_placeBehind_18 rfl ?_
    refine MF.callVP (As := [.int i1, .int (nI 0)]) C (R_X2_cell hD 53 i1 (nI 0) kR_53 s) m_X2_cell k_X0_58 (iRo.o kR_53) rfl (by decide) e_X0_placeBehind_19 rfl rfl (Nat.le_of_ble_eq_true rfl) (fun v4 => ?_)
    refine MF.iload_n C e_X0_placeBehind_22 1 rfl rfl ?_
    refine MF.icmp_gt (tgt := 32) C e_X0_placeBehind_23 (by decide) (fun _ => ?_) (fun _ => ?_)
    · refine MF.iload_n C e_X0_placeBehind_32 2 rfl rfl ?_
      exact MF.iretp C e_X0_placeBehind_33
    · refine MF.iinc (v := (nI 1)) (lv' := [(0, .ref (ead E 52)), (1, .int x1), (2, .int (i1 + (nI 1)))]) C e_X0_placeBehind_26 2 rfl rfl (by decide) rfl ?_
      refine MF.goto (tgt := 2) C e_X0_placeBehind_29 (by decide) ?_
      exact hself2 (i1 + (nI 1))
theorem e_X2_isFull_0 : Dc cX2_isFull 0 (.aload_n 0) 1 1 := ⟨by decide +kernel, rfl⟩
theorem e_X2_isFull_1 : Dc cX2_isFull 1 (.getfield 7) 3 4 := ⟨by decide +kernel, rfl⟩
theorem e_X2_isFull_4 : Dc cX2_isFull 4 (.iconst 1) 1 5 := ⟨by decide +kernel, rfl⟩
theorem e_X2_isFull_5 : Dc cX2_isFull 5 (.iadd) 1 6 := ⟨by decide +kernel, rfl⟩
theorem e_X2_isFull_6 : Dc cX2_isFull 6 (.aload_n 0) 1 7 := ⟨by decide +kernel, rfl⟩
theorem e_X2_isFull_7 : Dc cX2_isFull 7 (.getfield 13) 3 10 := ⟨by decide +kernel, rfl⟩
theorem e_X2_isFull_10 : Dc cX2_isFull 10 (.imul) 1 11 := ⟨by decide +kernel, rfl⟩
theorem e_X2_isFull_11 : Dc cX2_isFull 11 (.aload_n 0) 1 12 := ⟨by decide +kernel, rfl⟩
theorem e_X2_isFull_12 : Dc cX2_isFull 12 (.getfield 16) 3 15 := ⟨by decide +kernel, rfl⟩
theorem e_X2_isFull_15 : Dc cX2_isFull 15 (.arraylength) 1 16 := ⟨by decide +kernel, rfl⟩
theorem e_X2_isFull_16 : Dc cX2_isFull 16 (.if_icmp .le 7) 3 19 := ⟨by decide +kernel, rfl⟩
theorem e_X2_isFull_19 : Dc cX2_isFull 19 (.iconst 1) 1 20 := ⟨by decide +kernel, rfl⟩
theorem e_X2_isFull_20 : Dc cX2_isFull 20 (.goto 4) 3 23 := ⟨by decide +kernel, rfl⟩
theorem e_X2_isFull_23 : Dc cX2_isFull 23 (.iconst 0) 1 24 := ⟨by decide +kernel, rfl⟩
theorem e_X2_isFull_24 : Dc cX2_isFull 24 (.ireturn) 1 25 := ⟨by decide +kernel, rfl⟩
set_option maxHeartbeats 4000000 in
set_option maxRecDepth 20000 in
theorem R_X2_isFull (hD : DD E) (o : Nat) (ho : iRo o) (s : Sg) : ∀ v, (f_X2_isFull o s) = some v → RI l E 0 M_X2_isFull [.ref (ead E o)] s v s := by
  refine ofP hD (by decide +kernel) (Nat.le_of_ble_eq_true rfl) (fun X C => ?_)
  show MF l E X (fun q : Int32 => QI E X q s) (f_X2_isFull o s) s 0 [(0, .ref (ead E o))] []
  unfold f_X2_isFull
  refine MF.aload_n C e_X2_isFull_0 0 rfl rfl ?_
  refine MF.get C cf_X2 l_X2_7 e_X2_isFull_1 (iRo.f2 ho) ?_
  refine MF.iconst (v := (nI 1)) C e_X2_isFull_4 rfl ?_
  refine MF.iadd C e_X2_isFull_5 ?_
  refine MF.aload_n C e_X2_isFull_6 0 rfl rfl ?_
  refine MF.get C cf_X2 l_X2_13 e_X2_isFull_7 (iRo.f0 ho) ?_
  refine MF.imul C e_X2_isFull_10 ?_
  refine MF.aload_n C e_X2_isFull_11 0 rfl rfl ?_
  refine MF.getR (j := (o + 1)) C cf_X2 l_X2_16 e_X2_isFull_12 (iRo.f1 ho) ?_
  refine MF.alenI C e_X2_isFull_15 (iRo.a ho) ?_
  refine MF.icmp_le (tgt := 23) C e_X2_isFull_16 (by decide) (fun _ => ?_) (fun _ => ?_)
  · refine MF.iconst (v := (nI 0)) C e_X2_isFull_23 rfl ?_
    exact MF.nretp C e_X2_isFull_24 rfl
  · refine MF.iconst (v := (nI 1)) C e_X2_isFull_19 rfl ?_
    refine MF.goto (tgt := 24) C e_X2_isFull_20 (by decide) ?_
    exact MF.nretp C e_X2_isFull_24 rfl
theorem e_X2_insert_0 : Dc cX2_insert 0 (.aload_n 0) 1 1 := ⟨by decide +kernel, rfl⟩
theorem e_X2_insert_1 : Dc cX2_insert 1 (.invokevirtual 24) 3 4 := ⟨by decide +kernel, rfl⟩
theorem e_X2_insert_4 : Dc cX2_insert 4 (.ifCond .ne 24) 3 7 := ⟨by decide +kernel, rfl⟩
theorem e_X2_insert_7 : Dc cX2_insert 7 (.iload_n 1) 1 8 := ⟨by decide +kernel, rfl⟩
theorem e_X2_insert_8 : Dc cX2_insert 8 (.ifCond .lt 20) 3 11 := ⟨by decide +kernel, rfl⟩
theorem e_X2_insert_11 : Dc cX2_insert 11 (.iload_n 1) 1 12 := ⟨by decide +kernel, rfl⟩
theorem e_X2_insert_12 : Dc cX2_insert 12 (.aload_n 0) 1 13 := ⟨by decide +kernel, rfl⟩
theorem e_X2_insert_13 : Dc cX2_insert 13 (.getfield 7) 3 16 := ⟨by decide +kernel, rfl⟩
theorem e_X2_insert_16 : Dc cX2_insert 16 (.if_icmp .gt 12) 3 19 := ⟨by decide +kernel, rfl⟩
theorem e_X2_insert_19 : Dc cX2_insert 19 (.aload_n 2) 1 20 := ⟨by decide +kernel, rfl⟩
theorem e_X2_insert_20 : Dc cX2_insert 20 (.arraylength) 1 21 := ⟨by decide +kernel, rfl⟩
theorem e_X2_insert_21 : Dc cX2_insert 21 (.aload_n 0) 1 22 := ⟨by decide +kernel, rfl⟩
theorem e_X2_insert_22 : Dc cX2_insert 22 (.getfield 13) 3 25 := ⟨by decide +kernel, rfl⟩
theorem e_X2_insert_25 : Dc cX2_insert 25 (.if_icmp .ge 4) 3 28 := ⟨by decide +kernel, rfl⟩
theorem e_X2_insert_28 : Dc cX2_insert 28 (.return_) 1 29 := ⟨by decide +kernel, rfl⟩
theorem e_X2_insert_29 : Dc cX2_insert 29 (.iload_n 1) 1 30 := ⟨by decide +kernel, rfl⟩
theorem e_X2_insert_30 : Dc cX2_insert 30 (.aload_n 0) 1 31 := ⟨by decide +kernel, rfl⟩
theorem e_X2_insert_31 : Dc cX2_insert 31 (.getfield 13) 3 34 := ⟨by decide +kernel, rfl⟩
theorem e_X2_insert_34 : Dc cX2_insert 34 (.imul) 1 35 := ⟨by decide +kernel, rfl⟩
theorem e_X2_insert_35 : Dc cX2_insert 35 (.istore_n 3) 1 36 := ⟨by decide +kernel, rfl⟩
theorem e_X2_insert_36 : Dc cX2_insert 36 (.aload_n 0) 1 37 := ⟨by decide +kernel, rfl⟩
theorem e_X2_insert_37 : Dc cX2_insert 37 (.getfield 16) 3 40 := ⟨by decide +kernel, rfl⟩
theorem e_X2_insert_40 : Dc cX2_insert 40 (.iload_n 3) 1 41 := ⟨by decide +kernel, rfl⟩
theorem e_X2_insert_41 : Dc cX2_insert 41 (.aload_n 0) 1 42 := ⟨by decide +kernel, rfl⟩
theorem e_X2_insert_42 : Dc cX2_insert 42 (.getfield 16) 3 45 := ⟨by decide +kernel, rfl⟩
theorem e_X2_insert_45 : Dc cX2_insert 45 (.iload_n 3) 1 46 := ⟨by decide +kernel, rfl⟩
theorem e_X2_insert_46 : Dc cX2_insert 46 (.aload_n 0) 1 47 := ⟨by decide +kernel, rfl⟩
theorem e_X2_insert_47 : Dc cX2_insert 47 (.getfield 13) 3 50 := ⟨by decide +kernel, rfl⟩
theorem e_X2_insert_50 : Dc cX2_insert 50 (.iadd) 1 51 := ⟨by decide +kernel, rfl⟩
theorem e_X2_insert_51 : Dc cX2_insert 51 (.aload_n 0) 1 52 := ⟨by decide +kernel, rfl⟩
theorem e_X2_insert_52 : Dc cX2_insert 52 (.getfield 7) 3 55 := ⟨by decide +kernel, rfl⟩
theorem e_X2_insert_55 : Dc cX2_insert 55 (.iload_n 1) 1 56 := ⟨by decide +kernel, rfl⟩
theorem e_X2_insert_56 : Dc cX2_insert 56 (.isub) 1 57 := ⟨by decide +kernel, rfl⟩
theorem e_X2_insert_57 : Dc cX2_insert 57 (.aload_n 0) 1 58 := ⟨by decide +kernel, rfl⟩
theorem e_X2_insert_58 : Dc cX2_insert 58 (.getfield 13) 3 61 := ⟨by decide +kernel, rfl⟩
theorem e_X2_insert_61 : Dc cX2_insert 61 (.imul) 1 62 := ⟨by decide +kernel, rfl⟩
theorem e_X2_insert_62 : Dc cX2_insert 62 (.invokestatic 28) 3 65 := ⟨by decide +kernel, rfl⟩
theorem e_X2_insert_65 : Dc cX2_insert 65 (.aload_n 2) 1 66 := ⟨by decide +kernel, rfl⟩
theorem e_X2_insert_66 : Dc cX2_insert 66 (.iconst 0) 1 67 := ⟨by decide +kernel, rfl⟩
theorem e_X2_insert_67 : Dc cX2_insert 67 (.aload_n 0) 1 68 := ⟨by decide +kernel, rfl⟩
theorem e_X2_insert_68 : Dc cX2_insert 68 (.getfield 16) 3 71 := ⟨by decide +kernel, rfl⟩
theorem e_X2_insert_71 : Dc cX2_insert 71 (.iload_n 3) 1 72 := ⟨by decide +kernel, rfl⟩
theorem e_X2_insert_72 : Dc cX2_insert 72 (.aload_n 0) 1 73 := ⟨by decide +kernel, rfl⟩
theorem e_X2_insert_73 : Dc cX2_insert 73 (.getfield 13) 3 76 := ⟨by decide +kernel, rfl⟩
theorem e_X2_insert_76 : Dc cX2_insert 76 (.invokestatic 28) 3 79 := ⟨by decide +kernel, rfl⟩
theorem e_X2_insert_79 : Dc cX2_insert 79 (.aload_n 0) 1 80 := ⟨by decide +kernel, rfl⟩
theorem e_X2_insert_80 : Dc cX2_insert 80 (.dup) 1 81 := ⟨by decide +kernel, rfl⟩
theorem e_X2_insert_81 : Dc cX2_insert 81 (.getfield 7) 3 84 := ⟨by decide +kernel, rfl⟩
theorem e_X2_insert_84 : Dc cX2_insert 84 (.iconst 1) 1 85 := ⟨by decide +kernel, rfl⟩
theorem e_X2_insert_85 : Dc cX2_insert 85 (.iadd) 1 86 := ⟨by decide +kernel, rfl⟩
theorem e_X2_insert_86 : Dc cX2_insert 86 (.putfield 7) 3 89 := ⟨by decide +kernel, rfl⟩
theorem e_X2_insert_89 : Dc cX2_insert 89 (.return_) 1 90 := ⟨by decide +kernel, rfl⟩
set_option maxHeartbeats 4000000 in
set_option maxRecDepth 20000 in
theorem R_X2_insert (hD : DD E) (o : Nat) (x1 : Int32) (c2 : Nat) (ho : iRo o) (hc2 : iA c2) (s : Sg) : ∀ τ, (f_X2_insert o x1 c2 s) = some τ → RV l E 1 M_X2_insert [.ref (ead E o), .int x1, .ref (ead E c2)] s τ := by
  refine ofU hD (by decide +kernel) (Nat.le_of_ble_eq_true rfl) (fun X C => ?_)
  show MF l E X (fun q : Sg => QV E X q) (f_X2_insert o x1 c2 s) s 0 [(0, .ref (ead E o)), (1, .int x1), (2, .ref (ead E c2))] []
  unfold f_X2_insert
  refine MF.aload_n C e_X2_insert_0 0 rfl rfl ?_
  refine MF.callVP (As := []) C (R_X2_isFull hD o ho s) m_X2_isFull k_X2_24 (iRo.o ho) rfl (by decide) e_X2_insert_1 rfl rfl (Nat.le_of_ble_eq_true rfl) (fun v1 => ?_)
  refine MF.if_ne (tgt := 28) C e_X2_insert_4 (by decide) (fun _ => ?_) (fun _ => ?_)
  · exact MF.vret C e_X2_insert_28
  · refine MF.iload_n C e_X2_insert_7 1 rfl rfl ?_
    refine MF.if_lt (tgt := 28) C e_X2_insert_8 (by decide) (fun _ => ?_) (fun _ => ?_)
    · exact MF.vret C e_X2_insert_28
    · refine MF.iload_n C e_X2_insert_11 1 rfl rfl ?_
      refine MF.aload_n C e_X2_insert_12 0 rfl rfl ?_
      refine MF.get C cf_X2 l_X2_7 e_X2_insert_13 (iRo.f2 ho) ?_
      refine MF.icmp_gt (tgt := 28) C e_X2_insert_16 (by decide) (fun _ => ?_) (fun _ => ?_)
      · exact MF.vret C e_X2_insert_28
      · refine MF.aload_n C e_X2_insert_19 2 rfl rfl ?_
        refine MF.alenI C e_X2_insert_20 hc2 ?_
        refine MF.aload_n C e_X2_insert_21 0 rfl rfl ?_
        refine MF.get C cf_X2 l_X2_13 e_X2_insert_22 (iRo.f0 ho) ?_
        refine MF.icmp_ge (tgt := 29) C e_X2_insert_25 (by decide) (fun _ => ?_) (fun _ => ?_)
        · refine MF.iload_n C e_X2_insert_29 1 rfl rfl ?_
          refine MF.aload_n C e_X2_insert_30 0 rfl rfl ?_
          refine MF.get C cf_X2 l_X2_13 e_X2_insert_31 (iRo.f0 ho) ?_
          refine MF.imul C e_X2_insert_34 ?_
          refine MF.nmI (fun v2 => ?_)
          refine MF.istore_n (lv' := [(0, .ref (ead E o)), (1, .int x1), (2, .ref (ead E c2)), (3, .int v2)]) C e_X2_insert_35 (by decide) rfl ?_
          refine MF.aload_n C e_X2_insert_36 0 rfl rfl ?_
          refine MF.getR (j := (o + 1)) C cf_X2 l_X2_16 e_X2_insert_37 (iRo.f1 ho) ?_
          refine MF.iload_n C e_X2_insert_40 3 rfl rfl ?_
          refine MF.aload_n C e_X2_insert_41 0 rfl rfl ?_
          refine MF.getR (j := (o + 1)) C cf_X2 l_X2_16 e_X2_insert_42 (iRo.f1 ho) ?_
          refine MF.iload_n C e_X2_insert_45 3 rfl rfl ?_
          refine MF.aload_n C e_X2_insert_46 0 rfl rfl ?_
          refine MF.get C cf_X2 l_X2_13 e_X2_insert_47 (iRo.f0 ho) ?_
          refine MF.iadd C e_X2_insert_50 ?_
          refine MF.aload_n C e_X2_insert_51 0 rfl rfl ?_
          refine MF.get C cf_X2 l_X2_7 e_X2_insert_52 (iRo.f2 ho) ?_
          refine MF.iload_n C e_X2_insert_55 1 rfl rfl ?_
          refine MF.isub C e_X2_insert_56 ?_
          refine MF.aload_n C e_X2_insert_57 0 rfl rfl ?_
          refine MF.get C cf_X2 l_X2_13 e_X2_insert_58 (iRo.f0 ho) ?_
          refine MF.imul C e_X2_insert_61 ?_
          refine MF.copy C k_X2_28 e_X2_insert_62 (iRo.a ho) (iRo.a ho) (by decide) (Nat.le_of_ble_eq_true rfl) (fun s3 => ?_)
          refine MF.aload_n C e_X2_insert_65 2 rfl rfl ?_
          refine MF.iconst (v := (nI 0)) C e_X2_insert_66 rfl ?_
          refine MF.aload_n C e_X2_insert_67 0 rfl rfl ?_
          refine MF.getR (j := (o + 1)) C cf_X2 l_X2_16 e_X2_insert_68 (iRo.f1 ho) ?_
          refine MF.iload_n C e_X2_insert_71 3 rfl rfl ?_
          refine MF.aload_n C e_X2_insert_72 0 rfl rfl ?_
          refine MF.get C cf_X2 l_X2_13 e_X2_insert_73 (iRo.f0 ho) ?_
          refine MF.copy C k_X2_28 e_X2_insert_76 hc2 (iRo.a ho) (by decide) (Nat.le_of_ble_eq_true rfl) (fun s4 => ?_)
          refine MF.aload_n C e_X2_insert_79 0 rfl rfl ?_
          refine MF.dup C e_X2_insert_80 rfl ?_
          refine MF.get C cf_X2 l_X2_7 e_X2_insert_81 (iRo.f2 ho) ?_
          refine MF.iconst (v := (nI 1)) C e_X2_insert_84 rfl ?_
          refine MF.iadd C e_X2_insert_85 ?_
          refine MF.put C cf_X2 l_X2_7 p_X2_2 e_X2_insert_86 (iRo.f2 ho) rfl ?_
          refine MF.nmS (fun s5 => ?_)
          exact MF.vret C e_X2_insert_89
        · exact MF.vret C e_X2_insert_28
theorem e_X0_planEvent_0 : Dc cX0_planEvent 0 (.aload_n 0) 1 1 := ⟨by decide +kernel, rfl⟩
theorem e_X0_planEvent_1 : Dc cX0_planEvent 1 (.getfield 20) 3 4 := ⟨by decide +kernel, rfl⟩
theorem e_X0_planEvent_4 : Dc cX0_planEvent 4 (.iconst 0) 1 5 := ⟨by decide +kernel, rfl⟩
theorem e_X0_planEvent_5 : Dc cX0_planEvent 5 (.aload_n 1) 1 6 := ⟨by decide +kernel, rfl⟩
theorem e_X0_planEvent_6 : Dc cX0_planEvent 6 (.getfield 65) 3 9 := ⟨by decide +kernel, rfl⟩
theorem e_X0_planEvent_9 : Dc cX0_planEvent 9 (.iload_n 2) 1 10 := ⟨by decide +kernel, rfl⟩
theorem e_X0_planEvent_10 : Dc cX0_planEvent 10 (.iconst 2) 1 11 := ⟨by decide +kernel, rfl⟩
theorem e_X0_planEvent_11 : Dc cX0_planEvent 11 (.invokevirtual 58) 3 14 := ⟨by decide +kernel, rfl⟩
theorem e_X0_planEvent_14 : Dc cX0_planEvent 14 (.iastore) 1 15 := ⟨by decide +kernel, rfl⟩
theorem e_X0_planEvent_15 : Dc cX0_planEvent 15 (.aload_n 0) 1 16 := ⟨by decide +kernel, rfl⟩
theorem e_X0_planEvent_16 : Dc cX0_planEvent 16 (.getfield 20) 3 19 := ⟨by decide +kernel, rfl⟩
theorem e_X0_planEvent_19 : Dc cX0_planEvent 19 (.iconst 1) 1 20 := ⟨by decide +kernel, rfl⟩
theorem e_X0_planEvent_20 : Dc cX0_planEvent 20 (.aload_n 1) 1 21 := ⟨by decide +kernel, rfl⟩
theorem e_X0_planEvent_21 : Dc cX0_planEvent 21 (.iload_n 2) 1 22 := ⟨by decide +kernel, rfl⟩
theorem e_X0_planEvent_22 : Dc cX0_planEvent 22 (.invokevirtual 76) 3 25 := ⟨by decide +kernel, rfl⟩
theorem e_X0_planEvent_25 : Dc cX0_planEvent 25 (.iastore) 1 26 := ⟨by decide +kernel, rfl⟩
theorem e_X0_planEvent_26 : Dc cX0_planEvent 26 (.aload_n 0) 1 27 := ⟨by decide +kernel, rfl⟩
theorem e_X0_planEvent_27 : Dc cX0_planEvent 27 (.getfield 20) 3 30 := ⟨by decide +kernel, rfl⟩
theorem e_X0_planEvent_30 : Dc cX0_planEvent 30 (.iconst 2) 1 31 := ⟨by decide +kernel, rfl⟩
theorem e_X0_planEvent_31 : Dc cX0_planEvent 31 (.aload_n 1) 1 32 := ⟨by decide +kernel, rfl⟩
theorem e_X0_planEvent_32 : Dc cX0_planEvent 32 (.getfield 65) 3 35 := ⟨by decide +kernel, rfl⟩
theorem e_X0_planEvent_35 : Dc cX0_planEvent 35 (.iload_n 2) 1 36 := ⟨by decide +kernel, rfl⟩
theorem e_X0_planEvent_36 : Dc cX0_planEvent 36 (.iconst 5) 1 37 := ⟨by decide +kernel, rfl⟩
theorem e_X0_planEvent_37 : Dc cX0_planEvent 37 (.invokevirtual 58) 3 40 := ⟨by decide +kernel, rfl⟩
theorem e_X0_planEvent_40 : Dc cX0_planEvent 40 (.iastore) 1 41 := ⟨by decide +kernel, rfl⟩
theorem e_X0_planEvent_41 : Dc cX0_planEvent 41 (.aload_n 0) 1 42 := ⟨by decide +kernel, rfl⟩
theorem e_X0_planEvent_42 : Dc cX0_planEvent 42 (.getfield 20) 3 45 := ⟨by decide +kernel, rfl⟩
theorem e_X0_planEvent_45 : Dc cX0_planEvent 45 (.iconst 3) 1 46 := ⟨by decide +kernel, rfl⟩
theorem e_X0_planEvent_46 : Dc cX0_planEvent 46 (.aload_n 1) 1 47 := ⟨by decide +kernel, rfl⟩
theorem e_X0_planEvent_47 : Dc cX0_planEvent 47 (.iload_n 2) 1 48 := ⟨by decide +kernel, rfl⟩
theorem e_X0_planEvent_48 : Dc cX0_planEvent 48 (.invokevirtual 80) 3 51 := ⟨by decide +kernel, rfl⟩
theorem e_X0_planEvent_51 : Dc cX0_planEvent 51 (.iastore) 1 52 := ⟨by decide +kernel, rfl⟩
theorem e_X0_planEvent_52 : Dc cX0_planEvent 52 (.aload_n 0) 1 53 := ⟨by decide +kernel, rfl⟩
theorem e_X0_planEvent_53 : Dc cX0_planEvent 53 (.getfield 20) 3 56 := ⟨by decide +kernel, rfl⟩
theorem e_X0_planEvent_56 : Dc cX0_planEvent 56 (.iconst 4) 1 57 := ⟨by decide +kernel, rfl⟩
theorem e_X0_planEvent_57 : Dc cX0_planEvent 57 (.aload_n 0) 1 58 := ⟨by decide +kernel, rfl⟩
theorem e_X0_planEvent_58 : Dc cX0_planEvent 58 (.getfield 20) 3 61 := ⟨by decide +kernel, rfl⟩
theorem e_X0_planEvent_61 : Dc cX0_planEvent 61 (.iconst 0) 1 62 := ⟨by decide +kernel, rfl⟩
theorem e_X0_planEvent_62 : Dc cX0_planEvent 62 (.iaload) 1 63 := ⟨by decide +kernel, rfl⟩
theorem e_X0_planEvent_63 : Dc cX0_planEvent 63 (.aload_n 1) 1 64 := ⟨by decide +kernel, rfl⟩
theorem e_X0_planEvent_64 : Dc cX0_planEvent 64 (.iload_n 2) 1 65 := ⟨by decide +kernel, rfl⟩
theorem e_X0_planEvent_65 : Dc cX0_planEvent 65 (.invokevirtual 83) 3 68 := ⟨by decide +kernel, rfl⟩
theorem e_X0_planEvent_68 : Dc cX0_planEvent 68 (.iadd) 1 69 := ⟨by decide +kernel, rfl⟩
theorem e_X0_planEvent_69 : Dc cX0_planEvent 69 (.iastore) 1 70 := ⟨by decide +kernel, rfl⟩
theorem e_X0_planEvent_70 : Dc cX0_planEvent 70 (.aload_n 0) 1 71 := ⟨by decide +kernel, rfl⟩
theorem e_X0_planEvent_71 : Dc cX0_planEvent 71 (.getfield 20) 3 74 := ⟨by decide +kernel, rfl⟩
theorem e_X0_planEvent_74 : Dc cX0_planEvent 74 (.iconst 5) 1 75 := ⟨by decide +kernel, rfl⟩
theorem e_X0_planEvent_75 : Dc cX0_planEvent 75 (.iconst 1) 1 76 := ⟨by decide +kernel, rfl⟩
theorem e_X0_planEvent_76 : Dc cX0_planEvent 76 (.iload_n 2) 1 77 := ⟨by decide +kernel, rfl⟩
theorem e_X0_planEvent_77 : Dc cX0_planEvent 77 (.ishl) 1 78 := ⟨by decide +kernel, rfl⟩
theorem e_X0_planEvent_78 : Dc cX0_planEvent 78 (.iastore) 1 79 := ⟨by decide +kernel, rfl⟩
theorem e_X0_planEvent_79 : Dc cX0_planEvent 79 (.aload_n 0) 1 80 := ⟨by decide +kernel, rfl⟩
theorem e_X0_planEvent_80 : Dc cX0_planEvent 80 (.getfield 16) 3 83 := ⟨by decide +kernel, rfl⟩
theorem e_X0_planEvent_83 : Dc cX0_planEvent 83 (.aload_n 0) 1 84 := ⟨by decide +kernel, rfl⟩
theorem e_X0_planEvent_84 : Dc cX0_planEvent 84 (.aload_n 0) 1 85 := ⟨by decide +kernel, rfl⟩
theorem e_X0_planEvent_85 : Dc cX0_planEvent 85 (.getfield 20) 3 88 := ⟨by decide +kernel, rfl⟩
theorem e_X0_planEvent_88 : Dc cX0_planEvent 88 (.iconst 0) 1 89 := ⟨by decide +kernel, rfl⟩
theorem e_X0_planEvent_89 : Dc cX0_planEvent 89 (.iaload) 1 90 := ⟨by decide +kernel, rfl⟩
theorem e_X0_planEvent_90 : Dc cX0_planEvent 90 (.invokevirtual 86) 3 93 := ⟨by decide +kernel, rfl⟩
theorem e_X0_planEvent_93 : Dc cX0_planEvent 93 (.aload_n 0) 1 94 := ⟨by decide +kernel, rfl⟩
theorem e_X0_planEvent_94 : Dc cX0_planEvent 94 (.getfield 20) 3 97 := ⟨by decide +kernel, rfl⟩
theorem e_X0_planEvent_97 : Dc cX0_planEvent 97 (.invokevirtual 89) 3 100 := ⟨by decide +kernel, rfl⟩
theorem e_X0_planEvent_100 : Dc cX0_planEvent 100 (.return_) 1 101 := ⟨by decide +kernel, rfl⟩
set_option maxHeartbeats 4000000 in
set_option maxRecDepth 20000 in
theorem R_X0_planEvent (hD : DD E) (t1 : Nat) (x2 : Int32) (ht1 : iTo t1) (s : Sg) : ∀ τ, (f_X0_planEvent t1 x2 s) = some τ → RV l E 3 M_X0_planEvent [.ref (ead E 52), .ref (ead E t1), .int x2] s τ := by
  refine ofU hD (by decide +kernel) (Nat.le_of_ble_eq_true rfl) (fun X C => ?_)
  show MF l E X (fun q : Sg => QV E X q) (f_X0_planEvent t1 x2 s) s 0 [(0, .ref (ead E 52)), (1, .ref (ead E t1)), (2, .int x2)] []
  unfold f_X0_planEvent
  refine MF.aload_n C e_X0_planEvent_0 0 rfl rfl ?_
  refine MF.getR (j := 55) C cf_X0 l_X0_20 e_X0_planEvent_1 kF_52_1 ?_
  refine MF.iconst (v := (nI 0)) C e_X0_planEvent_4 rfl ?_
  refine MF.aload_n C e_X0_planEvent_5 1 rfl rfl ?_
  refine MF.getRN (j := (t1 + 3)) C cf_X5 l_X0_65 e_X0_planEvent_6 (iTo.f1 ht1) ?_
  refine MF.iload_n C e_X0_planEvent_9 2 rfl rfl ?_
  refine MF.iconst (v := (nI 2)) C e_X0_planEvent_10 rfl ?_
  refine MF.callVP (As := [.int x2, .int (nI 2)]) C (R_X2_cell hD (t1 + 3) x2 (nI 2) (iTo.o1 ht1) s) m_X2_cell k_X0_58 (iRo.o (iTo.o1 ht1)) rfl (by decide) e_X0_planEvent_11 rfl rfl (Nat.le_of_ble_eq_true rfl) (fun v1 => ?_)
  refine MF.iast C e_X0_planEvent_14 kA_55 (fun s2 => ?_)
  refine MF.aload_n C e_X0_planEvent_15 0 rfl rfl ?_
  refine MF.getR (j := 55) C cf_X0 l_X0_20 e_X0_planEvent_16 kF_52_1 ?_
  refine MF.iconst (v := (nI 1)) C e_X0_planEvent_19 rfl ?_
  refine MF.aload_n C e_X0_planEvent_20 1 rfl rfl ?_
  refine MF.iload_n C e_X0_planEvent_21 2 rfl rfl ?_
  refine MF.callVP (As := [.int x2]) C (R_X5_streetsOf hD t1 x2 ht1 s2) m_X5_streetsOf k_X0_76 (iTo.o ht1) rfl (by decide) e_X0_planEvent_22 rfl rfl (Nat.le_of_ble_eq_true rfl) (fun v3 => ?_)
  refine MF.iast C e_X0_planEvent_25 kA_55 (fun s4 => ?_)
  refine MF.aload_n C e_X0_planEvent_26 0 rfl rfl ?_
  refine MF.getR (j := 55) C cf_X0 l_X0_20 e_X0_planEvent_27 kF_52_1 ?_
  refine MF.iconst (v := (nI 2)) C e_X0_planEvent_30 rfl ?_
  refine MF.aload_n C e_X0_planEvent_31 1 rfl rfl ?_
  refine MF.getRN (j := (t1 + 3)) C cf_X5 l_X0_65 e_X0_planEvent_32 (iTo.f1 ht1) ?_
  refine MF.iload_n C e_X0_planEvent_35 2 rfl rfl ?_
  refine MF.iconst (v := (nI 5)) C e_X0_planEvent_36 rfl ?_
  refine MF.callVP (As := [.int x2, .int (nI 5)]) C (R_X2_cell hD (t1 + 3) x2 (nI 5) (iTo.o1 ht1) s4) m_X2_cell k_X0_58 (iRo.o (iTo.o1 ht1)) rfl (by decide) e_X0_planEvent_37 rfl rfl (Nat.le_of_ble_eq_true rfl) (fun v5 => ?_)
  refine MF.iast C e_X0_planEvent_40 kA_55 (fun s6 => ?_)
  refine MF.aload_n C e_X0_planEvent_41 0 rfl rfl ?_
  refine MF.getR (j := 55) C cf_X0 l_X0_20 e_X0_planEvent_42 kF_52_1 ?_
  refine MF.iconst (v := (nI 3)) C e_X0_planEvent_45 rfl ?_
  refine MF.aload_n C e_X0_planEvent_46 1 rfl rfl ?_
  refine MF.iload_n C e_X0_planEvent_47 2 rfl rfl ?_
  refine MF.callVP (As := [.int x2]) C (R_X5_rankGiven hD t1 x2 ht1 s6) m_X5_rankGiven k_X0_80 (iTo.o ht1) rfl (by decide) e_X0_planEvent_48 rfl rfl (Nat.le_of_ble_eq_true rfl) (fun v7 => ?_)
  refine MF.iast C e_X0_planEvent_51 kA_55 (fun s8 => ?_)
  refine MF.aload_n C e_X0_planEvent_52 0 rfl rfl ?_
  refine MF.getR (j := 55) C cf_X0 l_X0_20 e_X0_planEvent_53 kF_52_1 ?_
  refine MF.iconst (v := (nI 4)) C e_X0_planEvent_56 rfl ?_
  refine MF.aload_n C e_X0_planEvent_57 0 rfl rfl ?_
  refine MF.getR (j := 55) C cf_X0 l_X0_20 e_X0_planEvent_58 kF_52_1 ?_
  refine MF.iconst (v := (nI 0)) C e_X0_planEvent_61 rfl ?_
  refine MF.iald C e_X0_planEvent_62 kA_55 (fun v9 => ?_)
  refine MF.aload_n C e_X0_planEvent_63 1 rfl rfl ?_
  refine MF.iload_n C e_X0_planEvent_64 2 rfl rfl ?_
  refine MF.callVP (As := [.int x2]) C (R_X5_hoursGiven hD t1 x2 ht1 s8) m_X5_hoursGiven k_X0_83 (iTo.o ht1) rfl (by decide) e_X0_planEvent_65 rfl rfl (Nat.le_of_ble_eq_true rfl) (fun v10 => ?_)
  refine MF.iadd C e_X0_planEvent_68 ?_
  refine MF.iast C e_X0_planEvent_69 kA_55 (fun s11 => ?_)
  refine MF.aload_n C e_X0_planEvent_70 0 rfl rfl ?_
  refine MF.getR (j := 55) C cf_X0 l_X0_20 e_X0_planEvent_71 kF_52_1 ?_
  refine MF.iconst (v := (nI 5)) C e_X0_planEvent_74 rfl ?_
  refine MF.iconst (v := (nI 1)) C e_X0_planEvent_75 rfl ?_
  refine MF.iload_n C e_X0_planEvent_76 2 rfl rfl ?_
  refine MF.ishl C e_X0_planEvent_77 ?_
  refine MF.iast C e_X0_planEvent_78 kA_55 (fun s12 => ?_)
  refine MF.aload_n C e_X0_planEvent_79 0 rfl rfl ?_
  refine MF.getR (j := 53) C cf_X0 l_X0_16 e_X0_planEvent_80 kF_52_0 ?_
  refine MF.aload_n C e_X0_planEvent_83 0 rfl rfl ?_
  refine MF.aload_n C e_X0_planEvent_84 0 rfl rfl ?_
  refine MF.getR (j := 55) C cf_X0 l_X0_20 e_X0_planEvent_85 kF_52_1 ?_
  refine MF.iconst (v := (nI 0)) C e_X0_planEvent_88 rfl ?_
  refine MF.iald C e_X0_planEvent_89 kA_55 (fun v13 => ?_)
  refine MF.callVP (As := [.int v13]) C (R_X0_placeBehind hD v13 s12) m_X0_placeBehind k_X0_86 kO_52 rfl (by decide) e_X0_planEvent_90 rfl rfl (Nat.le_of_ble_eq_true rfl) (fun v14 => ?_)
  refine MF.aload_n C e_X0_planEvent_93 0 rfl rfl ?_
  refine MF.getR (j := 55) C cf_X0 l_X0_20 e_X0_planEvent_94 kF_52_1 ?_
  refine MF.callVU (As := [.int v14, .ref (ead E 55)]) C (R_X2_insert hD 53 v14 55 kR_53 kA_55 s12) m_X2_insert k_X0_89 (iRo.o kR_53) rfl (by decide) e_X0_planEvent_97 rfl rfl (Nat.le_of_ble_eq_true rfl) (fun s15 => ?_)
  exact MF.vret C e_X0_planEvent_100
theorem e_X0_plan_0 : Dc cX0_plan 0 (.aload_n 0) 1 1 := ⟨by decide +kernel, rfl⟩
theorem e_X0_plan_1 : Dc cX0_plan 1 (.aload_n 1) 1 2 := ⟨by decide +kernel, rfl⟩
theorem e_X0_plan_2 : Dc cX0_plan 2 (.getfield 49) 3 5 := ⟨by decide +kernel, rfl⟩
theorem e_X0_plan_5 : Dc cX0_plan 5 (.putfield 43) 3 8 := ⟨by decide +kernel, rfl⟩
theorem e_X0_plan_8 : Dc cX0_plan 8 (.aload_n 0) 1 9 := ⟨by decide +kernel, rfl⟩
theorem e_X0_plan_9 : Dc cX0_plan 9 (.aload_n 1) 1 10 := ⟨by decide +kernel, rfl⟩
theorem e_X0_plan_10 : Dc cX0_plan 10 (.getfield 52) 3 13 := ⟨by decide +kernel, rfl⟩
theorem e_X0_plan_13 : Dc cX0_plan 13 (.invokevirtual 54) 3 16 := ⟨by decide +kernel, rfl⟩
theorem e_X0_plan_16 : Dc cX0_plan 16 (.putfield 39) 3 19 := ⟨by decide +kernel, rfl⟩
theorem e_X0_plan_19 : Dc cX0_plan 19 (.iconst 0) 1 20 := ⟨by decide +kernel, rfl⟩
theorem e_X0_plan_20 : Dc cX0_plan 20 (.istore_n 2) 1 21 := ⟨by decide +kernel, rfl⟩
theorem e_X0_plan_21 : Dc cX0_plan 21 (.iload_n 2) 1 22 := ⟨by decide +kernel, rfl⟩
theorem e_X0_plan_22 : Dc cX0_plan 22 (.aload_n 0) 1 23 := ⟨by decide +kernel, rfl⟩
theorem e_X0_plan_23 : Dc cX0_plan 23 (.getfield 39) 3 26 := ⟨by decide +kernel, rfl⟩
theorem e_X0_plan_26 : Dc cX0_plan 26 (.if_icmp .ge 24) 3 29 := ⟨by decide +kernel, rfl⟩
theorem e_X0_plan_29 : Dc cX0_plan 29 (.aload_n 0) 1 30 := ⟨by decide +kernel, rfl⟩
theorem e_X0_plan_30 : Dc cX0_plan 30 (.getfield 24) 3 33 := ⟨by decide +kernel, rfl⟩
theorem e_X0_plan_33 : Dc cX0_plan 33 (.iload_n 2) 1 34 := ⟨by decide +kernel, rfl⟩
theorem e_X0_plan_34 : Dc cX0_plan 34 (.aload_n 1) 1 35 := ⟨by decide +kernel, rfl⟩
theorem e_X0_plan_35 : Dc cX0_plan 35 (.getfield 52) 3 38 := ⟨by decide +kernel, rfl⟩
theorem e_X0_plan_38 : Dc cX0_plan 38 (.iload_n 2) 1 39 := ⟨by decide +kernel, rfl⟩
theorem e_X0_plan_39 : Dc cX0_plan 39 (.iconst 3) 1 40 := ⟨by decide +kernel, rfl⟩
theorem e_X0_plan_40 : Dc cX0_plan 40 (.invokevirtual 58) 3 43 := ⟨by decide +kernel, rfl⟩
theorem e_X0_plan_43 : Dc cX0_plan 43 (.iastore) 1 44 := ⟨by decide +kernel, rfl⟩
theorem e_X0_plan_44 : Dc cX0_plan 44 (.iinc 2 1) 3 47 := ⟨by decide +kernel, rfl⟩
theorem e_X0_plan_47 : Dc cX0_plan 47 (.goto (-26)) 3 50 := ⟨by decide +kernel, rfl⟩
theorem e_X0_plan_50 : Dc cX0_plan 50 (.aload_n 0) 1 51 := ⟨by decide +kernel, rfl⟩
theorem e_X0_plan_51 : Dc cX0_plan 51 (.getfield 16) 3 54 := ⟨by decide +kernel, rfl⟩
theorem e_X0_plan_54 : Dc cX0_plan 54 (.invokevirtual 62) 3 57 := ⟨by decide +kernel, rfl⟩
theorem e_X0_plan_57 : Dc cX0_plan 57 (.iconst 0) 1 58 := ⟨by decide +kernel, rfl⟩
theorem e_X0_plan_58 : Dc cX0_plan 58 (.istore_n 2) 1 59 := ⟨by decide +kernel, rfl⟩
theorem e_X0_plan_59 : Dc cX0_plan 59 (.iload_n 2) 1 60 := ⟨by decide +kernel, rfl⟩
theorem e_X0_plan_60 : Dc cX0_plan 60 (.aload_n 1) 1 61 := ⟨by decide +kernel, rfl⟩
theorem e_X0_plan_61 : Dc cX0_plan 61 (.getfield 65) 3 64 := ⟨by decide +kernel, rfl⟩
theorem e_X0_plan_64 : Dc cX0_plan 64 (.invokevirtual 54) 3 67 := ⟨by decide +kernel, rfl⟩
theorem e_X0_plan_67 : Dc cX0_plan 67 (.if_icmp .ge 23) 3 70 := ⟨by decide +kernel, rfl⟩
theorem e_X0_plan_70 : Dc cX0_plan 70 (.aload_n 1) 1 71 := ⟨by decide +kernel, rfl⟩
theorem e_X0_plan_71 : Dc cX0_plan 71 (.iload_n 2) 1 72 := ⟨by decide +kernel, rfl⟩
theorem e_X0_plan_72 : Dc cX0_plan 72 (.invokevirtual 68) 3 75 := ⟨by decide +kernel, rfl⟩
theorem e_X0_plan_75 : Dc cX0_plan 75 (.ifCond .eq 9) 3 78 := ⟨by decide +kernel, rfl⟩
theorem e_X0_plan_78 : Dc cX0_plan 78 (.aload_n 0) 1 79 := ⟨by decide +kernel, rfl⟩
theorem e_X0_plan_79 : Dc cX0_plan 79 (.aload_n 1) 1 80 := ⟨by decide +kernel, rfl⟩
theorem e_X0_plan_80 : Dc cX0_plan 80 (.iload_n 2) 1 81 := ⟨by decide +kernel, rfl⟩
theorem e_X0_plan_81 : Dc cX0_plan 81 (.invokevirtual 72) 3 84 := ⟨by decide +kernel, rfl⟩
theorem e_X0_plan_84 : Dc cX0_plan 84 (.iinc 2 1) 3 87 := ⟨by decide +kernel, rfl⟩
theorem e_X0_plan_87 : Dc cX0_plan 87 (.goto (-28)) 3 90 := ⟨by decide +kernel, rfl⟩
theorem e_X0_plan_90 : Dc cX0_plan 90 (.return_) 1 91 := ⟨by decide +kernel, rfl⟩
set_option maxHeartbeats 4000000 in
set_option maxRecDepth 20000 in
theorem R_X0_plan (hD : DD E) (t1 : Nat) (ht1 : iTo t1) (s : Sg) : ∀ τ, (f_X0_plan t1 s) = some τ → RV l E 4 M_X0_plan [.ref (ead E 52), .ref (ead E t1)] s τ := by
  refine ofU hD (by decide +kernel) (Nat.le_of_ble_eq_true rfl) (fun X C => ?_)
  show MF l E X (fun q : Sg => QV E X q) (f_X0_plan t1 s) s 0 [(0, .ref (ead E 52)), (1, .ref (ead E t1))] []
  unfold f_X0_plan
  refine MF.aload_n C e_X0_plan_0 0 rfl rfl ?_
  refine MF.aload_n C e_X0_plan_1 1 rfl rfl ?_
  refine MF.getN C cf_X5 l_X0_49 e_X0_plan_2 (iTo.f7 ht1) ?_
  refine MF.put C cf_X0 l_X0_43 p_X0_8 e_X0_plan_5 kF_52_8 rfl ?_
  refine MF.nmS (fun s1 => ?_)
  refine MF.aload_n C e_X0_plan_8 0 rfl rfl ?_
  refine MF.aload_n C e_X0_plan_9 1 rfl rfl ?_
  refine MF.getRN (j := (t1 + 1)) C cf_X5 l_X0_52 e_X0_plan_10 (iTo.f0 ht1) ?_
  refine MF.callVP (As := []) C (R_X2_size hD (t1 + 1) (iTo.o0 ht1) s1) m_X2_size k_X0_54 (iRo.o (iTo.o0 ht1)) rfl (by decide) e_X0_plan_13 rfl rfl (Nat.le_of_ble_eq_true rfl) (fun v2 => ?_)
  refine MF.put C cf_X0 l_X0_39 p_X0_7 e_X0_plan_16 kF_52_7 rfl ?_
  refine MF.nmS (fun s3 => ?_)
  refine MF.iconst (v := (nI 0)) C e_X0_plan_19 rfl ?_
  refine MF.istore_n (lv' := [(0, .ref (ead E 52)), (1, .ref (ead E t1)), (2, .int (nI 0))]) C e_X0_plan_20 (by decide) rfl ?_
  refine MF.join (fun j : Sg → Option Sg => ∀ (s4 : Sg), MF l E X (fun q : Sg => QV E X q) (j s4) s4 50 [(0, .ref (ead E 52)), (1, .ref (ead E t1))] []) ?_ (fun j5 hj5 => ?_)
  · intro s4
    refine MF.aload_n C e_X0_plan_50 0 rfl rfl ?_
    refine MF.getR (j := 53) C cf_X0 l_X0_16 e_X0_plan_51 kF_52_0 ?_
    refine MF.callVU (As := []) C (R_X2_empty hD 53 kR_53 s4) m_X2_empty k_X0_62 (iRo.o kR_53) rfl (by decide) e_X0_plan_54 rfl rfl (Nat.le_of_ble_eq_true rfl) (fun s6 => ?_)
    refine MF.iconst (v := (nI 0)) C e_X0_plan_57 rfl ?_
    refine MF.istore_n (lv' := [(0, .ref (ead E 52)), (1, .ref (ead E t1)), (2, .int (nI 0))]) C e_X0_plan_58 (by decide) rfl ?_
    refine MF.loop2 (fun i7 s8 => s8) (fun i7 s8 => [(0, .ref (ead E 52)), (1, .ref (ead E t1)), (2, .int i7)]) (fun self9 hself9 i7 s8 => ?_) fu (nI 0) s6
    unfold b_X0_plan_59
    refine MF.iload_n C e_X0_plan_59 2 rfl rfl ?_
    refine MF.aload_n C e_X0_plan_60 1 rfl rfl ?_
    refine MF.getRN (j := (t1 + 3)) C cf_X5 l_X0_65 e_X0_plan_61 (iTo.f1 ht1) ?_
    refine MF.callVP (As := []) C (R_X2_size hD (t1 + 3) (iTo.o1 ht1) s8) m_X2_size k_X0_54 (iRo.o (iTo.o1 ht1)) rfl (by decide) e_X0_plan_64 rfl rfl (Nat.le_of_ble_eq_true rfl) (fun v10 => ?_)
    refine MF.icmp_ge (tgt := 90) C e_X0_plan_67 (by decide) (fun _ => ?_) (fun _ => ?_)
    · exact MF.vret C e_X0_plan_90
    · refine MF.aload_n C e_X0_plan_70 1 rfl rfl ?_
      refine MF.iload_n C e_X0_plan_71 2 rfl rfl ?_
      refine MF.callVP (As := [.int i7]) C (R_X5_isSeenByEnough hD t1 i7 ht1 s8) m_X5_isSeenByEnough k_X0_68 (iTo.o ht1) rfl (by decide) e_X0_plan_72 rfl rfl (Nat.le_of_ble_eq_true rfl) (fun v11 => ?_)
      refine MF.join (fun j : Sg → Option Sg => ∀ (s12 : Sg), MF l E X (fun q : Sg => QV E X q) (j s12) s12 84 [(0, .ref (ead E 52)), (1, .ref (ead E t1)), (2, .int i7)] []) ?_ (fun j13 hj13 => ?_)
      · intro s12
        refine MF.iinc (v := (nI 1)) (lv' := [(0, .ref (ead E 52)), (1, .ref (ead E t1)), (2, .int (i7 + (nI 1)))]) C e_X0_plan_84 2 rfl rfl (by decide) rfl ?_
        refine MF.goto (tgt := 59) C e_X0_plan_87 (by decide) ?_
        exact hself9 (i7 + (nI 1)) s12
      refine MF.if_eq (tgt := 84) C e_X0_plan_75 (by decide) (fun _ => ?_) (fun _ => ?_)
      · exact hj13 s8
      · refine MF.aload_n C e_X0_plan_78 0 rfl rfl ?_
        refine MF.aload_n C e_X0_plan_79 1 rfl rfl ?_
        refine MF.iload_n C e_X0_plan_80 2 rfl rfl ?_
        refine MF.callVU (As := [.ref (ead E t1), .int i7]) C (R_X0_planEvent hD t1 i7 ht1 s8) m_X0_planEvent k_X0_72 kO_52 rfl (by decide) e_X0_plan_81 rfl rfl (Nat.le_of_ble_eq_true rfl) (fun s14 => ?_)
        exact hj13 s14
  refine MF.loop2 (fun i15 s16 => s16) (fun i15 s16 => [(0, .ref (ead E 52)), (1, .ref (ead E t1)), (2, .int i15)]) (fun self17 hself17 i15 s16 => ?_) fu (nI 0) s3
  unfold b_X0_plan_21
  refine MF.iload_n C e_X0_plan_21 2 rfl rfl ?_
  refine MF.aload_n C e_X0_plan_22 0 rfl rfl ?_
  refine MF.get C cf_X0 l_X0_39 e_X0_plan_23 kF_52_7 ?_
  refine MF.icmp_ge (tgt := 50) C e_X0_plan_26 (by decide) (fun _ => ?_) (fun _ => ?_)
  · refine MF.sub [0, 1] rfl ?_
    exact hj5 s16
  · refine MF.aload_n C e_X0_plan_29 0 rfl rfl ?_
    refine MF.getR (j := 56) C cf_X0 l_X0_24 e_X0_plan_30 kF_52_2 ?_
    refine MF.iload_n C e_X0_plan_33 2 rfl rfl ?_
    refine MF.aload_n C e_X0_plan_34 1 rfl rfl ?_
    refine MF.getRN (j := (t1 + 1)) C cf_X5 l_X0_52 e_X0_plan_35 (iTo.f0 ht1) ?_
    refine MF.iload_n C e_X0_plan_38 2 rfl rfl ?_
    refine MF.iconst (v := (nI 3)) C e_X0_plan_39 rfl ?_
    refine MF.callVP (As := [.int i15, .int (nI 3)]) C (R_X2_cell hD (t1 + 1) i15 (nI 3) (iTo.o0 ht1) s16) m_X2_cell k_X0_58 (iRo.o (iTo.o0 ht1)) rfl (by decide) e_X0_plan_40 rfl rfl (Nat.le_of_ble_eq_true rfl) (fun v18 => ?_)
    refine MF.iast C e_X0_plan_43 kA_56 (fun s19 => ?_)
    refine MF.iinc (v := (nI 1)) (lv' := [(0, .ref (ead E 52)), (1, .ref (ead E t1)), (2, .int (i15 + (nI 1)))]) C e_X0_plan_44 2 rfl rfl (by decide) rfl ?_
    refine MF.goto (tgt := 21) C e_X0_plan_47 (by decide) ?_
    exact hself17 (i15 + (nI 1)) s19
theorem e_X0_addStaged_0 : Dc cX0_addStaged 0 (.aload_n 0) 1 1 := ⟨by decide +kernel, rfl⟩
theorem e_X0_addStaged_1 : Dc cX0_addStaged 1 (.iload_n 3) 1 2 := ⟨by decide +kernel, rfl⟩
theorem e_X0_addStaged_2 : Dc cX0_addStaged 2 (.invokevirtual 86) 3 5 := ⟨by decide +kernel, rfl⟩
theorem e_X0_addStaged_5 : Dc cX0_addStaged 5 (.istore 4) 2 7 := ⟨by decide +kernel, rfl⟩
theorem e_X0_addStaged_7 : Dc cX0_addStaged 7 (.aload_n 0) 1 8 := ⟨by decide +kernel, rfl⟩
theorem e_X0_addStaged_8 : Dc cX0_addStaged 8 (.getfield 20) 3 11 := ⟨by decide +kernel, rfl⟩
theorem e_X0_addStaged_11 : Dc cX0_addStaged 11 (.iconst 0) 1 12 := ⟨by decide +kernel, rfl⟩
theorem e_X0_addStaged_12 : Dc cX0_addStaged 12 (.iload_n 3) 1 13 := ⟨by decide +kernel, rfl⟩
theorem e_X0_addStaged_13 : Dc cX0_addStaged 13 (.iastore) 1 14 := ⟨by decide +kernel, rfl⟩
theorem e_X0_addStaged_14 : Dc cX0_addStaged 14 (.aload_n 0) 1 15 := ⟨by decide +kernel, rfl⟩
theorem e_X0_addStaged_15 : Dc cX0_addStaged 15 (.getfield 20) 3 18 := ⟨by decide +kernel, rfl⟩
theorem e_X0_addStaged_18 : Dc cX0_addStaged 18 (.iconst 1) 1 19 := ⟨by decide +kernel, rfl⟩
theorem e_X0_addStaged_19 : Dc cX0_addStaged 19 (.iconst 1) 1 20 := ⟨by decide +kernel, rfl⟩
theorem e_X0_addStaged_20 : Dc cX0_addStaged 20 (.iload_n 1) 1 21 := ⟨by decide +kernel, rfl⟩
theorem e_X0_addStaged_21 : Dc cX0_addStaged 21 (.ishl) 1 22 := ⟨by decide +kernel, rfl⟩
theorem e_X0_addStaged_22 : Dc cX0_addStaged 22 (.iastore) 1 23 := ⟨by decide +kernel, rfl⟩
theorem e_X0_addStaged_23 : Dc cX0_addStaged 23 (.aload_n 0) 1 24 := ⟨by decide +kernel, rfl⟩
theorem e_X0_addStaged_24 : Dc cX0_addStaged 24 (.getfield 20) 3 27 := ⟨by decide +kernel, rfl⟩
theorem e_X0_addStaged_27 : Dc cX0_addStaged 27 (.iconst 2) 1 28 := ⟨by decide +kernel, rfl⟩
theorem e_X0_addStaged_28 : Dc cX0_addStaged 28 (.iload_n 2) 1 29 := ⟨by decide +kernel, rfl⟩
theorem e_X0_addStaged_29 : Dc cX0_addStaged 29 (.iastore) 1 30 := ⟨by decide +kernel, rfl⟩
theorem e_X0_addStaged_30 : Dc cX0_addStaged 30 (.aload_n 0) 1 31 := ⟨by decide +kernel, rfl⟩
theorem e_X0_addStaged_31 : Dc cX0_addStaged 31 (.getfield 20) 3 34 := ⟨by decide +kernel, rfl⟩
theorem e_X0_addStaged_34 : Dc cX0_addStaged 34 (.iconst 3) 1 35 := ⟨by decide +kernel, rfl⟩
theorem e_X0_addStaged_35 : Dc cX0_addStaged 35 (.iconst 3) 1 36 := ⟨by decide +kernel, rfl⟩
theorem e_X0_addStaged_36 : Dc cX0_addStaged 36 (.bipush 9) 2 38 := ⟨by decide +kernel, rfl⟩
theorem e_X0_addStaged_38 : Dc cX0_addStaged 38 (.invokestatic 93) 3 41 := ⟨by decide +kernel, rfl⟩
theorem e_X0_addStaged_41 : Dc cX0_addStaged 41 (.iastore) 1 42 := ⟨by decide +kernel, rfl⟩
theorem e_X0_addStaged_42 : Dc cX0_addStaged 42 (.aload_n 0) 1 43 := ⟨by decide +kernel, rfl⟩
theorem e_X0_addStaged_43 : Dc cX0_addStaged 43 (.getfield 20) 3 46 := ⟨by decide +kernel, rfl⟩
theorem e_X0_addStaged_46 : Dc cX0_addStaged 46 (.iconst 4) 1 47 := ⟨by decide +kernel, rfl⟩
theorem e_X0_addStaged_47 : Dc cX0_addStaged 47 (.iload_n 3) 1 48 := ⟨by decide +kernel, rfl⟩
theorem e_X0_addStaged_48 : Dc cX0_addStaged 48 (.getstatic 96) 3 51 := ⟨by decide +kernel, rfl⟩
theorem e_X0_addStaged_51 : Dc cX0_addStaged 51 (.iconst 3) 1 52 := ⟨by decide +kernel, rfl⟩
theorem e_X0_addStaged_52 : Dc cX0_addStaged 52 (.iaload) 1 53 := ⟨by decide +kernel, rfl⟩
theorem e_X0_addStaged_53 : Dc cX0_addStaged 53 (.iadd) 1 54 := ⟨by decide +kernel, rfl⟩
theorem e_X0_addStaged_54 : Dc cX0_addStaged 54 (.iastore) 1 55 := ⟨by decide +kernel, rfl⟩
theorem e_X0_addStaged_55 : Dc cX0_addStaged 55 (.aload_n 0) 1 56 := ⟨by decide +kernel, rfl⟩
theorem e_X0_addStaged_56 : Dc cX0_addStaged 56 (.getfield 20) 3 59 := ⟨by decide +kernel, rfl⟩
theorem e_X0_addStaged_59 : Dc cX0_addStaged 59 (.iconst 5) 1 60 := ⟨by decide +kernel, rfl⟩
theorem e_X0_addStaged_60 : Dc cX0_addStaged 60 (.sipush 256) 3 63 := ⟨by decide +kernel, rfl⟩
theorem e_X0_addStaged_63 : Dc cX0_addStaged 63 (.iastore) 1 64 := ⟨by decide +kernel, rfl⟩
theorem e_X0_addStaged_64 : Dc cX0_addStaged 64 (.aload_n 0) 1 65 := ⟨by decide +kernel, rfl⟩
theorem e_X0_addStaged_65 : Dc cX0_addStaged 65 (.getfield 16) 3 68 := ⟨by decide +kernel, rfl⟩
theorem e_X0_addStaged_68 : Dc cX0_addStaged 68 (.iload 4) 2 70 := ⟨by decide +kernel, rfl⟩
theorem e_X0_addStaged_70 : Dc cX0_addStaged 70 (.aload_n 0) 1 71 := ⟨by decide +kernel, rfl⟩
theorem e_X0_addStaged_71 : Dc cX0_addStaged 71 (.getfield 20) 3 74 := ⟨by decide +kernel, rfl⟩
theorem e_X0_addStaged_74 : Dc cX0_addStaged 74 (.invokevirtual 89) 3 77 := ⟨by decide +kernel, rfl⟩
theorem e_X0_addStaged_77 : Dc cX0_addStaged 77 (.iload 4) 2 79 := ⟨by decide +kernel, rfl⟩
theorem e_X0_addStaged_79 : Dc cX0_addStaged 79 (.ireturn) 1 80 := ⟨by decide +kernel, rfl⟩
set_option maxHeartbeats 4000000 in
set_option maxRecDepth 20000 in
theorem R_X0_addStaged (hD : DD E) (x1 : Int32) (x2 : Int32) (x3 : Int32) (s : Sg) : ∀ v τ, (f_X0_addStaged x1 x2 x3 s) = some (v, τ) → RI l E 2 M_X0_addStaged [.ref (ead E 52), .int x1, .int x2, .int x3] s v τ := by
  refine ofI hD (by decide +kernel) (Nat.le_of_ble_eq_true rfl) (fun X C => ?_)
  show MF l E X (fun q : Int32 × Sg => QI E X q.1 q.2) (f_X0_addStaged x1 x2 x3 s) s 0 [(0, .ref (ead E 52)), (1, .int x1), (2, .int x2), (3, .int x3)] []
  unfold f_X0_addStaged
  refine MF.aload_n C e_X0_addStaged_0 0 rfl rfl ?_
  refine MF.iload_n C e_X0_addStaged_1 3 rfl rfl ?_
  refine MF.callVP (As := [.int x3]) C (R_X0_placeBehind hD x3 s) m_X0_placeBehind k_X0_86 kO_52 rfl (by decide) e_X0_addStaged_2 rfl rfl (Nat.le_of_ble_eq_true rfl) (fun v1 => ?_)
  refine MF.istore (lv' := [(0, .ref (ead E 52)), (1, .int x1), (2, .int x2), (3, .int x3), (4, .int v1)]) C e_X0_addStaged_5 (by decide) rfl ?_
  refine MF.aload_n C e_X0_addStaged_7 0 rfl rfl ?_
  refine MF.getR (j := 55) C cf_X0 l_X0_20 e_X0_addStaged_8 kF_52_1 ?_
  refine MF.iconst (v := (nI 0)) C e_X0_addStaged_11 rfl ?_
  refine MF.iload_n C e_X0_addStaged_12 3 rfl rfl ?_
  refine MF.iast C e_X0_addStaged_13 kA_55 (fun s2 => ?_)
  refine MF.aload_n C e_X0_addStaged_14 0 rfl rfl ?_
  refine MF.getR (j := 55) C cf_X0 l_X0_20 e_X0_addStaged_15 kF_52_1 ?_
  refine MF.iconst (v := (nI 1)) C e_X0_addStaged_18 rfl ?_
  refine MF.iconst (v := (nI 1)) C e_X0_addStaged_19 rfl ?_
  refine MF.iload_n C e_X0_addStaged_20 1 rfl rfl ?_
  refine MF.ishl C e_X0_addStaged_21 ?_
  refine MF.iast C e_X0_addStaged_22 kA_55 (fun s3 => ?_)
  refine MF.aload_n C e_X0_addStaged_23 0 rfl rfl ?_
  refine MF.getR (j := 55) C cf_X0 l_X0_20 e_X0_addStaged_24 kF_52_1 ?_
  refine MF.iconst (v := (nI 2)) C e_X0_addStaged_27 rfl ?_
  refine MF.iload_n C e_X0_addStaged_28 2 rfl rfl ?_
  refine MF.iast C e_X0_addStaged_29 kA_55 (fun s4 => ?_)
  refine MF.aload_n C e_X0_addStaged_30 0 rfl rfl ?_
  refine MF.getR (j := 55) C cf_X0 l_X0_20 e_X0_addStaged_31 kF_52_1 ?_
  refine MF.iconst (v := (nI 3)) C e_X0_addStaged_34 rfl ?_
  refine MF.iconst (v := (nI 3)) C e_X0_addStaged_35 rfl ?_
  refine MF.bipush (v := (nI 9)) C e_X0_addStaged_36 (by decide) ?_
  refine MF.callSNP (As := [.int (nI 3), .int (nI 9)]) C (R_X7_rankBy hD (nI 3) (nI 9) s4) m_X7_rankBy k_X0_93 (by decide) e_X0_addStaged_38 rfl rfl (Nat.le_of_ble_eq_true rfl) (fun v5 => ?_)
  refine MF.iast C e_X0_addStaged_41 kA_55 (fun s6 => ?_)
  refine MF.aload_n C e_X0_addStaged_42 0 rfl rfl ?_
  refine MF.getR (j := 55) C cf_X0 l_X0_20 e_X0_addStaged_43 kF_52_1 ?_
  refine MF.iconst (v := (nI 4)) C e_X0_addStaged_46 rfl ?_
  refine MF.iload_n C e_X0_addStaged_47 3 rfl rfl ?_
  refine MF.getTN (t := 4) C (by decide) l_X0_96 e_X0_addStaged_48 ?_
  refine MF.iconst (v := (nI 3)) C e_X0_addStaged_51 rfl ?_
  refine MF.tald C (by decide) e_X0_addStaged_52 (fun v7 => ?_)
  refine MF.iadd C e_X0_addStaged_53 ?_
  refine MF.iast C e_X0_addStaged_54 kA_55 (fun s8 => ?_)
  refine MF.aload_n C e_X0_addStaged_55 0 rfl rfl ?_
  refine MF.getR (j := 55) C cf_X0 l_X0_20 e_X0_addStaged_56 kF_52_1 ?_
  refine MF.iconst (v := (nI 5)) C e_X0_addStaged_59 rfl ?_
  refine MF.sipush (v := (nI 256)) C e_X0_addStaged_60 (by decide) ?_
  refine MF.iast C e_X0_addStaged_63 kA_55 (fun s9 => ?_)
  refine MF.aload_n C e_X0_addStaged_64 0 rfl rfl ?_
  refine MF.getR (j := 53) C cf_X0 l_X0_16 e_X0_addStaged_65 kF_52_0 ?_
  refine MF.iload C e_X0_addStaged_68 4 rfl ?_
  refine MF.aload_n C e_X0_addStaged_70 0 rfl rfl ?_
  refine MF.getR (j := 55) C cf_X0 l_X0_20 e_X0_addStaged_71 kF_52_1 ?_
  refine MF.callVU (As := [.int v1, .ref (ead E 55)]) C (R_X2_insert hD 53 v1 55 kR_53 kA_55 s9) m_X2_insert k_X0_89 (iRo.o kR_53) rfl (by decide) e_X0_addStaged_74 rfl rfl (Nat.le_of_ble_eq_true rfl) (fun s10 => ?_)
  refine MF.iload C e_X0_addStaged_77 4 rfl ?_
  exact MF.iret C e_X0_addStaged_79
theorem e_X2_drop_0 : Dc cX2_drop 0 (.iload_n 1) 1 1 := ⟨by decide +kernel, rfl⟩
theorem e_X2_drop_1 : Dc cX2_drop 1 (.aload_n 0) 1 2 := ⟨by decide +kernel, rfl⟩
theorem e_X2_drop_2 : Dc cX2_drop 2 (.getfield 7) 3 5 := ⟨by decide +kernel, rfl⟩
theorem e_X2_drop_5 : Dc cX2_drop 5 (.invokestatic 34) 3 8 := ⟨by decide +kernel, rfl⟩
theorem e_X2_drop_8 : Dc cX2_drop 8 (.ifCond .ne 4) 3 11 := ⟨by decide +kernel, rfl⟩
theorem e_X2_drop_11 : Dc cX2_drop 11 (.return_) 1 12 := ⟨by decide +kernel, rfl⟩
theorem e_X2_drop_12 : Dc cX2_drop 12 (.iload_n 1) 1 13 := ⟨by decide +kernel, rfl⟩
theorem e_X2_drop_13 : Dc cX2_drop 13 (.aload_n 0) 1 14 := ⟨by decide +kernel, rfl⟩
theorem e_X2_drop_14 : Dc cX2_drop 14 (.getfield 13) 3 17 := ⟨by decide +kernel, rfl⟩
theorem e_X2_drop_17 : Dc cX2_drop 17 (.imul) 1 18 := ⟨by decide +kernel, rfl⟩
theorem e_X2_drop_18 : Dc cX2_drop 18 (.istore_n 2) 1 19 := ⟨by decide +kernel, rfl⟩
theorem e_X2_drop_19 : Dc cX2_drop 19 (.aload_n 0) 1 20 := ⟨by decide +kernel, rfl⟩
theorem e_X2_drop_20 : Dc cX2_drop 20 (.getfield 16) 3 23 := ⟨by decide +kernel, rfl⟩
theorem e_X2_drop_23 : Dc cX2_drop 23 (.iload_n 2) 1 24 := ⟨by decide +kernel, rfl⟩
theorem e_X2_drop_24 : Dc cX2_drop 24 (.aload_n 0) 1 25 := ⟨by decide +kernel, rfl⟩
theorem e_X2_drop_25 : Dc cX2_drop 25 (.getfield 13) 3 28 := ⟨by decide +kernel, rfl⟩
theorem e_X2_drop_28 : Dc cX2_drop 28 (.iadd) 1 29 := ⟨by decide +kernel, rfl⟩
theorem e_X2_drop_29 : Dc cX2_drop 29 (.aload_n 0) 1 30 := ⟨by decide +kernel, rfl⟩
theorem e_X2_drop_30 : Dc cX2_drop 30 (.getfield 16) 3 33 := ⟨by decide +kernel, rfl⟩
theorem e_X2_drop_33 : Dc cX2_drop 33 (.iload_n 2) 1 34 := ⟨by decide +kernel, rfl⟩
theorem e_X2_drop_34 : Dc cX2_drop 34 (.aload_n 0) 1 35 := ⟨by decide +kernel, rfl⟩
theorem e_X2_drop_35 : Dc cX2_drop 35 (.getfield 7) 3 38 := ⟨by decide +kernel, rfl⟩
theorem e_X2_drop_38 : Dc cX2_drop 38 (.iload_n 1) 1 39 := ⟨by decide +kernel, rfl⟩
theorem e_X2_drop_39 : Dc cX2_drop 39 (.isub) 1 40 := ⟨by decide +kernel, rfl⟩
theorem e_X2_drop_40 : Dc cX2_drop 40 (.iconst 1) 1 41 := ⟨by decide +kernel, rfl⟩
theorem e_X2_drop_41 : Dc cX2_drop 41 (.isub) 1 42 := ⟨by decide +kernel, rfl⟩
theorem e_X2_drop_42 : Dc cX2_drop 42 (.aload_n 0) 1 43 := ⟨by decide +kernel, rfl⟩
theorem e_X2_drop_43 : Dc cX2_drop 43 (.getfield 13) 3 46 := ⟨by decide +kernel, rfl⟩
theorem e_X2_drop_46 : Dc cX2_drop 46 (.imul) 1 47 := ⟨by decide +kernel, rfl⟩
theorem e_X2_drop_47 : Dc cX2_drop 47 (.invokestatic 28) 3 50 := ⟨by decide +kernel, rfl⟩
theorem e_X2_drop_50 : Dc cX2_drop 50 (.aload_n 0) 1 51 := ⟨by decide +kernel, rfl⟩
theorem e_X2_drop_51 : Dc cX2_drop 51 (.dup) 1 52 := ⟨by decide +kernel, rfl⟩
theorem e_X2_drop_52 : Dc cX2_drop 52 (.getfield 7) 3 55 := ⟨by decide +kernel, rfl⟩
theorem e_X2_drop_55 : Dc cX2_drop 55 (.iconst 1) 1 56 := ⟨by decide +kernel, rfl⟩
theorem e_X2_drop_56 : Dc cX2_drop 56 (.isub) 1 57 := ⟨by decide +kernel, rfl⟩
theorem e_X2_drop_57 : Dc cX2_drop 57 (.putfield 7) 3 60 := ⟨by decide +kernel, rfl⟩
theorem e_X2_drop_60 : Dc cX2_drop 60 (.return_) 1 61 := ⟨by decide +kernel, rfl⟩
set_option maxHeartbeats 4000000 in
set_option maxRecDepth 20000 in
theorem R_X2_drop (hD : DD E) (o : Nat) (x1 : Int32) (ho : iRo o) (s : Sg) : ∀ τ, (f_X2_drop o x1 s) = some τ → RV l E 1 M_X2_drop [.ref (ead E o), .int x1] s τ := by
  refine ofU hD (by decide +kernel) (Nat.le_of_ble_eq_true rfl) (fun X C => ?_)
  show MF l E X (fun q : Sg => QV E X q) (f_X2_drop o x1 s) s 0 [(0, .ref (ead E o)), (1, .int x1)] []
  unfold f_X2_drop
  refine MF.iload_n C e_X2_drop_0 1 rfl rfl ?_
  refine MF.aload_n C e_X2_drop_1 0 rfl rfl ?_
  refine MF.get C cf_X2 l_X2_7 e_X2_drop_2 (iRo.f2 ho) ?_
  refine MF.callSNP (As := [.int x1, .int (s o 2)]) C (R_X7_isBelow hD x1 (s o 2) s) m_X7_isBelow k_X2_34 (by decide) e_X2_drop_5 rfl rfl (Nat.le_of_ble_eq_true rfl) (fun v1 => ?_)
  refine MF.if_ne (tgt := 12) C e_X2_drop_8 (by decide) (fun _ => ?_) (fun _ => ?_)
  · refine MF.iload_n C e_X2_drop_12 1 rfl rfl ?_
    refine MF.aload_n C e_X2_drop_13 0 rfl rfl ?_
    refine MF.get C cf_X2 l_X2_13 e_X2_drop_14 (iRo.f0 ho) ?_
    refine MF.imul C e_X2_drop_17 ?_
    refine MF.nmI (fun v2 => ?_)
    refine MF.istore_n (lv' := [(0, .ref (ead E o)), (1, .int x1), (2, .int v2)]) C e_X2_drop_18 (by decide) rfl ?_
    refine MF.aload_n C e_X2_drop_19 0 rfl rfl ?_
    refine MF.getR (j := (o + 1)) C cf_X2 l_X2_16 e_X2_drop_20 (iRo.f1 ho) ?_
    refine MF.iload_n C e_X2_drop_23 2 rfl rfl ?_
    refine MF.aload_n C e_X2_drop_24 0 rfl rfl ?_
    refine MF.get C cf_X2 l_X2_13 e_X2_drop_25 (iRo.f0 ho) ?_
    refine MF.iadd C e_X2_drop_28 ?_
    refine MF.aload_n C e_X2_drop_29 0 rfl rfl ?_
    refine MF.getR (j := (o + 1)) C cf_X2 l_X2_16 e_X2_drop_30 (iRo.f1 ho) ?_
    refine MF.iload_n C e_X2_drop_33 2 rfl rfl ?_
    refine MF.aload_n C e_X2_drop_34 0 rfl rfl ?_
    refine MF.get C cf_X2 l_X2_7 e_X2_drop_35 (iRo.f2 ho) ?_
    refine MF.iload_n C e_X2_drop_38 1 rfl rfl ?_
    refine MF.isub C e_X2_drop_39 ?_
    refine MF.iconst (v := (nI 1)) C e_X2_drop_40 rfl ?_
    refine MF.isub C e_X2_drop_41 ?_
    refine MF.aload_n C e_X2_drop_42 0 rfl rfl ?_
    refine MF.get C cf_X2 l_X2_13 e_X2_drop_43 (iRo.f0 ho) ?_
    refine MF.imul C e_X2_drop_46 ?_
    refine MF.copy C k_X2_28 e_X2_drop_47 (iRo.a ho) (iRo.a ho) (by decide) (Nat.le_of_ble_eq_true rfl) (fun s3 => ?_)
    refine MF.aload_n C e_X2_drop_50 0 rfl rfl ?_
    refine MF.dup C e_X2_drop_51 rfl ?_
    refine MF.get C cf_X2 l_X2_7 e_X2_drop_52 (iRo.f2 ho) ?_
    refine MF.iconst (v := (nI 1)) C e_X2_drop_55 rfl ?_
    refine MF.isub C e_X2_drop_56 ?_
    refine MF.put C cf_X2 l_X2_7 p_X2_2 e_X2_drop_57 (iRo.f2 ho) rfl ?_
    refine MF.nmS (fun s4 => ?_)
    exact MF.vret C e_X2_drop_60
  · exact MF.vret C e_X2_drop_11
theorem e_X0_dropStaged_0 : Dc cX0_dropStaged 0 (.aload_n 0) 1 1 := ⟨by decide +kernel, rfl⟩
theorem e_X0_dropStaged_1 : Dc cX0_dropStaged 1 (.getfield 16) 3 4 := ⟨by decide +kernel, rfl⟩
theorem e_X0_dropStaged_4 : Dc cX0_dropStaged 4 (.iload_n 1) 1 5 := ⟨by decide +kernel, rfl⟩
theorem e_X0_dropStaged_5 : Dc cX0_dropStaged 5 (.invokevirtual 99) 3 8 := ⟨by decide +kernel, rfl⟩
theorem e_X0_dropStaged_8 : Dc cX0_dropStaged 8 (.return_) 1 9 := ⟨by decide +kernel, rfl⟩
set_option maxHeartbeats 4000000 in
set_option maxRecDepth 20000 in
theorem R_X0_dropStaged (hD : DD E) (x1 : Int32) (s : Sg) : ∀ τ, (f_X0_dropStaged x1 s) = some τ → RV l E 2 M_X0_dropStaged [.ref (ead E 52), .int x1] s τ := by
  refine ofU hD (by decide +kernel) (Nat.le_of_ble_eq_true rfl) (fun X C => ?_)
  show MF l E X (fun q : Sg => QV E X q) (f_X0_dropStaged x1 s) s 0 [(0, .ref (ead E 52)), (1, .int x1)] []
  unfold f_X0_dropStaged
  refine MF.aload_n C e_X0_dropStaged_0 0 rfl rfl ?_
  refine MF.getR (j := 53) C cf_X0 l_X0_16 e_X0_dropStaged_1 kF_52_0 ?_
  refine MF.iload_n C e_X0_dropStaged_4 1 rfl rfl ?_
  refine MF.callVU (As := [.int x1]) C (R_X2_drop hD 53 x1 kR_53 s) m_X2_drop k_X0_99 (iRo.o kR_53) rfl (by decide) e_X0_dropStaged_5 rfl rfl (Nat.le_of_ble_eq_true rfl) (fun s1 => ?_)
  exact MF.vret C e_X0_dropStaged_8
theorem e_X0_streets_0 : Dc cX0_streets 0 (.aload_n 0) 1 1 := ⟨by decide +kernel, rfl⟩
theorem e_X0_streets_1 : Dc cX0_streets 1 (.getfield 39) 3 4 := ⟨by decide +kernel, rfl⟩
theorem e_X0_streets_4 : Dc cX0_streets 4 (.ireturn) 1 5 := ⟨by decide +kernel, rfl⟩
set_option maxHeartbeats 4000000 in
set_option maxRecDepth 20000 in
theorem R_X0_streets (hD : DD E) (s : Sg) : ∀ v, (f_X0_streets s) = some v → RI l E 0 M_X0_streets [.ref (ead E 52)] s v s := by
  refine ofP hD (by decide +kernel) (Nat.le_of_ble_eq_true rfl) (fun X C => ?_)
  show MF l E X (fun q : Int32 => QI E X q s) (f_X0_streets s) s 0 [(0, .ref (ead E 52))] []
  unfold f_X0_streets
  refine MF.aload_n C e_X0_streets_0 0 rfl rfl ?_
  refine MF.get C cf_X0 l_X0_39 e_X0_streets_1 kF_52_7 ?_
  exact MF.iretp C e_X0_streets_4
theorem e_X0_firstWordOf_0 : Dc cX0_firstWordOf 0 (.iload_n 1) 1 1 := ⟨by decide +kernel, rfl⟩
theorem e_X0_firstWordOf_1 : Dc cX0_firstWordOf 1 (.bipush 7) 2 3 := ⟨by decide +kernel, rfl⟩
theorem e_X0_firstWordOf_3 : Dc cX0_firstWordOf 3 (.invokestatic 103) 3 6 := ⟨by decide +kernel, rfl⟩
theorem e_X0_firstWordOf_6 : Dc cX0_firstWordOf 6 (.ifCond .eq 12) 3 9 := ⟨by decide +kernel, rfl⟩
theorem e_X0_firstWordOf_9 : Dc cX0_firstWordOf 9 (.aload_n 0) 1 10 := ⟨by decide +kernel, rfl⟩
theorem e_X0_firstWordOf_10 : Dc cX0_firstWordOf 10 (.getfield 24) 3 13 := ⟨by decide +kernel, rfl⟩
theorem e_X0_firstWordOf_13 : Dc cX0_firstWordOf 13 (.iload_n 1) 1 14 := ⟨by decide +kernel, rfl⟩
theorem e_X0_firstWordOf_14 : Dc cX0_firstWordOf 14 (.iaload) 1 15 := ⟨by decide +kernel, rfl⟩
theorem e_X0_firstWordOf_15 : Dc cX0_firstWordOf 15 (.goto 4) 3 18 := ⟨by decide +kernel, rfl⟩
theorem e_X0_firstWordOf_18 : Dc cX0_firstWordOf 18 (.iconst (-1)) 1 19 := ⟨by decide +kernel, rfl⟩
theorem e_X0_firstWordOf_19 : Dc cX0_firstWordOf 19 (.ireturn) 1 20 := ⟨by decide +kernel, rfl⟩
set_option maxHeartbeats 4000000 in
set_option maxRecDepth 20000 in
theorem R_X0_firstWordOf (hD : DD E) (x1 : Int32) (s : Sg) : ∀ v, (f_X0_firstWordOf x1 s) = some v → RI l E 1 M_X0_firstWordOf [.ref (ead E 52), .int x1] s v s := by
  refine ofP hD (by decide +kernel) (Nat.le_of_ble_eq_true rfl) (fun X C => ?_)
  show MF l E X (fun q : Int32 => QI E X q s) (f_X0_firstWordOf x1 s) s 0 [(0, .ref (ead E 52)), (1, .int x1)] []
  unfold f_X0_firstWordOf
  refine MF.iload_n C e_X0_firstWordOf_0 1 rfl rfl ?_
  refine MF.bipush (v := (nI 7)) C e_X0_firstWordOf_1 (by decide) ?_
  refine MF.callSNP (As := [.int x1, .int (nI 7)]) C (R_X7_isBelow hD x1 (nI 7) s) m_X7_isBelow k_X0_103 (by decide) e_X0_firstWordOf_3 rfl rfl (Nat.le_of_ble_eq_true rfl) (fun v1 => ?_)
  refine MF.if_eq (tgt := 18) C e_X0_firstWordOf_6 (by decide) (fun _ => ?_) (fun _ => ?_)
  · refine MF.iconst (v := (-1 : Int32)) C e_X0_firstWordOf_18 rfl ?_
    exact MF.iretp C e_X0_firstWordOf_19
  · refine MF.aload_n C e_X0_firstWordOf_9 0 rfl rfl ?_
    refine MF.getR (j := 56) C cf_X0 l_X0_24 e_X0_firstWordOf_10 kF_52_2 ?_
    refine MF.iload_n C e_X0_firstWordOf_13 1 rfl rfl ?_
    refine MF.iald C e_X0_firstWordOf_14 kA_56 (fun v2 => ?_)
    refine MF.goto (tgt := 19) C e_X0_firstWordOf_15 (by decide) ?_
    exact MF.iretp C e_X0_firstWordOf_19
theorem e_X0_begin_0 : Dc cX0_begin 0 (.aload_n 0) 1 1 := ⟨by decide +kernel, rfl⟩
theorem e_X0_begin_1 : Dc cX0_begin 1 (.iconst 0) 1 2 := ⟨by decide +kernel, rfl⟩
theorem e_X0_begin_2 : Dc cX0_begin 2 (.putfield 46) 3 5 := ⟨by decide +kernel, rfl⟩
theorem e_X0_begin_5 : Dc cX0_begin 5 (.aload_n 0) 1 6 := ⟨by decide +kernel, rfl⟩
theorem e_X0_begin_6 : Dc cX0_begin 6 (.getfield 27) 3 9 := ⟨by decide +kernel, rfl⟩
theorem e_X0_begin_9 : Dc cX0_begin 9 (.iload_n 1) 1 10 := ⟨by decide +kernel, rfl⟩
theorem e_X0_begin_10 : Dc cX0_begin 10 (.aload_n 0) 1 11 := ⟨by decide +kernel, rfl⟩
theorem e_X0_begin_11 : Dc cX0_begin 11 (.getfield 24) 3 14 := ⟨by decide +kernel, rfl⟩
theorem e_X0_begin_14 : Dc cX0_begin 14 (.iload_n 1) 1 15 := ⟨by decide +kernel, rfl⟩
theorem e_X0_begin_15 : Dc cX0_begin 15 (.iaload) 1 16 := ⟨by decide +kernel, rfl⟩
theorem e_X0_begin_16 : Dc cX0_begin 16 (.iastore) 1 17 := ⟨by decide +kernel, rfl⟩
theorem e_X0_begin_17 : Dc cX0_begin 17 (.aload_n 0) 1 18 := ⟨by decide +kernel, rfl⟩
theorem e_X0_begin_18 : Dc cX0_begin 18 (.getfield 30) 3 21 := ⟨by decide +kernel, rfl⟩
theorem e_X0_begin_21 : Dc cX0_begin 21 (.iload_n 1) 1 22 := ⟨by decide +kernel, rfl⟩
theorem e_X0_begin_22 : Dc cX0_begin 22 (.iconst 1) 1 23 := ⟨by decide +kernel, rfl⟩
theorem e_X0_begin_23 : Dc cX0_begin 23 (.iastore) 1 24 := ⟨by decide +kernel, rfl⟩
theorem e_X0_begin_24 : Dc cX0_begin 24 (.aload_n 0) 1 25 := ⟨by decide +kernel, rfl⟩
theorem e_X0_begin_25 : Dc cX0_begin 25 (.getfield 33) 3 28 := ⟨by decide +kernel, rfl⟩
theorem e_X0_begin_28 : Dc cX0_begin 28 (.iload_n 1) 1 29 := ⟨by decide +kernel, rfl⟩
theorem e_X0_begin_29 : Dc cX0_begin 29 (.iconst 0) 1 30 := ⟨by decide +kernel, rfl⟩
theorem e_X0_begin_30 : Dc cX0_begin 30 (.iastore) 1 31 := ⟨by decide +kernel, rfl⟩
theorem e_X0_begin_31 : Dc cX0_begin 31 (.aload_n 0) 1 32 := ⟨by decide +kernel, rfl⟩
theorem e_X0_begin_32 : Dc cX0_begin 32 (.getfield 36) 3 35 := ⟨by decide +kernel, rfl⟩
theorem e_X0_begin_35 : Dc cX0_begin 35 (.iload_n 1) 1 36 := ⟨by decide +kernel, rfl⟩
theorem e_X0_begin_36 : Dc cX0_begin 36 (.iconst 0) 1 37 := ⟨by decide +kernel, rfl⟩
theorem e_X0_begin_37 : Dc cX0_begin 37 (.iastore) 1 38 := ⟨by decide +kernel, rfl⟩
theorem e_X0_begin_38 : Dc cX0_begin 38 (.return_) 1 39 := ⟨by decide +kernel, rfl⟩
set_option maxHeartbeats 4000000 in
set_option maxRecDepth 20000 in
theorem R_X0_begin (hD : DD E) (x1 : Int32) (s : Sg) : ∀ τ, (f_X0_begin x1 s) = some τ → RV l E 0 M_X0_begin [.ref (ead E 52), .int x1] s τ := by
  refine ofU hD (by decide +kernel) (Nat.le_of_ble_eq_true rfl) (fun X C => ?_)
  show MF l E X (fun q : Sg => QV E X q) (f_X0_begin x1 s) s 0 [(0, .ref (ead E 52)), (1, .int x1)] []
  unfold f_X0_begin
  refine MF.aload_n C e_X0_begin_0 0 rfl rfl ?_
  refine MF.iconst (v := (nI 0)) C e_X0_begin_1 rfl ?_
  refine MF.put C cf_X0 l_X0_46 p_X0_9 e_X0_begin_2 kF_52_9 rfl ?_
  refine MF.nmS (fun s1 => ?_)
  refine MF.aload_n C e_X0_begin_5 0 rfl rfl ?_
  refine MF.getR (j := 57) C cf_X0 l_X0_27 e_X0_begin_6 kF_52_3 ?_
  refine MF.iload_n C e_X0_begin_9 1 rfl rfl ?_
  refine MF.aload_n C e_X0_begin_10 0 rfl rfl ?_
  refine MF.getR (j := 56) C cf_X0 l_X0_24 e_X0_begin_11 kF_52_2 ?_
  refine MF.iload_n C e_X0_begin_14 1 rfl rfl ?_
  refine MF.iald C e_X0_begin_15 kA_56 (fun v2 => ?_)
  refine MF.iast C e_X0_begin_16 kA_57 (fun s3 => ?_)
  refine MF.aload_n C e_X0_begin_17 0 rfl rfl ?_
  refine MF.getR (j := 58) C cf_X0 l_X0_30 e_X0_begin_18 kF_52_4 ?_
  refine MF.iload_n C e_X0_begin_21 1 rfl rfl ?_
  refine MF.iconst (v := (nI 1)) C e_X0_begin_22 rfl ?_
  refine MF.iast C e_X0_begin_23 kA_58 (fun s4 => ?_)
  refine MF.aload_n C e_X0_begin_24 0 rfl rfl ?_
  refine MF.getR (j := 59) C cf_X0 l_X0_33 e_X0_begin_25 kF_52_5 ?_
  refine MF.iload_n C e_X0_begin_28 1 rfl rfl ?_
  refine MF.iconst (v := (nI 0)) C e_X0_begin_29 rfl ?_
  refine MF.iast C e_X0_begin_30 kA_59 (fun s5 => ?_)
  refine MF.aload_n C e_X0_begin_31 0 rfl rfl ?_
  refine MF.getR (j := 60) C cf_X0 l_X0_36 e_X0_begin_32 kF_52_6 ?_
  refine MF.iload_n C e_X0_begin_35 1 rfl rfl ?_
  refine MF.iconst (v := (nI 0)) C e_X0_begin_36 rfl ?_
  refine MF.iast C e_X0_begin_37 kA_60 (fun s6 => ?_)
  exact MF.vret C e_X0_begin_38
theorem e_X7_holds_0 : Dc cX7_holds 0 (.iload_n 0) 1 1 := ⟨by decide +kernel, rfl⟩
theorem e_X7_holds_1 : Dc cX7_holds 1 (.iload_n 1) 1 2 := ⟨by decide +kernel, rfl⟩
theorem e_X7_holds_2 : Dc cX7_holds 2 (.ishr) 1 3 := ⟨by decide +kernel, rfl⟩
theorem e_X7_holds_3 : Dc cX7_holds 3 (.iconst 1) 1 4 := ⟨by decide +kernel, rfl⟩
theorem e_X7_holds_4 : Dc cX7_holds 4 (.iand) 1 5 := ⟨by decide +kernel, rfl⟩
theorem e_X7_holds_5 : Dc cX7_holds 5 (.ifCond .eq 7) 3 8 := ⟨by decide +kernel, rfl⟩
theorem e_X7_holds_8 : Dc cX7_holds 8 (.iconst 1) 1 9 := ⟨by decide +kernel, rfl⟩
theorem e_X7_holds_9 : Dc cX7_holds 9 (.goto 4) 3 12 := ⟨by decide +kernel, rfl⟩
theorem e_X7_holds_12 : Dc cX7_holds 12 (.iconst 0) 1 13 := ⟨by decide +kernel, rfl⟩
theorem e_X7_holds_13 : Dc cX7_holds 13 (.ireturn) 1 14 := ⟨by decide +kernel, rfl⟩
set_option maxHeartbeats 4000000 in
set_option maxRecDepth 20000 in
theorem R_X7_holds (hD : DD E) (x0 : Int32) (x1 : Int32) (s : Sg) : ∀ v, (f_X7_holds x0 x1 s) = some v → RI l E 0 M_X7_holds [.int x0, .int x1] s v s := by
  refine ofP hD (by decide +kernel) (Nat.le_of_ble_eq_true rfl) (fun X C => ?_)
  show MF l E X (fun q : Int32 => QI E X q s) (f_X7_holds x0 x1 s) s 0 [(0, .int x0), (1, .int x1)] []
  unfold f_X7_holds
  refine MF.iload_n C e_X7_holds_0 0 rfl rfl ?_
  refine MF.iload_n C e_X7_holds_1 1 rfl rfl ?_
  refine MF.ishr C e_X7_holds_2 ?_
  refine MF.iconst (v := (nI 1)) C e_X7_holds_3 rfl ?_
  refine MF.iand C e_X7_holds_4 ?_
  refine MF.if_eq (tgt := 12) C e_X7_holds_5 (by decide) (fun _ => ?_) (fun _ => ?_)
  · refine MF.iconst (v := (nI 0)) C e_X7_holds_12 rfl ?_
    exact MF.nretp C e_X7_holds_13 rfl
  · refine MF.iconst (v := (nI 1)) C e_X7_holds_8 rfl ?_
    refine MF.goto (tgt := 13) C e_X7_holds_9 (by decide) ?_
    exact MF.nretp C e_X7_holds_13 rfl
theorem e_X0_yields_0 : Dc cX0_yields 0 (.iload_n 2) 1 1 := ⟨by decide +kernel, rfl⟩
theorem e_X0_yields_1 : Dc cX0_yields 1 (.aload_n 0) 1 2 := ⟨by decide +kernel, rfl⟩
theorem e_X0_yields_2 : Dc cX0_yields 2 (.getfield 36) 3 5 := ⟨by decide +kernel, rfl⟩
theorem e_X0_yields_5 : Dc cX0_yields 5 (.iload_n 1) 1 6 := ⟨by decide +kernel, rfl⟩
theorem e_X0_yields_6 : Dc cX0_yields 6 (.iaload) 1 7 := ⟨by decide +kernel, rfl⟩
theorem e_X0_yields_7 : Dc cX0_yields 7 (.if_icmp .ge 11) 3 10 := ⟨by decide +kernel, rfl⟩
theorem e_X0_yields_10 : Dc cX0_yields 10 (.aload_n 0) 1 11 := ⟨by decide +kernel, rfl⟩
theorem e_X0_yields_11 : Dc cX0_yields 11 (.getfield 43) 3 14 := ⟨by decide +kernel, rfl⟩
theorem e_X0_yields_14 : Dc cX0_yields 14 (.iconst 2) 1 15 := ⟨by decide +kernel, rfl⟩
theorem e_X0_yields_15 : Dc cX0_yields 15 (.if_icmp .ne 5) 3 18 := ⟨by decide +kernel, rfl⟩
theorem e_X0_yields_18 : Dc cX0_yields 18 (.iconst 1) 1 19 := ⟨by decide +kernel, rfl⟩
theorem e_X0_yields_19 : Dc cX0_yields 19 (.ireturn) 1 20 := ⟨by decide +kernel, rfl⟩
theorem e_X0_yields_20 : Dc cX0_yields 20 (.aload_n 0) 1 21 := ⟨by decide +kernel, rfl⟩
theorem e_X0_yields_21 : Dc cX0_yields 21 (.getfield 43) 3 24 := ⟨by decide +kernel, rfl⟩
theorem e_X0_yields_24 : Dc cX0_yields 24 (.ifCond .ne 21) 3 27 := ⟨by decide +kernel, rfl⟩
theorem e_X0_yields_27 : Dc cX0_yields 27 (.iload_n 3) 1 28 := ⟨by decide +kernel, rfl⟩
theorem e_X0_yields_28 : Dc cX0_yields 28 (.aload_n 0) 1 29 := ⟨by decide +kernel, rfl⟩
theorem e_X0_yields_29 : Dc cX0_yields 29 (.getfield 33) 3 32 := ⟨by decide +kernel, rfl⟩
theorem e_X0_yields_32 : Dc cX0_yields 32 (.iload_n 1) 1 33 := ⟨by decide +kernel, rfl⟩
theorem e_X0_yields_33 : Dc cX0_yields 33 (.iaload) 1 34 := ⟨by decide +kernel, rfl⟩
theorem e_X0_yields_34 : Dc cX0_yields 34 (.if_icmp .lt 7) 3 37 := ⟨by decide +kernel, rfl⟩
theorem e_X0_yields_37 : Dc cX0_yields 37 (.iconst 1) 1 38 := ⟨by decide +kernel, rfl⟩
theorem e_X0_yields_38 : Dc cX0_yields 38 (.goto 22) 3 41 := ⟨by decide +kernel, rfl⟩
theorem e_X0_yields_41 : Dc cX0_yields 41 (.iconst 0) 1 42 := ⟨by decide +kernel, rfl⟩
theorem e_X0_yields_42 : Dc cX0_yields 42 (.goto 18) 3 45 := ⟨by decide +kernel, rfl⟩
theorem e_X0_yields_45 : Dc cX0_yields 45 (.iload_n 3) 1 46 := ⟨by decide +kernel, rfl⟩
theorem e_X0_yields_46 : Dc cX0_yields 46 (.aload_n 0) 1 47 := ⟨by decide +kernel, rfl⟩
theorem e_X0_yields_47 : Dc cX0_yields 47 (.getfield 33) 3 50 := ⟨by decide +kernel, rfl⟩
theorem e_X0_yields_50 : Dc cX0_yields 50 (.iload_n 1) 1 51 := ⟨by decide +kernel, rfl⟩
theorem e_X0_yields_51 : Dc cX0_yields 51 (.iaload) 1 52 := ⟨by decide +kernel, rfl⟩
theorem e_X0_yields_52 : Dc cX0_yields 52 (.if_icmp .le 7) 3 55 := ⟨by decide +kernel, rfl⟩
theorem e_X0_yields_55 : Dc cX0_yields 55 (.iconst 1) 1 56 := ⟨by decide +kernel, rfl⟩
theorem e_X0_yields_56 : Dc cX0_yields 56 (.goto 4) 3 59 := ⟨by decide +kernel, rfl⟩
theorem e_X0_yields_59 : Dc cX0_yields 59 (.iconst 0) 1 60 := ⟨by decide +kernel, rfl⟩
theorem e_X0_yields_60 : Dc cX0_yields 60 (.ireturn) 1 61 := ⟨by decide +kernel, rfl⟩
set_option maxHeartbeats 4000000 in
set_option maxRecDepth 20000 in
theorem R_X0_yields (hD : DD E) (x1 : Int32) (x2 : Int32) (x3 : Int32) (s : Sg) : ∀ v, (f_X0_yields x1 x2 x3 s) = some v → RI l E 0 M_X0_yields [.ref (ead E 52), .int x1, .int x2, .int x3] s v s := by
  refine ofP hD (by decide +kernel) (Nat.le_of_ble_eq_true rfl) (fun X C => ?_)
  show MF l E X (fun q : Int32 => QI E X q s) (f_X0_yields x1 x2 x3 s) s 0 [(0, .ref (ead E 52)), (1, .int x1), (2, .int x2), (3, .int x3)] []
  unfold f_X0_yields
  refine MF.iload_n C e_X0_yields_0 2 rfl rfl ?_
  refine MF.aload_n C e_X0_yields_1 0 rfl rfl ?_
  refine MF.getR (j := 60) C cf_X0 l_X0_36 e_X0_yields_2 kF_52_6 ?_
  refine MF.iload_n C e_X0_yields_5 1 rfl rfl ?_
  refine MF.iald C e_X0_yields_6 kA_60 (fun v1 => ?_)
  refine MF.icmp_ge (tgt := 18) C e_X0_yields_7 (by decide) (fun _ => ?_) (fun _ => ?_)
  · refine MF.iconst (v := (nI 1)) C e_X0_yields_18 rfl ?_
    exact MF.nretp C e_X0_yields_19 rfl
  · refine MF.aload_n C e_X0_yields_10 0 rfl rfl ?_
    refine MF.get C cf_X0 l_X0_43 e_X0_yields_11 kF_52_8 ?_
    refine MF.iconst (v := (nI 2)) C e_X0_yields_14 rfl ?_
    refine MF.icmp_ne (tgt := 20) C e_X0_yields_15 (by decide) (fun _ => ?_) (fun _ => ?_)
    · refine MF.aload_n C e_X0_yields_20 0 rfl rfl ?_
      refine MF.get C cf_X0 l_X0_43 e_X0_yields_21 kF_52_8 ?_
      refine MF.if_ne (tgt := 45) C e_X0_yields_24 (by decide) (fun _ => ?_) (fun _ => ?_)
      · refine MF.iload_n C e_X0_yields_45 3 rfl rfl ?_
        refine MF.aload_n C e_X0_yields_46 0 rfl rfl ?_
        refine MF.getR (j := 59) C cf_X0 l_X0_33 e_X0_yields_47 kF_52_5 ?_
        refine MF.iload_n C e_X0_yields_50 1 rfl rfl ?_
        refine MF.iald C e_X0_yields_51 kA_59 (fun v2 => ?_)
        refine MF.icmp_le (tgt := 59) C e_X0_yields_52 (by decide) (fun _ => ?_) (fun _ => ?_)
        · refine MF.iconst (v := (nI 0)) C e_X0_yields_59 rfl ?_
          exact MF.nretp C e_X0_yields_60 rfl
        · refine MF.iconst (v := (nI 1)) C e_X0_yields_55 rfl ?_
          refine MF.goto (tgt := 60) C e_X0_yields_56 (by decide) ?_
          exact MF.nretp C e_X0_yields_60 rfl
      · refine MF.iload_n C e_X0_yields_27 3 rfl rfl ?_
        refine MF.aload_n C e_X0_yields_28 0 rfl rfl ?_
        refine MF.getR (j := 59) C cf_X0 l_X0_33 e_X0_yields_29 kF_52_5 ?_
        refine MF.iload_n C e_X0_yields_32 1 rfl rfl ?_
        refine MF.iald C e_X0_yields_33 kA_59 (fun v3 => ?_)
        refine MF.icmp_lt (tgt := 41) C e_X0_yields_34 (by decide) (fun _ => ?_) (fun _ => ?_)
        · refine MF.iconst (v := (nI 0)) C e_X0_yields_41 rfl ?_
          refine MF.goto (tgt := 60) C e_X0_yields_42 (by decide) ?_
          exact MF.nretp C e_X0_yields_60 rfl
        · refine MF.iconst (v := (nI 1)) C e_X0_yields_37 rfl ?_
          refine MF.goto (tgt := 60) C e_X0_yields_38 (by decide) ?_
          exact MF.nretp C e_X0_yields_60 rfl
    · refine MF.iconst (v := (nI 1)) C e_X0_yields_18 rfl ?_
      exact MF.nretp C e_X0_yields_19 rfl
theorem e_X0_isRenamed_0 : Dc cX0_isRenamed 0 (.aload_n 0) 1 1 := ⟨by decide +kernel, rfl⟩
theorem e_X0_isRenamed_1 : Dc cX0_isRenamed 1 (.getfield 16) 3 4 := ⟨by decide +kernel, rfl⟩
theorem e_X0_isRenamed_4 : Dc cX0_isRenamed 4 (.iload_n 2) 1 5 := ⟨by decide +kernel, rfl⟩
theorem e_X0_isRenamed_5 : Dc cX0_isRenamed 5 (.iconst 3) 1 6 := ⟨by decide +kernel, rfl⟩
theorem e_X0_isRenamed_6 : Dc cX0_isRenamed 6 (.invokevirtual 58) 3 9 := ⟨by decide +kernel, rfl⟩
theorem e_X0_isRenamed_9 : Dc cX0_isRenamed 9 (.istore_n 3) 1 10 := ⟨by decide +kernel, rfl⟩
theorem e_X0_isRenamed_10 : Dc cX0_isRenamed 10 (.aload_n 0) 1 11 := ⟨by decide +kernel, rfl⟩
theorem e_X0_isRenamed_11 : Dc cX0_isRenamed 11 (.getfield 16) 3 14 := ⟨by decide +kernel, rfl⟩
theorem e_X0_isRenamed_14 : Dc cX0_isRenamed 14 (.iload_n 2) 1 15 := ⟨by decide +kernel, rfl⟩
theorem e_X0_isRenamed_15 : Dc cX0_isRenamed 15 (.iconst 1) 1 16 := ⟨by decide +kernel, rfl⟩
theorem e_X0_isRenamed_16 : Dc cX0_isRenamed 16 (.invokevirtual 58) 3 19 := ⟨by decide +kernel, rfl⟩
theorem e_X0_isRenamed_19 : Dc cX0_isRenamed 19 (.iload_n 1) 1 20 := ⟨by decide +kernel, rfl⟩
theorem e_X0_isRenamed_20 : Dc cX0_isRenamed 20 (.invokestatic 123) 3 23 := ⟨by decide +kernel, rfl⟩
theorem e_X0_isRenamed_23 : Dc cX0_isRenamed 23 (.ifCond .eq 21) 3 26 := ⟨by decide +kernel, rfl⟩
theorem e_X0_isRenamed_26 : Dc cX0_isRenamed 26 (.aload_n 0) 1 27 := ⟨by decide +kernel, rfl⟩
theorem e_X0_isRenamed_27 : Dc cX0_isRenamed 27 (.iload_n 1) 1 28 := ⟨by decide +kernel, rfl⟩
theorem e_X0_isRenamed_28 : Dc cX0_isRenamed 28 (.aload_n 0) 1 29 := ⟨by decide +kernel, rfl⟩
theorem e_X0_isRenamed_29 : Dc cX0_isRenamed 29 (.getfield 16) 3 32 := ⟨by decide +kernel, rfl⟩
theorem e_X0_isRenamed_32 : Dc cX0_isRenamed 32 (.iload_n 2) 1 33 := ⟨by decide +kernel, rfl⟩
theorem e_X0_isRenamed_33 : Dc cX0_isRenamed 33 (.iconst 0) 1 34 := ⟨by decide +kernel, rfl⟩
theorem e_X0_isRenamed_34 : Dc cX0_isRenamed 34 (.invokevirtual 58) 3 37 := ⟨by decide +kernel, rfl⟩
theorem e_X0_isRenamed_37 : Dc cX0_isRenamed 37 (.iload_n 3) 1 38 := ⟨by decide +kernel, rfl⟩
theorem e_X0_isRenamed_38 : Dc cX0_isRenamed 38 (.invokevirtual 126) 3 41 := ⟨by decide +kernel, rfl⟩
theorem e_X0_isRenamed_41 : Dc cX0_isRenamed 41 (.ifCond .ne 5) 3 44 := ⟨by decide +kernel, rfl⟩
theorem e_X0_isRenamed_44 : Dc cX0_isRenamed 44 (.iconst 0) 1 45 := ⟨by decide +kernel, rfl⟩
theorem e_X0_isRenamed_45 : Dc cX0_isRenamed 45 (.ireturn) 1 46 := ⟨by decide +kernel, rfl⟩
theorem e_X0_isRenamed_46 : Dc cX0_isRenamed 46 (.aload_n 0) 1 47 := ⟨by decide +kernel, rfl⟩
theorem e_X0_isRenamed_47 : Dc cX0_isRenamed 47 (.getfield 27) 3 50 := ⟨by decide +kernel, rfl⟩
theorem e_X0_isRenamed_50 : Dc cX0_isRenamed 50 (.iload_n 1) 1 51 := ⟨by decide +kernel, rfl⟩
theorem e_X0_isRenamed_51 : Dc cX0_isRenamed 51 (.aload_n 0) 1 52 := ⟨by decide +kernel, rfl⟩
theorem e_X0_isRenamed_52 : Dc cX0_isRenamed 52 (.getfield 16) 3 55 := ⟨by decide +kernel, rfl⟩
theorem e_X0_isRenamed_55 : Dc cX0_isRenamed 55 (.iload_n 2) 1 56 := ⟨by decide +kernel, rfl⟩
theorem e_X0_isRenamed_56 : Dc cX0_isRenamed 56 (.iconst 2) 1 57 := ⟨by decide +kernel, rfl⟩
theorem e_X0_isRenamed_57 : Dc cX0_isRenamed 57 (.invokevirtual 58) 3 60 := ⟨by decide +kernel, rfl⟩
theorem e_X0_isRenamed_60 : Dc cX0_isRenamed 60 (.iastore) 1 61 := ⟨by decide +kernel, rfl⟩
theorem e_X0_isRenamed_61 : Dc cX0_isRenamed 61 (.aload_n 0) 1 62 := ⟨by decide +kernel, rfl⟩
theorem e_X0_isRenamed_62 : Dc cX0_isRenamed 62 (.getfield 33) 3 65 := ⟨by decide +kernel, rfl⟩
theorem e_X0_isRenamed_65 : Dc cX0_isRenamed 65 (.iload_n 1) 1 66 := ⟨by decide +kernel, rfl⟩
theorem e_X0_isRenamed_66 : Dc cX0_isRenamed 66 (.iload_n 3) 1 67 := ⟨by decide +kernel, rfl⟩
theorem e_X0_isRenamed_67 : Dc cX0_isRenamed 67 (.iastore) 1 68 := ⟨by decide +kernel, rfl⟩
theorem e_X0_isRenamed_68 : Dc cX0_isRenamed 68 (.aload_n 0) 1 69 := ⟨by decide +kernel, rfl⟩
theorem e_X0_isRenamed_69 : Dc cX0_isRenamed 69 (.getfield 36) 3 72 := ⟨by decide +kernel, rfl⟩
theorem e_X0_isRenamed_72 : Dc cX0_isRenamed 72 (.iload_n 1) 1 73 := ⟨by decide +kernel, rfl⟩
theorem e_X0_isRenamed_73 : Dc cX0_isRenamed 73 (.aload_n 0) 1 74 := ⟨by decide +kernel, rfl⟩
theorem e_X0_isRenamed_74 : Dc cX0_isRenamed 74 (.getfield 16) 3 77 := ⟨by decide +kernel, rfl⟩
theorem e_X0_isRenamed_77 : Dc cX0_isRenamed 77 (.iload_n 2) 1 78 := ⟨by decide +kernel, rfl⟩
theorem e_X0_isRenamed_78 : Dc cX0_isRenamed 78 (.iconst 4) 1 79 := ⟨by decide +kernel, rfl⟩
theorem e_X0_isRenamed_79 : Dc cX0_isRenamed 79 (.invokevirtual 58) 3 82 := ⟨by decide +kernel, rfl⟩
theorem e_X0_isRenamed_82 : Dc cX0_isRenamed 82 (.iastore) 1 83 := ⟨by decide +kernel, rfl⟩
theorem e_X0_isRenamed_83 : Dc cX0_isRenamed 83 (.iconst 1) 1 84 := ⟨by decide +kernel, rfl⟩
theorem e_X0_isRenamed_84 : Dc cX0_isRenamed 84 (.ireturn) 1 85 := ⟨by decide +kernel, rfl⟩
set_option maxHeartbeats 4000000 in
set_option maxRecDepth 20000 in
theorem R_X0_isRenamed (hD : DD E) (x1 : Int32) (x2 : Int32) (s : Sg) : ∀ v τ, (f_X0_isRenamed x1 x2 s) = some (v, τ) → RI l E 1 M_X0_isRenamed [.ref (ead E 52), .int x1, .int x2] s v τ := by
  refine ofI hD (by decide +kernel) (Nat.le_of_ble_eq_true rfl) (fun X C => ?_)
  show MF l E X (fun q : Int32 × Sg => QI E X q.1 q.2) (f_X0_isRenamed x1 x2 s) s 0 [(0, .ref (ead E 52)), (1, .int x1), (2, .int x2)] []
  unfold f_X0_isRenamed
  refine MF.aload_n C e_X0_isRenamed_0 0 rfl rfl ?_
  refine MF.getR (j := 53) C cf_X0 l_X0_16 e_X0_isRenamed_1 kF_52_0 ?_
  refine MF.iload_n C e_X0_isRenamed_4 2 rfl rfl ?_
  refine MF.iconst (v := (nI 3)) C e_X0_isRenamed_5 rfl ?_
  refine MF.callVP (As := [.int x2, .int (nI 3)]) C (R_X2_cell hD 53 x2 (nI 3) kR_53 s) m_X2_cell k_X0_58 (iRo.o kR_53) rfl (by decide) e_X0_isRenamed_6 rfl rfl (Nat.le_of_ble_eq_true rfl) (fun v1 => ?_)
  refine MF.istore_n (lv' := [(0, .ref (ead E 52)), (1, .int x1), (2, .int x2), (3, .int v1)]) C e_X0_isRenamed_9 (by decide) rfl ?_
  refine MF.aload_n C e_X0_isRenamed_10 0 rfl rfl ?_
  refine MF.getR (j := 53) C cf_X0 l_X0_16 e_X0_isRenamed_11 kF_52_0 ?_
  refine MF.iload_n C e_X0_isRenamed_14 2 rfl rfl ?_
  refine MF.iconst (v := (nI 1)) C e_X0_isRenamed_15 rfl ?_
  refine MF.callVP (As := [.int x2, .int (nI 1)]) C (R_X2_cell hD 53 x2 (nI 1) kR_53 s) m_X2_cell k_X0_58 (iRo.o kR_53) rfl (by decide) e_X0_isRenamed_16 rfl rfl (Nat.le_of_ble_eq_true rfl) (fun v2 => ?_)
  refine MF.iload_n C e_X0_isRenamed_19 1 rfl rfl ?_
  refine MF.callSNP (As := [.int v2, .int x1]) C (R_X7_holds hD v2 x1 s) m_X7_holds k_X0_123 (by decide) e_X0_isRenamed_20 rfl rfl (Nat.le_of_ble_eq_true rfl) (fun v3 => ?_)
  refine MF.if_eq (tgt := 44) C e_X0_isRenamed_23 (by decide) (fun _ => ?_) (fun _ => ?_)
  · refine MF.iconst (v := (nI 0)) C e_X0_isRenamed_44 rfl ?_
    exact MF.nret C e_X0_isRenamed_45 rfl
  · refine MF.aload_n C e_X0_isRenamed_26 0 rfl rfl ?_
    refine MF.iload_n C e_X0_isRenamed_27 1 rfl rfl ?_
    refine MF.aload_n C e_X0_isRenamed_28 0 rfl rfl ?_
    refine MF.getR (j := 53) C cf_X0 l_X0_16 e_X0_isRenamed_29 kF_52_0 ?_
    refine MF.iload_n C e_X0_isRenamed_32 2 rfl rfl ?_
    refine MF.iconst (v := (nI 0)) C e_X0_isRenamed_33 rfl ?_
    refine MF.callVP (As := [.int x2, .int (nI 0)]) C (R_X2_cell hD 53 x2 (nI 0) kR_53 s) m_X2_cell k_X0_58 (iRo.o kR_53) rfl (by decide) e_X0_isRenamed_34 rfl rfl (Nat.le_of_ble_eq_true rfl) (fun v4 => ?_)
    refine MF.iload_n C e_X0_isRenamed_37 3 rfl rfl ?_
    refine MF.callVP (As := [.int x1, .int v4, .int v1]) C (R_X0_yields hD x1 v4 v1 s) m_X0_yields k_X0_126 kO_52 rfl (by decide) e_X0_isRenamed_38 rfl rfl (Nat.le_of_ble_eq_true rfl) (fun v5 => ?_)
    refine MF.if_ne (tgt := 46) C e_X0_isRenamed_41 (by decide) (fun _ => ?_) (fun _ => ?_)
    · refine MF.aload_n C e_X0_isRenamed_46 0 rfl rfl ?_
      refine MF.getR (j := 57) C cf_X0 l_X0_27 e_X0_isRenamed_47 kF_52_3 ?_
      refine MF.iload_n C e_X0_isRenamed_50 1 rfl rfl ?_
      refine MF.aload_n C e_X0_isRenamed_51 0 rfl rfl ?_
      refine MF.getR (j := 53) C cf_X0 l_X0_16 e_X0_isRenamed_52 kF_52_0 ?_
      refine MF.iload_n C e_X0_isRenamed_55 2 rfl rfl ?_
      refine MF.iconst (v := (nI 2)) C e_X0_isRenamed_56 rfl ?_
      refine MF.callVP (As := [.int x2, .int (nI 2)]) C (R_X2_cell hD 53 x2 (nI 2) kR_53 s) m_X2_cell k_X0_58 (iRo.o kR_53) rfl (by decide) e_X0_isRenamed_57 rfl rfl (Nat.le_of_ble_eq_true rfl) (fun v6 => ?_)
      refine MF.iast C e_X0_isRenamed_60 kA_57 (fun s7 => ?_)
      refine MF.aload_n C e_X0_isRenamed_61 0 rfl rfl ?_
      refine MF.getR (j := 59) C cf_X0 l_X0_33 e_X0_isRenamed_62 kF_52_5 ?_
      refine MF.iload_n C e_X0_isRenamed_65 1 rfl rfl ?_
      refine MF.iload_n C e_X0_isRenamed_66 3 rfl rfl ?_
      refine MF.iast C e_X0_isRenamed_67 kA_59 (fun s8 => ?_)
      refine MF.aload_n C e_X0_isRenamed_68 0 rfl rfl ?_
      refine MF.getR (j := 60) C cf_X0 l_X0_36 e_X0_isRenamed_69 kF_52_6 ?_
      refine MF.iload_n C e_X0_isRenamed_72 1 rfl rfl ?_
      refine MF.aload_n C e_X0_isRenamed_73 0 rfl rfl ?_
      refine MF.getR (j := 53) C cf_X0 l_X0_16 e_X0_isRenamed_74 kF_52_0 ?_
      refine MF.iload_n C e_X0_isRenamed_77 2 rfl rfl ?_
      refine MF.iconst (v := (nI 4)) C e_X0_isRenamed_78 rfl ?_
      refine MF.callVP (As := [.int x2, .int (nI 4)]) C (R_X2_cell hD 53 x2 (nI 4) kR_53 s8) m_X2_cell k_X0_58 (iRo.o kR_53) rfl (by decide) e_X0_isRenamed_79 rfl rfl (Nat.le_of_ble_eq_true rfl) (fun v9 => ?_)
      refine MF.iast C e_X0_isRenamed_82 kA_60 (fun s10 => ?_)
      refine MF.iconst (v := (nI 1)) C e_X0_isRenamed_83 rfl ?_
      exact MF.nret C e_X0_isRenamed_84 rfl
    · refine MF.iconst (v := (nI 0)) C e_X0_isRenamed_44 rfl ?_
      exact MF.nret C e_X0_isRenamed_45 rfl
theorem e_X0_live_0 : Dc cX0_live 0 (.iconst 0) 1 1 := ⟨by decide +kernel, rfl⟩
theorem e_X0_live_1 : Dc cX0_live 1 (.istore 4) 2 3 := ⟨by decide +kernel, rfl⟩
theorem e_X0_live_3 : Dc cX0_live 3 (.aload_n 0) 1 4 := ⟨by decide +kernel, rfl⟩
theorem e_X0_live_4 : Dc cX0_live 4 (.getfield 46) 3 7 := ⟨by decide +kernel, rfl⟩
theorem e_X0_live_7 : Dc cX0_live 7 (.aload_n 0) 1 8 := ⟨by decide +kernel, rfl⟩
theorem e_X0_live_8 : Dc cX0_live 8 (.getfield 16) 3 11 := ⟨by decide +kernel, rfl⟩
theorem e_X0_live_11 : Dc cX0_live 11 (.invokevirtual 54) 3 14 := ⟨by decide +kernel, rfl⟩
theorem e_X0_live_14 : Dc cX0_live 14 (.if_icmp .ge 64) 3 17 := ⟨by decide +kernel, rfl⟩
theorem e_X0_live_17 : Dc cX0_live 17 (.aload_n 0) 1 18 := ⟨by decide +kernel, rfl⟩
theorem e_X0_live_18 : Dc cX0_live 18 (.getfield 16) 3 21 := ⟨by decide +kernel, rfl⟩
theorem e_X0_live_21 : Dc cX0_live 21 (.aload_n 0) 1 22 := ⟨by decide +kernel, rfl⟩
theorem e_X0_live_22 : Dc cX0_live 22 (.getfield 46) 3 25 := ⟨by decide +kernel, rfl⟩
theorem e_X0_live_25 : Dc cX0_live 25 (.iconst 0) 1 26 := ⟨by decide +kernel, rfl⟩
theorem e_X0_live_26 : Dc cX0_live 26 (.invokevirtual 58) 3 29 := ⟨by decide +kernel, rfl⟩
theorem e_X0_live_29 : Dc cX0_live 29 (.iload_n 2) 1 30 := ⟨by decide +kernel, rfl⟩
theorem e_X0_live_30 : Dc cX0_live 30 (.if_icmp .gt 48) 3 33 := ⟨by decide +kernel, rfl⟩
theorem e_X0_live_33 : Dc cX0_live 33 (.aload_n 0) 1 34 := ⟨by decide +kernel, rfl⟩
theorem e_X0_live_34 : Dc cX0_live 34 (.getfield 16) 3 37 := ⟨by decide +kernel, rfl⟩
theorem e_X0_live_37 : Dc cX0_live 37 (.aload_n 0) 1 38 := ⟨by decide +kernel, rfl⟩
theorem e_X0_live_38 : Dc cX0_live 38 (.getfield 46) 3 41 := ⟨by decide +kernel, rfl⟩
theorem e_X0_live_41 : Dc cX0_live 41 (.iconst 5) 1 42 := ⟨by decide +kernel, rfl⟩
theorem e_X0_live_42 : Dc cX0_live 42 (.invokevirtual 58) 3 45 := ⟨by decide +kernel, rfl⟩
theorem e_X0_live_45 : Dc cX0_live 45 (.iload_n 3) 1 46 := ⟨by decide +kernel, rfl⟩
theorem e_X0_live_46 : Dc cX0_live 46 (.iand) 1 47 := ⟨by decide +kernel, rfl⟩
theorem e_X0_live_47 : Dc cX0_live 47 (.ifCond .eq 18) 3 50 := ⟨by decide +kernel, rfl⟩
theorem e_X0_live_50 : Dc cX0_live 50 (.aload_n 0) 1 51 := ⟨by decide +kernel, rfl⟩
theorem e_X0_live_51 : Dc cX0_live 51 (.iload_n 1) 1 52 := ⟨by decide +kernel, rfl⟩
theorem e_X0_live_52 : Dc cX0_live 52 (.aload_n 0) 1 53 := ⟨by decide +kernel, rfl⟩
theorem e_X0_live_53 : Dc cX0_live 53 (.getfield 46) 3 56 := ⟨by decide +kernel, rfl⟩
theorem e_X0_live_56 : Dc cX0_live 56 (.invokevirtual 117) 3 59 := ⟨by decide +kernel, rfl⟩
theorem e_X0_live_59 : Dc cX0_live 59 (.ifCond .eq 6) 3 62 := ⟨by decide +kernel, rfl⟩
theorem e_X0_live_62 : Dc cX0_live 62 (.iinc 4 1) 3 65 := ⟨by decide +kernel, rfl⟩
theorem e_X0_live_65 : Dc cX0_live 65 (.aload_n 0) 1 66 := ⟨by decide +kernel, rfl⟩
theorem e_X0_live_66 : Dc cX0_live 66 (.dup) 1 67 := ⟨by decide +kernel, rfl⟩
theorem e_X0_live_67 : Dc cX0_live 67 (.getfield 46) 3 70 := ⟨by decide +kernel, rfl⟩
theorem e_X0_live_70 : Dc cX0_live 70 (.iconst 1) 1 71 := ⟨by decide +kernel, rfl⟩
theorem e_X0_live_71 : Dc cX0_live 71 (.iadd) 1 72 := ⟨by decide +kernel, rfl⟩
theorem e_X0_live_72 : Dc cX0_live 72 (.putfield 46) 3 75 := ⟨by decide +kernel, rfl⟩
theorem e_X0_live_75 : Dc cX0_live 75 (.goto (-72)) 3 78 := ⟨by decide +kernel, rfl⟩
theorem e_X0_live_78 : Dc cX0_live 78 (.iload 4) 2 80 := ⟨by decide +kernel, rfl⟩
theorem e_X0_live_80 : Dc cX0_live 80 (.ireturn) 1 81 := ⟨by decide +kernel, rfl⟩
set_option maxHeartbeats 4000000 in
set_option maxRecDepth 20000 in
theorem R_X0_live (hD : DD E) (x1 : Int32) (x2 : Int32) (x3 : Int32) (s : Sg) : ∀ v τ, (f_X0_live x1 x2 x3 s) = some (v, τ) → RI l E 2 M_X0_live [.ref (ead E 52), .int x1, .int x2, .int x3] s v τ := by
  refine ofI hD (by decide +kernel) (Nat.le_of_ble_eq_true rfl) (fun X C => ?_)
  show MF l E X (fun q : Int32 × Sg => QI E X q.1 q.2) (f_X0_live x1 x2 x3 s) s 0 [(0, .ref (ead E 52)), (1, .int x1), (2, .int x2), (3, .int x3)] []
  unfold f_X0_live
  refine MF.iconst (v := (nI 0)) C e_X0_live_0 rfl ?_
  refine MF.istore (lv' := [(0, .ref (ead E 52)), (1, .int x1), (2, .int x2), (3, .int x3), (4, .int (nI 0))]) C e_X0_live_1 (by decide) rfl ?_
  refine MF.loop2 (fun i1 s2 => s2) (fun i1 s2 => [(0, .ref (ead E 52)), (1, .int x1), (2, .int x2), (3, .int x3), (4, .int i1)]) (fun self3 hself3 i1 s2 => ?_) fu (nI 0) s
  unfold b_X0_live_3
  refine MF.aload_n C e_X0_live_3 0 rfl rfl ?_
  refine MF.get C cf_X0 l_X0_46 e_X0_live_4 kF_52_9 ?_
  refine MF.aload_n C e_X0_live_7 0 rfl rfl ?_
  refine MF.getR (j := 53) C cf_X0 l_X0_16 e_X0_live_8 kF_52_0 ?_
  refine MF.callVP (As := []) C (R_X2_size hD 53 kR_53 s2) m_X2_size k_X0_54 (iRo.o kR_53) rfl (by decide) e_X0_live_11 rfl rfl (Nat.le_of_ble_eq_true rfl) (fun v4 => ?_)
  refine MF.icmp_ge (tgt := 78) C e_X0_live_14 (by decide) (fun _ => ?_) (fun _ => ?_)
  · refine MF.iload C e_X0_live_78 4 rfl ?_
    exact MF.iret C e_X0_live_80
  · refine MF.aload_n C e_X0_live_17 0 rfl rfl ?_
    refine MF.getR (j := 53) C cf_X0 l_X0_16 e_X0_live_18 kF_52_0 ?_
    refine MF.aload_n C e_X0_live_21 0 rfl rfl ?_
    refine MF.get C cf_X0 l_X0_46 e_X0_live_22 kF_52_9 ?_
    refine MF.iconst (v := (nI 0)) C e_X0_live_25 rfl ?_
    refine MF.callVP (As := [.int (s2 52 9), .int (nI 0)]) C (R_X2_cell hD 53 (s2 52 9) (nI 0) kR_53 s2) m_X2_cell k_X0_58 (iRo.o kR_53) rfl (by decide) e_X0_live_26 rfl rfl (Nat.le_of_ble_eq_true rfl) (fun v5 => ?_)
    refine MF.iload_n C e_X0_live_29 2 rfl rfl ?_
    refine MF.icmp_gt (tgt := 78) C e_X0_live_30 (by decide) (fun _ => ?_) (fun _ => ?_)
    · refine MF.iload C e_X0_live_78 4 rfl ?_
      exact MF.iret C e_X0_live_80
    · refine MF.aload_n C e_X0_live_33 0 rfl rfl ?_
      refine MF.getR (j := 53) C cf_X0 l_X0_16 e_X0_live_34 kF_52_0 ?_
      refine MF.aload_n C e_X0_live_37 0 rfl rfl ?_
      refine MF.get C cf_X0 l_X0_46 e_X0_live_38 kF_52_9 ?_
      refine MF.iconst (v := (nI 5)) C e_X0_live_41 rfl ?_
      refine MF.callVP (As := [.int (s2 52 9), .int (nI 5)]) C (R_X2_cell hD 53 (s2 52 9) (nI 5) kR_53 s2) m_X2_cell k_X0_58 (iRo.o kR_53) rfl (by decide) e_X0_live_42 rfl rfl (Nat.le_of_ble_eq_true rfl) (fun v6 => ?_)
      refine MF.iload_n C e_X0_live_45 3 rfl rfl ?_
      refine MF.iand C e_X0_live_46 ?_
      refine MF.join (fun j : Int32 → Sg → Option (Int32 × Sg) => ∀ (a7 : Int32) (s8 : Sg), MF l E X (fun q : Int32 × Sg => QI E X q.1 q.2) (j a7 s8) s8 65 [(0, .ref (ead E 52)), (1, .int x1), (2, .int x2), (3, .int x3), (4, .int a7)] []) ?_ (fun j9 hj9 => ?_)
      · intro a7 s8
        refine MF.aload_n C e_X0_live_65 0 rfl rfl ?_
        refine MF.dup C e_X0_live_66 rfl ?_
        refine MF.get C cf_X0 l_X0_46 e_X0_live_67 kF_52_9 ?_
        refine MF.iconst (v := (nI 1)) C e_X0_live_70 rfl ?_
        refine MF.iadd C e_X0_live_71 ?_
        refine MF.put C cf_X0 l_X0_46 p_X0_9 e_X0_live_72 kF_52_9 rfl ?_
        refine MF.nmS (fun s10 => ?_)
        refine MF.goto (tgt := 3) C e_X0_live_75 (by decide) ?_
        exact hself3 a7 s10
      refine MF.if_eq (tgt := 65) C e_X0_live_47 (by decide) (fun _ => ?_) (fun _ => ?_)
      · exact hj9 i1 s2
      · refine MF.aload_n C e_X0_live_50 0 rfl rfl ?_
        refine MF.iload_n C e_X0_live_51 1 rfl rfl ?_
        refine MF.aload_n C e_X0_live_52 0 rfl rfl ?_
        refine MF.get C cf_X0 l_X0_46 e_X0_live_53 kF_52_9 ?_
        refine MF.callVI (As := [.int x1, .int (s2 52 9)]) C (R_X0_isRenamed hD x1 (s2 52 9) s2) m_X0_isRenamed k_X0_117 kO_52 rfl (by decide) e_X0_live_56 rfl rfl (Nat.le_of_ble_eq_true rfl) (fun v11 s12 => ?_)
        refine MF.if_eq (tgt := 65) C e_X0_live_59 (by decide) (fun _ => ?_) (fun _ => ?_)
        · exact hj9 i1 s12
        · refine MF.iinc (v := (nI 1)) (lv' := [(0, .ref (ead E 52)), (1, .int x1), (2, .int x2), (3, .int x3), (4, .int (i1 + (nI 1)))]) C e_X0_live_62 4 rfl rfl (by decide) rfl ?_
          exact hj9 (i1 + (nI 1)) s12
end WK
