/-! drawn -/
def nxS (v : Int64) : Int64 := ((v * (1103515245 : Int64)) + (12345 : Int64)) - ((v * (1103515245 : Int64)) + (12345 : Int64)) / (2147483648 : Int64) * (2147483648 : Int64)
def pcS (v : Int64) : Int64 := (v / (65536 : Int64)) - (v / (65536 : Int64)) / (100 : Int64) * (100 : Int64)
section DRAWN
variable {s : Sg} {N : Nat → Int32} {t ns ne nr np : Nat}
def drN (x3 : Int32) (v : Int64) (c : Nat) : Int64 × Int32 := forN (fun k (q : Int64 × Int32) => (nxS q.1, if 0 ≤ lg_cmp (pcS (nxS q.1)) (Int32.toInt64 x3) then q.2 else q.2 ||| sh1 k)) c (v, nI 0)
theorem drN_s (x3 : Int32) (v : Int64) (c : Nat) : drN x3 v (c + 1) = (nxS (drN x3 v c).1, if 0 ≤ lg_cmp (pcS (nxS (drN x3 v c).1)) (Int32.toInt64 x3) then (drN x3 v c).2 else (drN x3 v c).2 ||| sh1 c) := rfl
noncomputable def daS (N : Nat → Int32) (ns ne : Nat) (x a : Int32) (n : Nat) : Int32 := forN (fun i b => b + nI (CT N (evS N ns x ne) i)) n a
theorem daS_s (x a : Int32) (n : Nat) : daS N ns ne x a (n + 1) = daS N ns ne x a n + nI (CT N (evS N ns x ne) n) := rfl
noncomputable def drA (N : Nat → Int32) (ns ne : Nat) (x3 : Int32) (v : Int64) (d : Nat) : Int64 × Int32 := forN (fun _ (q : Int64 × Int32) => ((drN x3 q.1 ne).1, daS N ns ne (drN x3 q.1 ne).2 q.2 ns)) d (v, nI 0)
theorem drA_s (x3 : Int32) (v : Int64) (d : Nat) : drA N ns ne x3 v (d + 1) = ((drN x3 (drA N ns ne x3 v d).1 ne).1, daS N ns ne (drN x3 (drA N ns ne x3 v d).1 ne).2 (drA N ns ne x3 v d).2 ns) := rfl
theorem C_draw (hh : s 4 2 = nI ne) (hne : ne ≤ 8) (x3 : Int32) (v : Int64) (j : Int64 → Int32 → Option (Int32 × Sg)) : lp3_ (b_X3_renamingsOfDays_22 1 s j x3) fu v (nI 0) (nI 0) = j (drN x3 v ne).1 (drN x3 v ne).2 := by
  refine lp3_bx (fun o => o = j (drN x3 v ne).1 (drN x3 v ne).2) (fun k u w => u = (drN x3 v k).1 ∧ w = (drN x3 v k).2) 0 ne (by omega) ?_ ?_ (by omega) _ _ ⟨rfl, rfl⟩
  · rintro self k u w - h6 ⟨rfl, rfl⟩
    right
    refine ⟨_, _, ?_, rfl, rfl⟩
    unfold b_X3_renamingsOfDays_22
    rw [S_size, ob_s, show s (1 + 3) 2 = nI ne from hh, ifle _ _ (by omega) (by omega), if_neg (by omega), nm_eq, nm_eq, drN_s]
    change (if 0 ≤ lg_cmp (pcS (nxS (drN x3 v k).1)) (Int32.toInt64 x3) then _ else _) = _
    split
    · dsimp only
      rw [nadd]
      rfl
    · rw [nm_eq]
      dsimp only
      rw [nadd]
      rfl
  · rintro self u w ⟨rfl, rfl⟩
    unfold b_X3_renamingsOfDays_22
    rw [S_size, ob_s, show s (1 + 3) 2 = nI ne from hh, ifle _ _ (by omega) (by omega), if_pos (by omega)]
theorem R_draw (h : s 71 = N) (hV : VN N ns ne nr np) (x3 : Int32) (v : Int64) (j : Int64 → Int32 → Option (Int32 × Sg)) : lp3_ (b_X8_drawn_70 s j x3) fu v (nI 0) (nI 0) = j (drN x3 v ne).1 (drN x3 v ne).2 := by
  have hne := hV.2.1.2.1
  refine lp3_bx (fun o => o = j (drN x3 v ne).1 (drN x3 v ne).2) (fun k u w => u = (drN x3 v k).1 ∧ w = (drN x3 v k).2) 0 ne (by omega) ?_ ?_ (by omega) _ _ ⟨rfl, rfl⟩
  · rintro self k u w - h6 ⟨rfl, rfl⟩
    right
    refine ⟨_, _, ?_, rfl, rfl⟩
    unfold b_X8_drawn_70
    rw [S8_events h hV, ob_s, ifle _ _ (by omega) (by omega), if_neg (by omega), nm_eq, nm_eq, drN_s]
    change (if 0 ≤ lg_cmp (pcS (nxS (drN x3 v k).1)) (Int32.toInt64 x3) then _ else _) = _
    split
    · dsimp only
      rw [nm_eq, nadd, or0]
      rfl
    · dsimp only
      rw [nm_eq, nadd]
      rfl
  · rintro self u w ⟨rfl, rfl⟩
    unfold b_X8_drawn_70
    rw [S8_events h hV, ob_s, ifle _ _ (by omega) (by omega), if_pos (by omega)]
theorem C_days (hP : PL s (bkT (evL N ns ne) 24) N ns) (hns : ns ≤ 7) (hne : ne ≤ 8) (hw : s 53 0 = nI 6) (hx : NX s) (x a : Int32) (j : Int32 → Sg → Option (Int32 × Sg)) : ∃ s2, lp3_ (b_X3_renamingsOfDays_85 j x) fu a (nI 0) s = j (daS N ns ne x a ns) s2 ∧ SC s s2 ∧ PL s2 (bkT (evL N ns ne) 24) N ns := by
  refine lp3_ax (fun o => ∃ s2, o = j (daS N ns ne x a ns) s2 ∧ SC s s2 ∧ PL s2 (bkT (evL N ns ne) 24) N ns) (fun i u st => u = daS N ns ne x a i ∧ SC s st ∧ PL st (bkT (evL N ns ne) 24) N ns) 0 ns (by omega) ?_ ?_ (by omega) _ _ ⟨rfl, ⟨fun _ _ => rfl, hw, hx⟩, hP⟩
  · rintro self i u st - h6 ⟨rfl, h7, h8⟩
    right
    obtain ⟨s4, f1, f2, f3⟩ := S_count h8 hns h6 x
    rw [flt_ev _ _ _ _ hne] at f1
    refine ⟨_, s4, ?_, rfl, h7.tr (f2.sc f3 h7.2.1), f2.pl h8⟩
    unfold b_X3_renamingsOfDays_85 f_X0_streets
    rw [ob_s, h8.2.1, ifle _ _ (by omega) (by omega), if_neg (by omega), f1, ob2_some, nm_eq, nadd, daS_s]
  · rintro self u st ⟨rfl, h7, h8⟩
    unfold b_X3_renamingsOfDays_85 f_X0_streets
    rw [ob_s, h8.2.1, ifle _ _ (by omega) (by omega), if_pos (by omega)]
    exact ⟨st, rfl, h7, h8⟩
theorem R_days (h : s 71 = N) (hV : VN N ns ne nr np) (x a : Int32) (hC : ∀ i, i < ns → s 81 i = nI (CT N (evS N ns x ne) i)) (j : Int32 → Option (Int32 × Sg)) : lp2_ (b_X8_drawn_139 s j) fu a (nI 0) = j (daS N ns ne x a ns) := by
  have hns := hV.2.1.1
  refine lp2_ax (fun o => o = j (daS N ns ne x a ns)) (fun i u => u = daS N ns ne x a i) 0 ns (by omega) ?_ ?_ (by omega) _ rfl
  · rintro self i u - h6 rfl
    right
    refine ⟨_, ?_, rfl⟩
    unfold b_X8_drawn_139
    rw [S8_streets h hV, ob_s, ifle _ _ (by omega) (by omega), if_neg (by omega), ag _ 81 (show i < 7 by omega) (by omega), ob_s, hC i h6, nm_eq, nadd, daS_s]
  · rintro self u rfl
    unfold b_X8_drawn_139
    rw [S8_streets h hV, ob_s, ifle _ _ (by omega) (by omega), if_pos (by omega)]
end DRAWN
theorem OK_drawn {s : Sg} (h : REL s) (x y z : Int32) : OKop (f_X7_drawn x y z s) (f_X8_drawn x y z) := by
  obtain ⟨⟨ns, ne, nr, np, hT⟩, _, _, _, ⟨hw, _⟩, hx⟩ := id h
  have hV := hT.1
  have hns := hV.2.1.1
  have hne := hV.2.1.2.1
  have hA : ∀ s : Sg, f_X8_in (Int32.toInt64 x) (0 : Int64) (999999 : Int64) s = some (bi (0 ≤ x ∧ x < nI 1000000)) := fun s => S8_inB x (by decide) _ (by decide) s
  have hB : ∀ s : Sg, f_X8_in (Int32.toInt64 y) (0 : Int64) (30 : Int64) s = some (bi (0 ≤ y ∧ y < nI 31)) := fun s => S8_inB y (by decide) _ (by decide) s
  have hC : ∀ s : Sg, f_X8_in (Int32.toInt64 z) (0 : Int64) (100 : Int64) s = some (bi (0 ≤ z ∧ z < nI 101)) := fun s => S8_inB z (by decide) _ (by decide) s
  unfold f_X7_drawn f_X8_drawn
  rw [S_isBelow, ob_s]
  by_cases h0 : 0 ≤ x ∧ x < nI 1000000
  · rw [if_bi' _ _ h0, S_isBelow, ob_s]
    by_cases h1 : 0 ≤ y ∧ y < nI 31
    · rw [if_bi' _ _ h1, S_isBelow, ob_s]
      by_cases h2 : 0 ≤ z ∧ z < nI 101
      · rw [if_bi' _ _ h2]
        obtain ⟨d, hd, rfl⟩ := rngB (by decide) h1
        refine OK_ro h (drA (s 71) ns ne z (Int32.toInt64 x) d).2 ?_ ?_
        · obtain ⟨s2, e1, e2, e3⟩ := S_plan2 hT T1 hw hx
          rw [e1, ob_s]
          have : ∃ s3, f_X3_renamingsOfDays x (nI d) z 1 s2 = some ((drA (s 71) ns ne z (Int32.toInt64 x) d).2, s3) ∧ SC s s3 := by
            unfold f_X3_renamingsOfDays
            rw [nm_eq]
            refine lp4_ax (fun o => ∃ s3, o = some ((drA (s 71) ns ne z (Int32.toInt64 x) d).2, s3) ∧ SC s s3) (fun k u w st => u = (drA (s 71) ns ne z (Int32.toInt64 x) k).1 ∧ w = (drA (s 71) ns ne z (Int32.toInt64 x) k).2 ∧ SC s st ∧ PL st (bkT (evL (s 71) ns ne) 24) (s 71) ns) 0 d (by omega) ?_ ?_ (by omega) _ _ _ ⟨rfl, rfl, e3, e2⟩
            · rintro self k u w st - h6 ⟨rfl, rfl, h7, h8⟩
              right
              unfold b_X3_renamingsOfDays_10
              rw [ifle _ _ (by omega) (by omega), if_neg (by omega), nm_eq, C_draw (h7.tt T1 hT).2.1.2.1.2 hne, nm_eq]
              obtain ⟨s4, f1, f2, f3⟩ := C_days h8 hns hne h7.2.1 h7.2.2 (drN z (drA (s 71) ns ne z (Int32.toInt64 x) k).1 ne).2 (drA (s 71) ns ne z (Int32.toInt64 x) k).2 (fun (a10 : Int32) (s11 : Sg) => self (drN z (drA (s 71) ns ne z (Int32.toInt64 x) k).1 ne).1 a10 (nI k + nI 1) s11)
              rw [f1, nadd]
              exact ⟨_, _, s4, rfl, by rw [drA_s], by rw [drA_s], h7.tr f2, f3⟩
            · rintro self u w st ⟨rfl, rfl, h7, h8⟩
              unfold b_X3_renamingsOfDays_10
              rw [ifle _ _ (by omega) (by omega), if_pos (by omega)]
              exact ⟨st, rfl, h7⟩
          obtain ⟨s3, g1, g2⟩ := this
          rw [g1, ob2_some]
          exact ⟨s3, rfl, g2.ro hw⟩
        · intro s1 hr
          have hn0 : sts s1 70 11 (nI 0) 71 = s 71 := by rw [sts_n _ _ _ (by decide)]; exact hr.n
          rw [hA, ob_s, if_bi' _ _ h0, hB, ob_s, if_bi' _ _ h1, hC, ob_s, if_bi' _ _ h2, nm_eq, nm_eq]
          refine lp4_ax (fun o => ∃ s3, o = some ((drA (s 71) ns ne z (Int32.toInt64 x) d).2, s3) ∧ RO s1 s3) (fun k u w st => u = (drA (s 71) ns ne z (Int32.toInt64 x) k).1 ∧ w = (drA (s 71) ns ne z (Int32.toInt64 x) k).2 ∧ R8 s1 st ∧ st 71 = s 71 ∧ SGd st [] ns) 0 d (by omega) ?_ ?_ (by omega) _ _ _ ⟨rfl, rfl, R8.st s1 _ (by decide), hn0, SGd.no _ ns (sts_s _ _ _ _)⟩
          · rintro self k u w st - h6 ⟨rfl, rfl, h7, h8, h9⟩
            right
            obtain ⟨s4, f1, f2, _, f3⟩ := S8_words h8 hV h9 (drN z (drA (s 71) ns ne z (Int32.toInt64 x) k).1 ne).2
            rw [show gS [] = [] from rfl, List.append_nil] at f3
            unfold b_X8_drawn_58
            rw [ifle _ _ (by omega) (by omega), if_neg (by omega), nm_eq, R_draw h8 hV]
            rw [f1, ob_s, nm_eq, R_days (f2.n h8) hV _ _ f3, nadd]
            exact ⟨_, _, s4, rfl, by rw [drA_s], by rw [drA_s], h7.tr f2.r8, f2.n h8, f2.sg h9⟩
          · rintro self u w st ⟨rfl, rfl, h7, h8, h9⟩
            unfold b_X8_drawn_58
            rw [ifle _ _ (by omega) (by omega), if_pos (by omega)]
            exact ⟨st, rfl, h7.ro hr.nx⟩
      · rw [if_bi0 _ _ h2]
        refine OK_bad h (-2) (r7 s) (fun s1 h3 => ?_)
        rw [hA, ob_s, if_bi' _ _ h0, hB, ob_s, if_bi' _ _ h1, hC, ob_s, if_bi0 _ _ h2, r8]
    · rw [if_bi0 _ _ h1]
      refine OK_bad h (-2) (r7 s) (fun s1 h3 => ?_)
      rw [hA, ob_s, if_bi' _ _ h0, hB, ob_s, if_bi0 _ _ h1, r8]
  · rw [if_bi0 _ _ h0]
    refine OK_bad h (-2) (r7 s) (fun s1 h3 => ?_)
    rw [hA, ob_s, if_bi0 _ _ h0, r8]
