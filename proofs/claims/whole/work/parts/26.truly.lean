/-! truly, drawn -/
section TRULY
variable {s : Sg} {N : Nat → Int32} {t ns ne nr np : Nat}
noncomputable def rdK (N : Nat → Int32) (ns ne : Nat) (x : Int32) (r : Nat) : Bool := decide (WD N (evS N ns x ne) (N (97 + 3 * r)).toNatClampNeg (N (97 + 3 * r + 1)).toNatClampNeg = N (97 + 3 * r + 2))
noncomputable def agr (N : Nat → Int32) (ns ne : Nat) (x : Int32) (n : Nat) : Bool := forN (fun r b => b && rdK N ns ne x r) n true
theorem agr_s (x : Int32) (n : Nat) : agr N ns ne x (n + 1) = (agr N ns ne x n && rdK N ns ne x n) := rfl
theorem agr_no (x : Int32) {r : Nat} (h : rdK N ns ne x r = false) : ∀ n, r < n → agr N ns ne x n = false := by
  intro n
  induction n with
  | zero => intro h; omega
  | succ n ih =>
    intro hn
    rw [agr_s]
    by_cases e : r = n
    · subst e; rw [h, Bool.and_false]
    · rw [ih (by omega), Bool.false_and]
theorem S_agrees (h : TR s t N ns ne nr np) (hT : isT t) (hP : PL s (bkT (evL N ns ne) 24) N ns) (hw : s 53 0 = nI 6) (hx : NX s) (x : Int32) : ∃ s2, f_X3_agrees x (t + 5) s = some (bi (agr N ns ne x nr = true), s2) ∧ SC s s2 ∧ PL s2 (bkT (evL N ns ne) 24) N ns := by
  have hV := h.1
  have hns := hV.2.1.1
  have hne := hV.2.1.2.1
  have hnr := hV.2.1.2.2.1
  refine lp2_ix (fun o => ∃ s2, o = some (bi (agr N ns ne x nr = true), s2) ∧ SC s s2 ∧ PL s2 (bkT (evL N ns ne) 24) N ns) (fun r st => agr N ns ne x r = true ∧ SC s st ∧ PL st (bkT (evL N ns ne) 24) N ns) 0 nr (by omega) ?_ ?_ (by omega) _ ⟨rfl, ⟨fun _ _ => rfl, hw, hx⟩, hP⟩
  · rintro self r st - h6 ⟨h7, h8, h9⟩
    have hT2 := h8.tt hT h
    obtain ⟨⟨a, ha, ea⟩, ⟨b, hb, eb⟩, _⟩ := hV.2.2.2.2.2.2.1 r h6
    obtain ⟨s4, f1, f2, f3⟩ := S_word h9 hns ha hb x
    rw [flt_ev _ _ _ _ hne] at f1
    have f4 := h8.tr (f2.sc f3 h8.2.1)
    have f5 := f2.pl h9
    have hT4 := f4.tt hT h
    unfold b_X3_agrees_2
    rw [S_size, ob_s, hT2.2.1.2.2.1.2, ifle _ _ (by omega) (by omega), if_neg (by omega), T_rd hT2 hT h6 (by decide), ob_s, T_rd hT2 hT h6 (by decide), ob_s, Nat.add_zero, ea, eb, f1, ob2_some, T_rd hT4 hT h6 (by decide), ob_s]
    have hrd : rdK N ns ne x r = decide (WD N (evS N ns x ne) a b = N (97 + 3 * r + 2)) := by
      unfold rdK
      rw [ea, eb, nIc (by omega), nIc (by omega)]
    by_cases q : WD N (evS N ns x ne) a b = N (97 + 3 * r + 2)
    · right
      rw [if_pos q, nadd]
      refine ⟨_, rfl, ?_, f4, f5⟩
      rw [agr_s, h7, hrd, decide_eq_true q]
      rfl
    · left
      rw [if_neg q, agr_no x (show rdK N ns ne x r = false by rw [hrd]; exact decide_eq_false q) nr h6]
      exact ⟨s4, rfl, f4, f5⟩
  · rintro self st ⟨h7, h8, h9⟩
    have hT2 := h8.tt hT h
    unfold b_X3_agrees_2
    rw [S_size, ob_s, hT2.2.1.2.2.1.2, ifle _ _ (by omega) (by omega), if_pos (by omega), h7]
    exact ⟨st, rfl, h8, h9⟩
theorem S8_areRead (h : s 71 = N) (hV : VN N ns ne nr np) (x : Int32) (hW : ∀ H i, H < 24 → i < ns → s 75 (7 * H + i) = WD N (evS N ns x ne) i H) : f_X8_areRead s = some (bi (agr N ns ne x nr = true)) := by
  have hns := hV.2.1.1
  have hnr := hV.2.1.2.2.1
  refine lp2_ax (fun o => o = some (bi (agr N ns ne x nr = true))) (fun r a => a = bi (agr N ns ne x r = true)) 0 nr (by omega) ?_ ?_ (by omega) _ rfl
  · rintro self r a - h6 rfl
    right
    obtain ⟨⟨a, ha, ea⟩, ⟨b, hb, eb⟩, _⟩ := hV.2.2.2.2.2.2.1 r h6
    refine ⟨_, ?_, rfl⟩
    unfold b_X8_areRead_4
    rw [ag _ 71 (by decide) (by decide), ob_s, h, hV.1.2.2.1, ifle _ _ (by omega) (by omega), if_neg (by omega), nmul, nadd, nm_eq, nm_eq, nm_eq, nadd, nadd, nadd]
    have hrd : rdK N ns ne x r = decide (WD N (evS N ns x ne) a b = N (97 + 3 * r + 2)) := by
      unfold rdK
      rw [ea, eb, nIc (by omega), nIc (by omega)]
    by_cases q0 : agr N ns ne x r = true
    · rw [if_bi' _ _ q0, ag _ 71 (show 97 + 3 * r + 1 < 515 by omega) (by omega), ob_s, ag _ 71 (show 97 + 3 * r < 515 by omega) (by omega), ob_s, h, ea, eb, nmul, nadd, ag _ 75 (show 7 * b + a < 168 by omega) (by omega), ob_s, hW b a hb ha, ag _ 71 (show 97 + 3 * r + 2 < 515 by omega) (by omega), ob_s, h]
      rw [agr_s, q0, Bool.true_and, hrd]
      by_cases q : WD N (evS N ns x ne) a b = N (97 + 3 * r + 2)
      · rw [if_pos q, bi_t (decide_eq_true q)]
      · rw [if_neg q, bi_f (by rw [decide_eq_false q]; decide)]
    · rw [if_bi0 _ _ q0, bi_f (by rw [agr_s]; intro z; rw [Bool.and_eq_true] at z; exact q0 z.1)]
  · rintro self a rfl
    unfold b_X8_areRead_4
    rw [ag _ 71 (by decide) (by decide), ob_s, h, hV.1.2.2.1, ifle _ _ (by omega) (by omega), if_pos (by omega), bi_and]
noncomputable def tcN (N : Nat → Int32) (ns ne nr c : Nat) : Nat := forN (fun k b => if agr N ns ne (nI k) nr = true then b + 1 else b) c 0
noncomputable def taN (N : Nat → Int32) (ns ne nr c : Nat) : Int32 := forN (fun k b => if agr N ns ne (nI k) nr = true then b &&& nI k else b) c (nI (2 ^ ne) - nI 1)
theorem tcN_s (c : Nat) : tcN N ns ne nr (c + 1) = if agr N ns ne (nI c) nr = true then tcN N ns ne nr c + 1 else tcN N ns ne nr c := rfl
theorem taN_s (c : Nat) : taN N ns ne nr (c + 1) = if agr N ns ne (nI c) nr = true then taN N ns ne nr c &&& nI c else taN N ns ne nr c := rfl
end TRULY
theorem SC.s63 {s s2 : Sg} (h : SC s s2) (k : Nat) (v : Int32) : SC s (sts s2 63 k v) :=
  ⟨fun c hc => by rw [sts_n _ _ _ (by omega)]; exact h.1 c hc, by rw [sts_n _ _ _ (by decide)]; exact h.2.1, by
    obtain ⟨b, h1, h2⟩ := h.2.2
    exact ⟨b, h1, by rw [sts_n _ _ _ (by decide)]; exact h2⟩⟩
theorem PL.s63 {s : Sg} {L : List Hap} {N : Nat → Int32} {ns : Nat} (h : PL s L N ns) (k : Nat) (v : Int32) : PL (sts s 63 k v) L N ns :=
  ⟨h.1.fr (sts_n _ _ _ (by decide)) (sts_n _ _ _ (by decide)), by rw [sts_n _ _ _ (by decide)]; exact h.2.1, by rw [sts_n _ _ _ (by decide)]; exact h.2.2.1, fun i hi => by rw [sts_n _ _ _ (by decide)]; exact h.2.2.2 i hi⟩
theorem LV.s63 {s s2 : Sg} {i : Nat} (h : LV s s2 i) : s2 63 = s 63 := h.1 63 (by decide) (by decide) (by decide) (by decide) (by decide)
theorem S_agr63 {s : Sg} {N : Nat → Int32} {t ns ne nr np : Nat} (h : TR s t N ns ne nr np) (hT : isT t) (hP : PL s (bkT (evL N ns ne) 24) N ns) (hw : s 53 0 = nI 6) (hx : NX s) (x : Int32) : ∀ o s2, f_X3_agrees x (t + 5) s = some (o, s2) → s2 63 = s 63 := by
  have hV := h.1
  have hns := hV.2.1.1
  have hne := hV.2.1.2.1
  have hnr := hV.2.1.2.2.1
  have := lp2_ix (B := b_X3_agrees_2 (t + 5) x) (fun o => ∀ v s2, o = some (v, s2) → s2 63 = s 63) (fun r st => st 63 = s 63 ∧ SC s st ∧ PL st (bkT (evL N ns ne) 24) N ns) 0 nr (by omega) ?_ ?_ (by omega) s ⟨rfl, ⟨fun _ _ => rfl, hw, hx⟩, hP⟩
  · exact this
  · rintro self r st - h6 ⟨h7, h8, h9⟩
    have hT2 := h8.tt hT h
    obtain ⟨⟨a, ha, ea⟩, ⟨b, hb, eb⟩, _⟩ := hV.2.2.2.2.2.2.1 r h6
    obtain ⟨s4, f1, f2, f3⟩ := S_word h9 hns ha hb x
    have f4 := h8.tr (f2.sc f3 h8.2.1)
    have f5 := f2.pl h9
    have hT4 := f4.tt hT h
    have f6 : s4 63 = s 63 := f2.s63.trans h7
    unfold b_X3_agrees_2
    rw [S_size, ob_s, hT2.2.1.2.2.1.2, ifle _ _ (by omega) (by omega), if_neg (by omega), T_rd hT2 hT h6 (by decide), ob_s, T_rd hT2 hT h6 (by decide), ob_s, Nat.add_zero, ea, eb, f1, ob2_some, T_rd hT4 hT h6 (by decide), ob_s]
    by_cases q : WD N (flt x (evL N ns ne)) a b = N (97 + 3 * r + 2)
    · right
      rw [if_pos q, nadd]
      exact ⟨_, rfl, f6, f4, f5⟩
    · left
      rw [if_neg q]
      intro v s2 e
      cases e
      exact f6
  · rintro self st ⟨h7, h8, h9⟩
    have hT2 := h8.tt hT h
    unfold b_X3_agrees_2
    rw [S_size, ob_s, hT2.2.1.2.2.1.2, ifle _ _ (by omega) (by omega), if_pos (by omega)]
    intro v s2 e
    cases e
    exact h7
theorem OK_truly {s : Sg} (h : REL s) (x : Int32) : OKop (f_X7_truly x s) (f_X8_truly x) := by
  obtain ⟨⟨ns, ne, nr, np, hT⟩, _, _, _, ⟨hw, _⟩, hx⟩ := id h
  have hV := hT.1
  have hns := hV.2.1.1
  have hne := hV.2.1.2.1
  have h256 := pow_256 hne
  have h1 := pow_1 ne
  have h01 : ∀ s : Sg, f_X8_in (Int32.toInt64 x) (0 : Int64) (1 : Int64) s = some (bi (0 ≤ x ∧ x < nI 2)) := fun s => S8_inB x (by decide) _ (by decide) s
  unfold f_X7_truly f_X8_truly
  rw [S_isBelow, ob_s]
  by_cases h0 : 0 ≤ x ∧ x < nI 2
  · rw [if_bi' _ _ h0]
    refine OK_ro h (if x = 0 then nI (tcN (s 71) ns ne nr (2 ^ ne)) else if nI (tcN (s 71) ns ne nr (2 ^ ne)) = 0 then -1 else taN (s 71) ns ne nr (2 ^ ne)) ?_ ?_
    · obtain ⟨s2, e1, e2, e3⟩ := S_plan2 hT T1 hw hx
      rw [e1, ob_s]
      have hT2 := e3.tt T1 hT
      have : ∃ s3, f_X3_trueSets 1 s2 = some (nI (tcN (s 71) ns ne nr (2 ^ ne)), s3) ∧ SC s s3 ∧ s3 63 5 = taN (s 71) ns ne nr (2 ^ ne) := by
        unfold f_X3_trueSets
        rw [S_size, ob_s, hT2.2.1.2.1.2, shlN ne (by omega), nm_eq, nsub h1, nm_eq]
        refine lp3_ax (fun o => ∃ s3, o = some (nI (tcN (s 71) ns ne nr (2 ^ ne)), s3) ∧ SC s s3 ∧ s3 63 5 = taN (s 71) ns ne nr (2 ^ ne)) (fun k u st => u = nI (tcN (s 71) ns ne nr k) ∧ SC s st ∧ st 63 5 = taN (s 71) ns ne nr k ∧ PL st (bkT (evL (s 71) ns ne) 24) (s 71) ns) 0 (2 ^ ne) (by omega) ?_ ?_ (by omega) _ _ ⟨rfl, e3.s63 _ _, ?_, e2.s63 _ _⟩
        · rintro self k u st - h6 ⟨rfl, h7, h8, h9⟩
          right
          obtain ⟨s4, f1, f2, f3⟩ := S_agrees (h7.tt T1 hT) T1 h9 h7.2.1 h7.2.2 (nI k)
          have f4 := S_agr63 (h7.tt T1 hT) T1 h9 h7.2.1 h7.2.2 (nI k) _ _ f1
          unfold b_X3_trueSets_22
          rw [ifl _ _ (by omega) (by omega), if_neg (by omega), f1, ob2_some, nm_eq, tcN_s, taN_s]
          by_cases q : agr (s 71) ns ne (nI k) nr = true
          · rw [if_bi' _ _ q, if_pos q, if_pos q, nm_eq]
            dsimp only
            rw [nadd, nadd]
            refine ⟨_, _, rfl, rfl, (h7.tr f2).s63 _ _, ?_, f3.s63 _ _⟩
            rw [sts_s, f4, h8]
          · rw [if_bi0 _ _ q, if_neg q, if_neg q]
            dsimp only
            rw [nadd]
            exact ⟨_, _, rfl, rfl, h7.tr f2, by rw [f4, h8], f3⟩
        · rintro self u st ⟨rfl, h7, h8, h9⟩
          unfold b_X3_trueSets_22
          rw [ifl _ _ (by omega) (by omega), if_pos (by omega)]
          exact ⟨st, rfl, h7, h8⟩
        · rw [sts_s, ← nsub h1]; rfl
      obtain ⟨s3, g1, g2, g3⟩ := this
      rw [g1, ob2_some]
      refine ⟨s3, ?_, g2.ro hw⟩
      unfold f_X3_inAllTrueSets
      rw [ob_s, g3]
      split
      · rfl
      · split <;> rfl
    · intro s1 hr
      have hn0 : sts s1 70 11 (nI 0) 71 = s 71 := by rw [sts_n _ _ _ (by decide)]; exact hr.n
      rw [h01, ob_s, if_bi' _ _ h0, S8_allEvents hr.n hV, ob_s, nm_eq, nm_eq]
      refine lp4_ax (fun o => ∃ s2, o = some (if x = 0 then nI (tcN (s 71) ns ne nr (2 ^ ne)) else if nI (tcN (s 71) ns ne nr (2 ^ ne)) = 0 then -1 else taN (s 71) ns ne nr (2 ^ ne), s2) ∧ RO s1 s2) (fun k u w st => u = nI (tcN (s 71) ns ne nr k) ∧ w = taN (s 71) ns ne nr k ∧ R8 s1 st ∧ st 71 = s 71 ∧ SGd st [] ns) 0 (2 ^ ne) (by omega) ?_ ?_ (by omega) _ _ _ ⟨rfl, rfl, R8.st s1 _ (by decide), hn0, SGd.no _ ns (sts_s _ _ _ _)⟩
      · rintro self k u w st - h6 ⟨rfl, rfl, h7, h8, h9⟩
        right
        obtain ⟨s4, f1, f2, f3, _⟩ := S8_words h8 hV h9 (nI k)
        rw [show gS [] = [] from rfl, List.append_nil] at f3
        refine ⟨_, _, s4, ?_, rfl, rfl, h7.tr f2.r8, f2.n h8, f2.sg h9⟩
        unfold b_X8_truly_32
        rw [S8_events h8 hV, ob_s, shlN ne (by omega), ifle _ _ (by omega) (by omega), if_neg (by omega), f1, ob_s, S8_areRead (f2.n h8) hV (nI k) f3, ob_s, nm_eq, tcN_s, taN_s]
        by_cases q : agr (s 71) ns ne (nI k) nr = true
        · rw [if_bi' _ _ q, if_pos q, if_pos q]
          dsimp only
          rw [nm_eq, nm_eq, if_bi' _ _ q]
          dsimp only
          rw [nm_eq, nadd, nadd]
        · rw [if_bi0 _ _ q, if_neg q, if_neg q]
          dsimp only
          rw [nm_eq, nm_eq, if_bi0 _ _ q]
          dsimp only
          rw [nm_eq, nadd, nadd, Nat.add_zero, Int32.and_neg_one]
      · rintro self u w st ⟨rfl, rfl, h7, h8, h9⟩
        unfold b_X8_truly_32
        rw [S8_events h8 hV, ob_s, shlN ne (by omega), ifle _ _ (by omega) (by omega), if_pos (by omega)]
        refine ⟨st, ?_, h7.ro hr.nx⟩
        dsimp only
        split
        · rfl
        · split <;> rfl
  · rw [if_bi0 _ _ h0]
    refine OK_bad h (-10) rfl (fun s1 h3 => ?_)
    rw [h01, ob_s, if_bi0 _ _ h0, r8]
