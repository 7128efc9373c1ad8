/-! forbid, rents, of -/
theorem SC.tt {s s2 : Sg} {t : Nat} {N : Nat → Int32} {ns ne nr np : Nat} (h : SC s s2) (hT : isT t) (h2 : TR s t N ns ne nr np) : TR s2 t N ns ne nr np := h2.fr (fun c h3 h4 => h.1 c (by have := hT.lt; omega))
theorem RG.sg {s s2 : Sg} {g : Stg} {ns : Nat} (h : RG s s2) (hg : SGd s g ns) : SGd s2 g ns := by
  have e : ∀ c, c < 75 ∨ 81 < c → s2 c = s c := fun c hc => h c (by omega) (by omega) (by omega) (by omega) (by omega) (by omega) (by omega)
  refine ⟨by rw [e 70 (by omega)]; exact hg.1, hg.2.1, fun k q hq => ?_⟩
  rw [e 82 (by omega), e 83 (by omega), e 84 (by omega)]
  exact hg.2.2 k q hq
theorem nI_m1 : ∀ k, k < 2147483648 → nI k ≠ -1 := by
  intro k hk h
  have h0 := nI_pos hk
  rw [h] at h0
  exact h0 (by decide)
def opN : Option Nat → Int32
  | none => -1
  | some k => nI k
theorem opN_0 : opN none = -1 := rfl
theorem opN_1 (k : Nat) : opN (some k) = nI k := rfl
theorem and_x (ne k : Nat) : ∀ e, e < 9 → e = ne → k < 256 → ∀ j, j < e → hb ((nI (2 ^ e) - nI 1) &&& (nI k ^^^ -1)) j = hb (nI k ^^^ -1) j := by
  have : ∀ e, e < 9 → ∀ k, k < 256 → ∀ j, j < e → hb ((nI (2 ^ e) - nI 1) &&& (nI k ^^^ -1)) j = hb (nI k ^^^ -1) j := by decide +kernel
  intro e he _ hk j hj
  exact this e he k hk j hj
section FORB
variable {s : Sg} {N : Nat → Int32} {ns ne nr np : Nat}
noncomputable def okF (N : Nat → Int32) (ns ne i k : Nat) : Bool := decide (WD N (evS N ns (nI k ^^^ -1) ne) i 23 = N (5 + 4 * i + 3))
noncomputable def bF (N : Nat → Int32) (ns ne i c : Nat) : Option Nat := forN (fun k b => match b with
  | none => if okF N ns ne i k = true then some k else none
  | some j => if pc j ≤ pc k then some j else if okF N ns ne i k = true then some k else some j) c none
theorem bF_s (i c : Nat) : bF N ns ne i (c + 1) = (match bF N ns ne i c with
  | none => if okF N ns ne i c = true then some c else none
  | some j => if pc j ≤ pc c then some j else if okF N ns ne i c = true then some c else some j) := rfl
theorem bF_lt (i : Nat) : ∀ c j, bF N ns ne i c = some j → j < c := by
  intro c
  induction c with
  | zero => intro j h; exact absurd h (by unfold bF forN; simp)
  | succ c ih =>
    intro j h
    rw [bF_s] at h
    cases hb : bF N ns ne i c with
    | none =>
      rw [hb] at h
      dsimp only at h
      split at h
      · cases h; omega
      · cases h
    | some l =>
      have := ih l hb
      rw [hb] at h
      dsimp only at h
      split at h
      · cases h; omega
      · split at h
        · cases h; omega
        · cases h; omega
end FORB
theorem pow_256 {n : Nat} (h : n ≤ 8) : 2 ^ n ≤ 256 := Nat.pow_le_pow_right (n := 2) (by decide) h
theorem pow_1 (n : Nat) : 1 ≤ 2 ^ n := Nat.pos_of_ne_zero (by simp)
theorem S_firstWord {s : Sg} {N : Nat → Int32} {ns : Nat} {L : List Hap} (hP : PL s L N ns) (hns : ns ≤ 7) {i : Nat} (hi : i < ns) : f_X0_firstWordOf (nI i) s = some (N (5 + 4 * i + 3)) := by
  unfold f_X0_firstWordOf
  rw [S_isBelow, ob_s, bi_B (by omega) (by decide), if_bi, if_pos (by omega), ag _ 56 (show i < 7 by omega) (by omega), ob_s, hP.2.2.2 i hi]
theorem OK_forbid {s : Sg} (h : REL s) (x : Int32) : OKop (f_X7_forbid x s) (f_X8_forbid x) := by
  obtain ⟨⟨ns, ne, nr, np, hT⟩, _, _, _, ⟨hw, _⟩, hx⟩ := id h
  have hV := hT.1
  have hns := hV.2.1.1
  have hne := hV.2.1.2.1
  have h256 := pow_256 hne
  have h1 := pow_1 ne
  unfold f_X7_forbid f_X8_forbid
  rw [S7_isStreet hT, ob_s]
  by_cases h0 : 0 ≤ x ∧ x < nI ns
  · rw [if_bi' _ _ h0]
    obtain ⟨i, hi, rfl⟩ := rngB (by omega) h0
    refine OK_ro h (opN (bF (s 71) ns ne i (2 ^ ne))) ?_ ?_
    · obtain ⟨s2, e1, e2, e3⟩ := S_plan2 hT T1 hw hx
      rw [e1, ob_s]
      have hT2 := e3.tt T1 hT
      have : ∃ s3, f_X3_fewestForbidden (nI i) 1 s2 = some (opN (bF (s 71) ns ne i (2 ^ ne)), s3) ∧ SC s s3 := by
        unfold f_X3_fewestForbidden
        rw [S_size, ob_s, hT2.2.1.2.1.2, shlN ne (by omega), nm_eq, nsub h1]
        refine lp3_ax (fun o => ∃ s3, o = some (opN (bF (s 71) ns ne i (2 ^ ne)), s3) ∧ SC s s3) (fun k u st => u = opN (bF (s 71) ns ne i k) ∧ SC s st ∧ PL st (bkT (evL (s 71) ns ne) 24) (s 71) ns) 0 (2 ^ ne) (by omega) ?_ ?_ (by omega) _ _ ⟨rfl, e3, e2⟩
        · rintro self k u st - h6 ⟨rfl, h7, h8⟩
          right
          obtain ⟨s4, f1, f2, f3⟩ := S_word h8 hns hi (show 23 < 24 by decide) (nI k ^^^ -1)
          rw [flt_ev _ _ _ _ hne] at f1
          have f4 := h7.tr (f2.sc f3 h7.2.1)
          have f5 := f2.pl h8
          have f6 := S_firstWord f5 hns hi
          unfold b_X3_fewestForbidden_18
          rw [ifl _ _ (by omega) (by omega), if_neg (by omega), nm_eq, nm_eq, bF_s]
          cases hb : bF (s 71) ns ne i k with
          | none =>
            dsimp only
            rw [opN_0]
            rw [if_pos rfl]
            rw [nm_eq, if_neg (by decide), f1, ob2_some, f6, ob_s]
            by_cases q : WD (s 71) (evS (s 71) ns (nI k ^^^ -1) ne) i 23 = s 71 (5 + 4 * i + 3)
            · rw [if_pos q, if_pos (show okF (s 71) ns ne i k = true from decide_eq_true q), nadd]
              exact ⟨_, _, rfl, rfl, f4, f5⟩
            · rw [if_neg q, if_neg (show ¬ okF (s 71) ns ne i k = true from fun z => q (of_decide_eq_true z)), nadd]
              exact ⟨_, _, rfl, rfl, f4, f5⟩
          | some j =>
            have hj := bF_lt i k j hb
            dsimp only
            rw [opN_1]
            rw [if_neg (nI_m1 j (by omega)), S_bitCount (by omega), ob_s, S_bitCount (by omega), ob_s, ifle _ _ (by have := pc_le j (by omega); omega) (by have := pc_le k (by omega); omega)]
            by_cases q0 : pc j ≤ pc k
            · rw [if_pos q0, if_pos q0]
              rw [nm_eq, if_pos (show nI 0 = 0 from rfl), nadd]
              exact ⟨_, _, rfl, rfl, h7, h8⟩
            · rw [if_neg q0, if_neg q0]
              rw [nm_eq, if_neg (by decide), f1, ob2_some, f6, ob_s]
              by_cases q : WD (s 71) (evS (s 71) ns (nI k ^^^ -1) ne) i 23 = s 71 (5 + 4 * i + 3)
              · rw [if_pos q, if_pos (show okF (s 71) ns ne i k = true from decide_eq_true q), nadd]
                exact ⟨_, _, rfl, rfl, f4, f5⟩
              · rw [if_neg q, if_neg (show ¬ okF (s 71) ns ne i k = true from fun z => q (of_decide_eq_true z)), nadd]
                exact ⟨_, _, rfl, rfl, f4, f5⟩
        · rintro self u st ⟨rfl, h7, h8⟩
          unfold b_X3_fewestForbidden_18
          rw [ifl _ _ (by omega) (by omega), if_pos (by omega)]
          exact ⟨st, rfl, h7⟩
      obtain ⟨s3, g1, g2⟩ := this
      rw [g1, ob2_some]
      exact ⟨s3, rfl, g2.ro hw⟩
    · intro s1 hr
      rw [S8_isStreet hr.n hV, ob_s, if_bi' _ _ h0, nm_eq]
      have hn0 : sts s1 70 11 (nI 0) 71 = s 71 := by rw [sts_n _ _ _ (by decide)]; exact hr.n
      refine lp3_ax (fun o => ∃ s3, o = some (opN (bF (s 71) ns ne i (2 ^ ne)), s3) ∧ RO s1 s3) (fun k u st => u = opN (bF (s 71) ns ne i k) ∧ R8 s1 st ∧ st 71 = s 71 ∧ SGd st [] ns) 0 (2 ^ ne) (by omega) ?_ ?_ (by omega) _ _ ⟨rfl, R8.st s1 _ (by decide), hn0, SGd.no _ ns (sts_s _ _ _ _)⟩
      · rintro self k u st - h6 ⟨rfl, h7, h8, h9⟩
        right
        obtain ⟨s4, f1, f2, f3, _⟩ := S8_words h8 hV h9 ((nI (2 ^ ne) - nI 1) &&& (nI k ^^^ -1))
        have f3 := f3 23 i (by decide) hi
        rw [evS_c _ _ _ (nI k ^^^ -1) ne (and_x ne k ne (by omega) rfl (by omega)), show gS [] = [] from rfl, List.append_nil] at f3
        have f4 := h7.tr f2.r8
        have f5 := f2.n h8
        have f6 := f2.sg h9
        unfold b_X8_forbid_24
        rw [S8_events h8 hV, ob_s, shlN ne (by omega), ifle _ _ (by omega) (by omega), if_neg (by omega), nm_eq, nm_eq, bF_s]
        have hA : f_X8_allEvents st = some (nI (2 ^ ne) - nI 1) := S8_allEvents h8 hV
        have hB : aget s4 75 (nI 161 + nI i) = some (WD (s 71) (evS (s 71) ns (nI k ^^^ -1) ne) i 23) := by rw [nadd, ag _ 75 (show 161 + i < 168 by omega) (by omega), show 161 + i = 7 * 23 + i by omega, f3]
        cases hb : bF (s 71) ns ne i k with
        | none =>
          dsimp only
          rw [opN_0]
          rw [if_pos rfl, hA, ob_s, f1, ob_s, hB, ob_s, S8_has f5 (by omega) (by decide), ob_s, nm_eq]
          by_cases q : WD (s 71) (evS (s 71) ns (nI k ^^^ -1) ne) i 23 = s 71 (5 + 4 * i + 3)
          · rw [if_pos q, if_pos (show okF (s 71) ns ne i k = true from decide_eq_true q), nadd]
            exact ⟨_, _, rfl, rfl, f4, f5, f6⟩
          · rw [if_neg q, if_neg (show ¬ okF (s 71) ns ne i k = true from fun z => q (of_decide_eq_true z)), nadd]
            exact ⟨_, _, rfl, rfl, f4, f5, f6⟩
        | some j =>
          have hj := bF_lt i k j hb
          dsimp only
          rw [opN_1]
          rw [if_neg (nI_m1 j (by omega)), S8_bits (by omega), ob_s, S8_bits (by omega), ob_s, ifle _ _ (by have := pc_le j (by omega); omega) (by have := pc_le k (by omega); omega)]
          by_cases q0 : pc j ≤ pc k
          · rw [if_pos q0, if_pos q0, nadd]
            exact ⟨_, _, rfl, rfl, h7, h8, h9⟩
          · rw [if_neg q0, if_neg q0, hA, ob_s, f1, ob_s, hB, ob_s, S8_has f5 (by omega) (by decide), ob_s, nm_eq]
            by_cases q : WD (s 71) (evS (s 71) ns (nI k ^^^ -1) ne) i 23 = s 71 (5 + 4 * i + 3)
            · rw [if_pos q, if_pos (show okF (s 71) ns ne i k = true from decide_eq_true q), nadd]
              exact ⟨_, _, rfl, rfl, f4, f5, f6⟩
            · rw [if_neg q, if_neg (show ¬ okF (s 71) ns ne i k = true from fun z => q (of_decide_eq_true z)), nadd]
              exact ⟨_, _, rfl, rfl, f4, f5, f6⟩
      · rintro self u st ⟨rfl, h7, h8, h9⟩
        unfold b_X8_forbid_24
        rw [S8_events h8 hV, ob_s, shlN ne (by omega), ifle _ _ (by omega) (by omega), if_pos (by omega)]
        exact ⟨st, rfl, h7.ro hr.nx⟩
  · rw [if_bi0 _ _ h0]
    refine OK_bad h (-2) (r7 s) (fun s1 h3 => ?_)
    rw [S8_isStreet (n8 h3) hV, ob_s, if_bi0 _ _ h0, r8]
