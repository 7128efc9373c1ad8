/-! rents, of -/
theorem fold1_rng (law : Int32) (i : Nat) : ∀ (L : List Hap) (q : Int32 × Int32 × Int32), (∀ x ∈ L, rng (x 2) 16) → rng q.1 16 → rng (fold1 law i L q).1 16
  | [], _, _, h => h
  | x :: L, q, h, hq => by
    show rng (fold1 law i L (st1 law i q x)).1 16
    refine fold1_rng law i L _ (fun y hy => h y (List.mem_cons_of_mem _ hy)) ?_
    unfold st1
    split
    · exact h x List.mem_cons_self
    · exact hq
theorem bkT_mem {E : List Hap} {n : Nat} {x : Hap} (h : x ∈ bkT E n) : x ∈ E := by
  obtain ⟨k, _, _, _, h2⟩ := bkR_mem h
  exact h2
def E16 (E : List Hap) : Prop := ∀ x ∈ E, rng (x 2) 16
theorem evL_16 {N : Nat → Int32} {ns ne nr np : Nat} (hV : VN N ns ne nr np) : E16 (evL N ns ne) := by
  have : ∀ e, e ≤ ne → E16 (evL N ns e) := by
    intro e
    induction e with
    | zero => intro _ x hx; exact absurd hx (by simp [evL])
    | succ e ih =>
      intro he x hx
      unfold evL at hx
      split at hx
      · rcases List.mem_append.mp hx with h | h
        · exact ih (by omega) x h
        · rw [List.mem_singleton] at h
          subst h
          exact (hV.2.2.2.2.1 e he).2.2.2.2.2
      · exact ih (by omega) x hx
  exact this ne (Nat.le_refl _)
theorem VN.w0 {N : Nat → Int32} {ns ne nr np : Nat} (hV : VN N ns ne nr np) {i : Nat} (hi : i < ns) : rng (N (5 + 4 * i + 3)) 16 := (hV.2.2.2.1 i hi).2.2.2.2
theorem WD_rng {N : Nat → Int32} {ns ne nr np : Nat} (hV : VN N ns ne nr np) {E : List Hap} (hE : E16 E) {i : Nat} (hi : i < ns) (H : Nat) : rng (WD N E i H) 16 :=
  fold1_rng (N 2) i _ _ (fun x hx => hE x (bkT_mem hx)) (hV.w0 hi)
def rentR (N : Nat → Int32) (E : List Hap) (i : Nat) : Int32 := forN (fun H a => a + N (81 + (WD N E i H).toNatClampNeg)) 24 (nI 0)
section RENT
variable {s : Sg} {N : Nat → Int32} {t ns ne nr np : Nat} {E : List Hap}
theorem S_rent (h : TR s t N ns ne nr np) (hT : isT t) (hP : PL s (bkT E 24) N ns) (hE : E16 E) (hf : flt (-1) E = E) {i : Nat} (hi : i < ns) : ∃ s2, f_X0_rentOf (nI i) t s = some (rentR N E i, s2) ∧ LV s s2 i ∧ NX s2 := by
  have hV := h.1
  have hR : ∀ H, rng (trk (N 2) i (flt (-1) ((bkT E 24).take (tw (bkT E 24) (nI H)))) (N (5 + 4 * i + 3))).1 16 := by
    intro H
    refine fold1_rng (N 2) i _ _ (fun x hx => ?_) (hV.w0 hi)
    have h1 : x ∈ (bkT E 24).take (tw (bkT E 24) (nI H)) := (List.mem_filter.mp hx).1
    exact hE x (bkT_mem (List.mem_of_mem_take h1))
  obtain ⟨s2, e1, e2, e3⟩ := S_rentOf (i := i) hP hV.2.1.1 hT.lt hT h.2.2.2.2.2.2.1 hR hi
  refine ⟨s2, ?_, e2, e3⟩
  have e5 : sumW (fun w => N (81 + w.toNatClampNeg)) (fun H => (trk (N 2) i (flt (-1) ((bkT E 24).take (tw (bkT E 24) (nI H)))) (N (5 + 4 * i + 3))).1) 24 = rentR N E i := by
    unfold sumW rentR
    refine forN_c (fun H a hH => ?_)
    dsimp only
    rw [take_bk E hH, flt_bk, hf]
    rfl
  rw [e1, e5]
theorem S8_rent (h : s 71 = N) (hV : VN N ns ne nr np) (hE : E16 E) {i : Nat} (hi : i < ns) (hW : ∀ H i, H < 24 → i < ns → s 75 (7 * H + i) = WD N E i H) : f_X8_rentNow (nI i) s = some (rentR N E i) := by
  have hns := hV.2.1.1
  unfold f_X8_rentNow
  refine lp2_ax (fun o => o = some (rentR N E i)) (fun H a => a = forN (fun H a => a + N (81 + (WD N E i H).toNatClampNeg)) H (nI 0)) 0 24 (by omega) ?_ ?_ (by omega) _ rfl
  · rintro self H a - h6 rfl
    right
    obtain ⟨w, hw, ew⟩ := WD_rng hV hE hi H
    refine ⟨_, ?_, rfl⟩
    unfold b_X8_rentNow_4
    rw [ifle _ _ (by omega) (by omega), if_neg (by omega), nmul, nadd, ag _ 75 (show 7 * H + i < 168 by omega) (by omega), ob_s, hW H i h6 hi, ew, nadd, ag _ 71 (show 81 + w < 515 by omega) (by omega), ob_s, nm_eq, nadd, forN_s, h, ew, nIc (by omega)]
  · rintro self a rfl
    unfold b_X8_rentNow_4
    rw [ifle _ _ (by omega) (by omega), if_pos (by omega)]
    rfl
end RENT
theorem OK_rents {s : Sg} (h : REL s) (x : Int32) : OKop (f_X7_rents x s) (f_X8_rents x) := by
  obtain ⟨⟨ns, ne, nr, np, hT⟩, _, _, _, ⟨hw, _⟩, hx⟩ := id h
  have hV := hT.1
  have hns := hV.2.1.1
  have hne := hV.2.1.2.1
  unfold f_X7_rents f_X8_rents
  rw [S7_isStreet hT, ob_s]
  by_cases h0 : 0 ≤ x ∧ x < nI ns
  · rw [if_bi' _ _ h0]
    obtain ⟨i, hi, rfl⟩ := rngB (by omega) h0
    refine OK_ro h (rentR (s 71) (evL (s 71) ns ne) i) ?_ ?_
    · obtain ⟨s2, e1, e2, e3⟩ := S_plan2 hT T1 hw hx
      obtain ⟨s3, f1, f2, f3⟩ := S_rent (e3.tt T1 hT) T1 e2 (evL_16 hV) (evL_m1 _ _ hne) hi
      rw [e1, ob_s, f1, ob2_some]
      exact ⟨s3, rfl, (e3.tr (f2.sc f3 e3.2.1)).ro hw⟩
    · intro s1 hr
      obtain ⟨s2, e1, e2, e3, e4, _⟩ := S8_runAll (s := s1) hr.n hV
      refine ⟨s2, ?_, e2.ro hr.nx⟩
      rw [S8_isStreet hr.n hV, ob_s, if_bi' _ _ h0, e1, ob_s, S8_rent e3.1 hV (evL_16 hV) hi e4, ob_s]
  · rw [if_bi0 _ _ h0]
    refine OK_bad h (-2) (r7 s) (fun s1 h3 => ?_)
    rw [S8_isStreet (n8 h3) hV, ob_s, if_bi0 _ _ h0, r8]
theorem S8_isEvent {s : Sg} {N : Nat → Int32} {ns ne nr np : Nat} (h : s 71 = N) (hV : VN N ns ne nr np) (x : Int32) : f_X8_isEvent x s = some (bi (0 ≤ x ∧ x < nI ne)) := by
  have := hV.2.1.2.1
  unfold f_X8_isEvent
  rw [S8_events h hV, ob_s, S8_inB x (by omega) _ rfl, ob_s, bi_and]
theorem OK_of {s : Sg} (h : REL s) (x y : Int32) : OKop (f_X7_of x y s) (f_X8_of x y) := by
  obtain ⟨⟨ns, ne, nr, np, hT⟩, _, _, _, ⟨hw, _⟩, hx⟩ := id h
  have hV := hT.1
  have hns := hV.2.1.1
  have hne := hV.2.1.2.1
  have h09 : ∀ s : Sg, f_X8_in (Int32.toInt64 y) (0 : Int64) (9 : Int64) s = some (bi (0 ≤ y ∧ y < nI 10)) := fun s => S8_inB y (by decide) _ (by decide) s
  unfold f_X7_of f_X8_of
  rw [S_size, ob_s, show s 4 2 = nI ne from hT.2.1.2.1.2, S_isBelow, ob_s]
  by_cases h0 : 0 ≤ x ∧ x < nI ne
  · rw [if_bi' _ _ h0, S_isBelow, ob_s]
    by_cases h1 : 0 ≤ y ∧ y < nI 10
    · rw [if_bi' _ _ h1]
      obtain ⟨e, he, rfl⟩ := rngB (by omega) h0
      obtain ⟨k, hk, rfl⟩ := rngB (by decide) h1
      obtain ⟨p, hp, ep, eq⟩ := T_streetsOf hT T1 he
      refine OK_ro h (if nI k = nI 6 then ms (s 71 (33 + 6 * e)) else if nI k = nI 7 then ro (s 71 (33 + 6 * e)) (s 71 (33 + 6 * e + 4)) else if nI k = nI 8 then sf (s 71 (33 + 6 * e)) else if nI k = nI 9 then hin (s 71) ns (s 71 (33 + 6 * e)) p else s 71 (33 + 6 * e + k)) ?_ ?_
      · refine ⟨s, ?_, RO.rf hx⟩
        rw [T_needed hT T1 he, ob_s, T_rank hT T1 he, ob_s, T_hours hT T1 he, ob_s, eq, ob_s]
        by_cases q6 : nI k = nI 6
        · rw [if_pos q6, if_pos q6]
        rw [if_neg q6, if_neg q6]
        by_cases q7 : nI k = nI 7
        · rw [if_pos q7, if_pos q7]
        rw [if_neg q7, if_neg q7]
        by_cases q8 : nI k = nI 8
        · rw [if_pos q8, if_pos q8]
        rw [if_neg q8, if_neg q8]
        by_cases q9 : nI k = nI 9
        · rw [if_pos q9, if_pos q9]
        rw [if_neg q9, if_neg q9]
        rw [nI_eq (by omega) (by decide)] at q6 q7 q8 q9
        rw [show (4 : Nat) = 1 + 3 from rfl, T_ev hT T1 he (show k < 6 by omega), ob_s]
      · intro s1 hr
        refine ⟨s1, ?_, RO.rf hr.nx⟩
        rw [S8_isEvent hr.n hV, ob_s, if_bi' _ _ h0, h09, ob_s, if_bi' _ _ h1, S8_told hr.n (by omega) (by decide), ob_s, Nat.add_zero, S8_mustSee, ob_s, S8_told hr.n (by omega) (by decide), ob_s, S8_rankOf, ob_s, S8_standsFor, ob_s, S8_told hr.n (by omega) (by decide), ob_s, ep, S8_happensIn hr.n hV _ hp, ob_s]
        by_cases q6 : nI k = nI 6
        · rw [if_pos q6, if_pos q6]
        rw [if_neg q6, if_neg q6]
        by_cases q7 : nI k = nI 7
        · rw [if_pos q7, if_pos q7]
        rw [if_neg q7, if_neg q7]
        by_cases q8 : nI k = nI 8
        · rw [if_pos q8, if_pos q8]
        rw [if_neg q8, if_neg q8]
        by_cases q9 : nI k = nI 9
        · rw [if_pos q9, if_pos q9]
        rw [if_neg q9, if_neg q9]
        rw [nI_eq (by omega) (by decide)] at q6 q7 q8 q9
        rw [S8_told hr.n (by omega) (show k < 6 by omega), ob_s]
    · rw [if_bi0 _ _ h1]
      refine OK_bad h (-2) (r7 s) (fun s1 h3 => ?_)
      rw [S8_isEvent (n8 h3) hV, ob_s, if_bi' _ _ h0, h09, ob_s, if_bi0 _ _ h1, r8]
  · rw [if_bi0 _ _ h0]
    refine OK_bad h (-2) (r7 s) (fun s1 h3 => ?_)
    rw [S8_isEvent (n8 h3) hV, ob_s, if_bi0 _ _ h0, r8]
