/-! undo -/
section UNDO
variable {s : Sg} {t : Nat} {N : Nat → Int32} {ns ne nr np : Nat}
/-- the last that was kept is now -/
def unN (N : Nat → Int32) (j : Nat) : Nat → Int32 := upd (upd (cpR (upd N 4 (nI j)) N 33 (115 + 50 * j) 48) 1 (N (115 + 50 * j + 48))) 2 (N (115 + 50 * j + 49))
theorem unN_o (N : Nat → Int32) (j : Nat) {i : Nat} (h1 : i ≠ 1) (h2 : i ≠ 2) (h4 : i ≠ 4) (h : i < 33 ∨ 81 ≤ i) : unN N j i = N i := by
  unfold unN
  rw [upd_n _ _ h2, upd_n _ _ h1, cpR_o _ _ (by omega), upd_n _ _ h4]
theorem unN_i (N : Nat → Int32) (j : Nat) {i : Nat} (h : i < 48) : unN N j (33 + i) = N (115 + 50 * j + i) := by
  unfold unN
  rw [upd_n _ _ (by omega), upd_n _ _ (by omega), cpR_i _ _ h]
theorem unN_1 (N : Nat → Int32) (j : Nat) : unN N j 1 = N (115 + 50 * j + 48) := by
  unfold unN
  rw [upd_n _ _ (by decide), upd_s]
theorem unN_2 (N : Nat → Int32) (j : Nat) : unN N j 2 = N (115 + 50 * j + 49) := upd_s _ _ _
theorem unN_4 (N : Nat → Int32) (j : Nat) : unN N j 4 = nI j := by
  unfold unN
  rw [upd_n _ _ (by decide), upd_n _ _ (by decide), cpR_o _ _ (by omega), upd_s]
theorem un_VN (hV : VN N ns ne nr (np + 1)) {c : Nat} (hc : N (115 + 50 * np + 48) = nI c) (hc8 : c ≤ 8) : VN (unN N np) ns c nr np := by
  obtain ⟨⟨c0, c1, c3, c4⟩, ⟨b1, b2, b3, b4⟩, vl, vs, ve, vr, vd, vp⟩ := hV
  obtain ⟨c', p1, p2, p3, p4⟩ := vp np (by omega)
  have ec : c' = c := (nI_eq (by omega) (by omega)).mp (p2.symm.trans hc)
  subst ec
  refine ⟨⟨(unN_o _ _ (by decide) (by decide) (by decide) (by omega)).trans c0, (unN_1 _ _).trans p2, (unN_o _ _ (by decide) (by decide) (by decide) (by omega)).trans c3, unN_4 _ _⟩, ⟨b1, p1, b3, by omega⟩, by rw [unN_2]; exact p3, fun i hi => (vs i hi).c (fun k hk => unN_o _ _ (by omega) (by omega) (by omega) (by omega)), fun e he => (p4 e he).c (Nat.le_refl _) (fun k hk => by rw [show 33 + 6 * e + k = 33 + (6 * e + k) by omega, unN_i _ _ (by omega), ← Nat.add_assoc]), fun w hw => by rw [unN_o _ _ (by omega) (by omega) (by omega) (by omega)]; exact vr w hw, fun r hr => (vd r hr).c (Nat.le_refl _) (fun k hk => unN_o _ _ (by omega) (by omega) (by omega) (by omega)), fun j hj => (vp j (by omega)).c (Nat.le_refl _) (fun k hk => unN_o _ _ (by omega) (by omega) (by omega) (by omega))⟩
theorem T_goBack (h : TR s t N ns ne nr (np + 1)) (hT : isT t) : ∃ c s2, f_X5_goBack t s = some s2 ∧ (∀ d, d < t ∨ t + 12 ≤ d → s2 d = s d) ∧ TR s2 t (unN N np) ns c nr np := by
  have ht := hT.lt
  have hk := hT.k
  have ha := hk.2.2.2.2.2.2
  obtain ⟨hV, ⟨r1, r2, r3, r4⟩, tl, ts, te, td, tr, tp⟩ := id h
  obtain ⟨c, c8, pc48, pc49, pev⟩ := hV.2.2.2.2.2.2.2 np (by omega)
  obtain ⟨q1, q2, q3⟩ := tp np (by omega)
  have b4 := hV.2.1.2.2.2
  have b1 := hV.2.1.1
  have b3 := hV.2.1.2.2.1
  have hV2 := un_VN hV pc48 c8
  refine ⟨c, ?_⟩
  unfold f_X5_goBack
  have cell : ∀ (st : Sg) (i : Nat), st (t + 7) = s (t + 7) → st (t + 8) = s (t + 8) → i < 50 → f_X2_cell (t + 7) (nI np) (nI i) st = some (s (t + 8) (50 * np + i)) := by
    intro st i e7 e8 hi
    have rr : RW st (t + 7) 50 (np + 1) := by unfold RW; rw [e7]; exact r4
    rw [S_cell rr hk.2.2.2.1 b4 (by omega) hi, show st (t + 7 + 1) = s (t + 8) from e8, Nat.mul_comm]
  rw [S_size, ob_s, r4.2, nm_eq, nsub (by omega), show np + 1 - 1 = np from rfl, cell s 0 rfl rfl (by decide), ob_s, nm_eq, S_empty, ob_s]
  rw [show 50 * np + 0 = 50 * np from rfl, q1]
  refine lp2_ix (fun o => ∃ s2 : Sg, o = some s2 ∧ (∀ d, d < t ∨ t + 12 ≤ d → s2 d = s d) ∧ TR s2 t (unN N np) ns c nr np) (fun k (st : Sg) => (∀ d, d ≠ t → d ≠ t + 3 → d ≠ t + 4 → d ≠ t + 11 → st d = s d) ∧ st t 7 = N (115 + 50 * np + 49) ∧ RW st (t + 3) 6 k ∧ ∀ i, i < 6 * k → st (t + 4) i = N (115 + 50 * np + i)) 0 c (by omega) ?_ ?_ (by omega) _ ⟨fun d d1 d2 d3 d4 => by rw [sts_n _ _ _ d2, sts_n _ _ _ d1], by rw [sts_n _ _ _ (by omega), sts_s], ⟨by rw [sts_j _ _ _ (by decide), sts_n _ _ _ (by omega)]; exact r2.1, sts_s _ _ _ _⟩, fun i hi => absurd hi (by omega)⟩
  · rintro self k st - h6 ⟨h7, h8, h9, h10⟩
    unfold b_X5_goBack_32
    rw [cell st 1 (h7 _ (by omega) (by omega) (by omega) (by omega)) (h7 _ (by omega) (by omega) (by omega) (by omega)) (by decide), ob_s, q2, pc48, ifle _ _ (by omega) (by omega), if_neg (by omega), nm_eq]
    refine lp2_ix (fun o => (∃ s2 : Sg, o = some s2 ∧ (∀ d, d < t ∨ t + 12 ≤ d → s2 d = s d) ∧ TR s2 t (unN N np) ns c nr np) ∨ ∃ st2 : Sg, o = self (nI (k + 1)) st2 ∧ (∀ d, d ≠ t → d ≠ t + 3 → d ≠ t + 4 → d ≠ t + 11 → st2 d = s d) ∧ st2 t 7 = N (115 + 50 * np + 49) ∧ RW st2 (t + 3) 6 (k + 1) ∧ ∀ i, i < 6 * (k + 1) → st2 (t + 4) i = N (115 + 50 * np + i)) (fun m (su : Sg) => (∀ d, d ≠ t + 11 → su d = st d) ∧ ∀ i, i < m → su (t + 11) i = N (115 + 50 * np + (6 * k + i))) 0 6 (by omega) ?_ ?_ (by omega) _ ⟨fun _ _ => rfl, fun i hi => absurd hi (by omega)⟩
    · rintro self2 m su - g6 ⟨g7, g8⟩
      right
      unfold b_X5_goBack_47
      rw [ifle _ _ (by omega) (by omega), if_neg (by omega), nmul, nadd, nadd, show 2 + k * 6 + m = 2 + (6 * k + m) by omega, cell su _ ((g7 _ (by omega)).trans (h7 _ (by omega) (by omega) (by omega) (by omega))) ((g7 _ (by omega)).trans (h7 _ (by omega) (by omega) (by omega) (by omega))) (by omega), ob_s, as _ (t + 11) _ (by omega), ob_s, nadd]
      refine ⟨_, rfl, fun d hd => by rw [sts_n _ _ _ hd]; exact g7 d hd, fun i hi => ?_⟩
      by_cases q : i = m
      · subst q
        rw [sts_s, ← Nat.add_assoc]
        exact q3 c _ pc48 c8 (by omega)
      · rw [sts_j _ _ _ q]; exact g8 i (by omega)
    · rintro self2 su ⟨g7, g8⟩
      right
      unfold b_X5_goBack_47
      rw [ifle _ _ (by omega) (by omega), if_pos (by omega)]
      dsimp only
      have rr : RW su (t + 3) 6 k := by unfold RW; rw [g7 _ (by omega)]; exact h9
      obtain ⟨s5, e1, e2⟩ := S_add (c := t + 11) rr hk.2.1 (by omega) (by omega) (by omega) (by omega)
      have e3 := e2.w rr
      obtain ⟨f1, f2, f3, f4⟩ := e2
      rw [e1, ob_s, nadd]
      refine ⟨s5, rfl, fun d d1 d2 d3 d4 => ?_, ?_, e3, fun i hi => ?_⟩
      · rw [f1 d d2 d3, g7 d d4, h7 d d1 d2 d3 d4]
      · rw [f1 t (by omega) (by omega), g7 t (by omega)]; exact h8
      · rw [show s5 (t + 4) = _ from f4]
        unfold insF
        by_cases q : i < k * 6
        · rw [if_pos q, show t + 3 + 1 = t + 4 from rfl, g7 _ (by omega)]
          exact h10 i (by omega)
        · rw [if_neg q, if_pos (by omega), g8 _ (by omega)]
          congr 1
          omega
  · rintro self st ⟨h7, h8, h9, h10⟩
    unfold b_X5_goBack_32
    rw [cell st 1 (h7 _ (by omega) (by omega) (by omega) (by omega)) (h7 _ (by omega) (by omega) (by omega) (by omega)) (by decide), ob_s, q2, pc48, ifle _ _ (by omega) (by omega), if_pos (by omega)]
    have rr : RW st (t + 7) 50 (np + 1) := by unfold RW; rw [h7 _ (by omega) (by omega) (by omega) (by omega)]; exact r4
    obtain ⟨s5, e1, e2⟩ := S_drop rr hk.2.2.2.1 b4 (show np < np + 1 by omega)
    have e3 := e2.w rr
    obtain ⟨f1, f2, f3, f4⟩ := e2
    rw [e1, ob_s]
    have fo : ∀ d, d ≠ t → d ≠ t + 3 → d ≠ t + 4 → d ≠ t + 7 → d ≠ t + 8 → d ≠ t + 11 → s5 d = s d := fun d d1 d2 d3 d4 d5 d6 => (f1 d d4 d5).trans (h7 d d1 d2 d3 d6)
    have f8 : ∀ i, i < 50 * np → s5 (t + 8) i = s (t + 8) i := by
      intro i hi
      rw [show s5 (t + 8) = _ from f4]
      unfold drpF
      rw [if_pos (by omega), show t + 7 + 1 = t + 8 from rfl, h7 _ (by omega) (by omega) (by omega) (by omega)]
    refine ⟨s5, rfl, fun d hd => fo d (by omega) (by omega) (by omega) (by omega) (by omega) (by omega), hV2, ⟨?_, ?_, ?_, ?_⟩, ?_, fun i hi => ?_, fun i hi => ?_, fun i hi => ?_, fun w hw => ?_, fun j hj => ?_⟩
    · unfold RW; rw [fo _ (by omega) (by omega) (by omega) (by omega) (by omega) (by omega)]; exact r1
    · unfold RW; rw [f1 _ (by omega) (by omega)]; exact h9
    · unfold RW; rw [fo _ (by omega) (by omega) (by omega) (by omega) (by omega) (by omega)]; exact r3
    · exact e3
    · rw [f1 _ (by omega) (by omega), h8, unN_2]
    · rw [fo _ (by omega) (by omega) (by omega) (by omega) (by omega) (by omega), unN_o _ _ (by omega) (by omega) (by omega) (by omega)]; exact ts i hi
    · rw [f1 _ (by omega) (by omega), h10 i hi, unN_i _ _ (by omega)]
    · rw [fo _ (by omega) (by omega) (by omega) (by omega) (by omega) (by omega), unN_o _ _ (by omega) (by omega) (by omega) (by omega)]; exact td i hi
    · rw [fo _ (by omega) (by omega) (by omega) (by omega) (by omega) (by omega), unN_o _ _ (by omega) (by omega) (by omega) (by omega)]; exact tr w hw
    · obtain ⟨p1, p2, p3⟩ := tp j (by omega)
      refine ⟨?_, ?_, fun c2 i y1 y2 y3 => ?_⟩
      · rw [f8 _ (by omega), unN_o _ _ (by omega) (by omega) (by omega) (by omega)]; exact p1
      · rw [f8 _ (by omega), unN_o _ _ (by omega) (by omega) (by omega) (by omega)]; exact p2
      · rw [unN_o _ _ (by omega) (by omega) (by omega) (by omega)] at y1
        rw [f8 _ (by omega), unN_o _ _ (by omega) (by omega) (by omega) (by omega)]; exact p3 c2 i y1 y2 y3
end UNDO
theorem OK_undo {s : Sg} (h : REL s) : OKop (f_X7_undo s) f_X8_undo := by
  obtain ⟨ns, ne, nr, np, hT⟩ := h.1
  have hV := hT.1
  have hnp := hV.2.1.2.2.2
  unfold f_X7_undo
  rw [S_size, ob_s, show s 8 2 = nI np from hT.2.1.2.2.2.2]
  by_cases h0 : np = 0
  · subst h0
    rw [if_pos (show nI 0 = 0 from rfl)]
    refine OK_ref h 1 (by decide) (-3) rfl (fun s1 h6 => ?_)
    unfold f_X8_undo
    rw [ag _ 71 (by decide) (by decide), ob_s, n8 h6, hV.1.2.2.2, if_pos (show nI 0 = 0 from rfl), ob2_eta, S8_no]
  · rw [if_neg (nI_ne0 (by omega) (by omega))]
    obtain ⟨j, rfl⟩ : ∃ j, np = j + 1 := ⟨np - 1, by omega⟩
    obtain ⟨c, s2, e1, e2, e3⟩ := T_goBack hT T1
    have e71 : s2 71 = s 71 := e2 71 (by decide)
    rw [e1, ob_s, S_size, ob_s, show s2 4 2 = nI c from e3.2.1.2.1.2]
    have hc : (s 71) (115 + 50 * j + 48) = nI c := (unN_1 _ _).symm.trans e3.1.1.2.1
    have main : ∃ s4, f_X8_undo s2 = some (nI c, s4) ∧ (∀ d, d ≠ 71 → s4 d = s2 d) ∧ s4 71 = unN (s 71) j := by
      unfold f_X8_undo
      rw [ag _ 71 (by decide) (by decide), ob_s, e71, hV.1.2.2.2, if_neg (nI_ne0 (by omega) (by omega)), ob_s, nsub (by omega), as _ 71 _ (by decide), ob_s, ag _ 71 (by decide) (by decide), ob_s, sts_s, nmul, nadd, nm_eq, nm_eq, show j + 1 - 1 = j from rfl]
      refine lp2_ix (fun o => ∃ s4 : Sg, o = some (nI c, s4) ∧ (∀ d, d ≠ 71 → s4 d = s2 d) ∧ s4 71 = unN (s 71) j) (fun k (st : Sg) => (∀ d, d ≠ 71 → st d = s2 d) ∧ st 71 = cpR (upd (s 71) 4 (nI j)) (s 71) 33 (115 + 50 * j) k) 0 48 (by omega) ?_ ?_ (by omega) _ ⟨fun d hd => sts_n _ _ _ hd, by rw [sts_c, e71, cpR_0]⟩
      · rintro self k st - h6 ⟨h7, h8⟩
        right
        unfold b_X8_undo_39
        rw [ifle _ _ (by omega) (by omega), if_neg (by omega), nadd, nadd, ag _ 71 (show 115 + 50 * j + k < 515 by omega) (by omega), ob_s, as _ 71 _ (show 33 + k < 515 by omega), ob_s, nadd]
        refine ⟨_, rfl, fun d hd => by rw [sts_n _ _ _ hd]; exact h7 d hd, ?_⟩
        rw [sts_c, h8, cpR_o _ _ (by omega), upd_n _ _ (by omega), cpR_s]
      · rintro self st ⟨h7, h8⟩
        unfold b_X8_undo_39
        rw [ifle _ _ (by omega) (by omega), if_pos (by omega)]
        dsimp only
        have v48 : st 71 (115 + 50 * j + 48) = (s 71) (115 + 50 * j + 48) := by rw [h8, cpR_o _ _ (by omega), upd_n _ _ (by omega)]
        have v49 : st 71 (115 + 50 * j + 49) = (s 71) (115 + 50 * j + 49) := by rw [h8, cpR_o _ _ (by omega), upd_n _ _ (by omega)]
        rw [nadd, ag _ 71 (show 115 + 50 * j + 48 < 515 by omega) (by omega), ob_s, as _ 71 _ (by decide), ob_s, nadd, ag _ 71 (show 115 + 50 * j + 49 < 515 by omega) (by omega), ob_s, as _ 71 _ (by decide), ob_s]
        unfold f_X8_events
        rw [ag _ 71 (by decide) (by decide), ob_s, ob_s, sts_j _ _ _ (by decide), sts_s, v48, hc]
        refine ⟨_, rfl, fun d hd => by rw [sts_n _ _ _ hd, sts_n _ _ _ hd]; exact h7 d hd, ?_⟩
        rw [sts_c, sts_c, upd_n _ _ (by omega), v49, h8]
        unfold unN
        rw [hc]
    obtain ⟨s4, m1, m2, m3⟩ := main
    refine ⟨_, s2, s4, rfl, m1, h.mk (fun d c1 c2 c3 => ?_) ⟨ns, c, nr, j, ?_⟩⟩
    · rw [m2 d c3, e2 d (by omega)]
    · rw [m3]
      exact e3.fr (fun d c1 c2 => m2 d (by omega))
