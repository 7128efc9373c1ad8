/-! what is remembered: component and reference -/
theorem div6 : ∀ i, i < 48 → nI i / nI 6 = nI (i / 6) ∧ nI i - nI i / nI 6 * nI 6 = nI (i % 6) := by decide +kernel
section KEEP
variable {s : Sg} {t : Nat} {N : Nat → Int32} {ns ne nr np : Nat}
/-- the past pushed by one when it is full -/
def pshN (N : Nat → Int32) (np : Nat) : Nat → Int32 := if np = 8 then cpR N N 115 165 350 else N
def pshn (np : Nat) : Nat := if np = 8 then 7 else np
/-- now kept -/
def kpN (N : Nat → Int32) (np : Nat) : Nat → Int32 := upd (upd (upd (cpR (pshN N np) N (115 + 50 * pshn np) 33 48) (115 + 50 * pshn np + 48) (N 1)) (115 + 50 * pshn np + 49) (N 2)) 4 (nI (pshn np + 1))
theorem pshn_le (h : np ≤ 8) : pshn np ≤ 7 := by unfold pshn; split <;> omega
theorem pshN_lo (N : Nat → Int32) (np : Nat) {i : Nat} (h : i < 115) : pshN N np i = N i := by
  unfold pshN
  split
  · exact cpR_o _ _ (Or.inl h)
  · rfl
theorem kpN_lo (N : Nat → Int32) (np : Nat) {i : Nat} (h : i < 115) (h4 : i ≠ 4) : kpN N np i = N i := by
  unfold kpN
  rw [upd_n _ _ h4, upd_n _ _ (by omega), upd_n _ _ (by omega), cpR_o _ _ (by omega), pshN_lo _ _ h]
theorem kpN_4 (N : Nat → Int32) (np : Nat) : kpN N np 4 = nI (pshn np + 1) := upd_s _ _ _
theorem kpN_top (N : Nat → Int32) (np : Nat) {i : Nat} (h : i < 48) : kpN N np (115 + 50 * pshn np + i) = N (33 + i) := by
  unfold kpN
  rw [upd_n _ _ (by omega), upd_n _ _ (by omega), upd_n _ _ (by omega), cpR_i _ _ h]
theorem kpN_48 (N : Nat → Int32) (np : Nat) : kpN N np (115 + 50 * pshn np + 48) = N 1 := by
  unfold kpN
  rw [upd_n _ _ (by omega), upd_n _ _ (by omega), upd_s]
theorem kpN_49 (N : Nat → Int32) (np : Nat) : kpN N np (115 + 50 * pshn np + 49) = N 2 := by
  unfold kpN
  rw [upd_n _ _ (by omega), upd_s]
/-- where an elder lay before -/
def oj (np j : Nat) : Nat := if np = 8 then j + 1 else j
theorem kpN_old (N : Nat → Int32) {np j i : Nat} (hj : j < pshn np) (hn : np ≤ 8) (hi : i < 50) : kpN N np (115 + 50 * j + i) = N (115 + 50 * oj np j + i) := by
  have h7 := pshn_le hn
  unfold kpN
  rw [upd_n _ _ (by omega), upd_n _ _ (by omega), upd_n _ _ (by omega), cpR_o _ _ (by omega)]
  unfold pshN oj
  by_cases q : np = 8
  · rw [if_pos q, if_pos q, show 115 + 50 * j + i = 115 + (50 * j + i) by omega, cpR_i _ _ (by unfold pshn at hj; rw [if_pos q] at hj; omega)]
    congr 1
    omega
  · rw [if_neg q, if_neg q]
theorem PaOK.c {N M : Nat → Int32} {p q ns ms : Nat} (h : PaOK N p ns) (hm : ns ≤ ms) (e : ∀ k, k < 50 → M (q + k) = N (p + k)) : PaOK M q ms := by
  obtain ⟨c, p1, p2, p3, p4⟩ := h
  refine ⟨c, p1, (e 48 (by decide)).trans p2, by rw [e 49 (by decide)]; exact p3, fun k hk => (p4 k hk).c hm (fun j hj => ?_)⟩
  rw [Nat.add_assoc, e _ (by omega), Nat.add_assoc]
theorem oj_lt {np j : Nat} (hj : j < pshn np) : oj np j < np := by
  unfold pshn at hj
  unfold oj
  split at hj <;> rename_i q
  · rw [if_pos q]; omega
  · rw [if_neg q]; omega
theorem kp_VN (hV : VN N ns ne nr np) : VN (kpN N np) ns ne nr (pshn np + 1) := by
  obtain ⟨⟨c0, c1, c3, c4⟩, ⟨b1, b2, b3, b4⟩, vl, vs, ve, vr, vd, vp⟩ := hV
  have h7 := pshn_le b4
  refine ⟨⟨(kpN_lo _ _ (by decide) (by decide)).trans c0, (kpN_lo _ _ (by decide) (by decide)).trans c1, (kpN_lo _ _ (by decide) (by decide)).trans c3, kpN_4 _ _⟩, ⟨b1, b2, b3, by omega⟩, by rw [kpN_lo _ _ (by decide) (by decide)]; exact vl, fun i hi => (vs i hi).c (fun k hk => kpN_lo _ _ (by omega) (by omega)), fun e he => (ve e he).c (Nat.le_refl _) (fun k hk => kpN_lo _ _ (by omega) (by omega)), fun w hw => by rw [kpN_lo _ _ (by omega) (by omega)]; exact vr w hw, fun r hr => (vd r hr).c (Nat.le_refl _) (fun k hk => kpN_lo _ _ (by omega) (by omega)), fun j hj => ?_⟩
  by_cases q : j = pshn np
  · subst q
    refine ⟨ne, b2, (kpN_48 _ _).trans c1, by rw [kpN_49]; exact vl, fun e he => (ve e he).c (Nat.le_refl _) (fun k hk => ?_)⟩
    rw [Nat.add_assoc, kpN_top _ _ (by omega), Nat.add_assoc]
  · exact (vp (oj np j) (oj_lt (by omega))).c (Nat.le_refl _) (fun k hk => kpN_old _ (by omega) b4 hk)
theorem T_remember (h : TR s t N ns ne nr np) (hT : isT t) : ∃ s2, f_X5_remember t s = some s2 ∧ (∀ d, d ≠ t + 7 → d ≠ t + 8 → d ≠ t + 10 → s2 d = s d) ∧ TR s2 t (kpN N np) ns ne nr (pshn np + 1) := by
  have hk := hT.k
  have ha := hk.2.2.2.2.2.1
  obtain ⟨hV, ⟨r1, r2, r3, r4⟩, tl, ts, te, td, tr, tp⟩ := id h
  obtain ⟨b1, b2, b3, b4⟩ := hV.2.1
  unfold f_X5_remember
  rw [as _ (t + 10) _ (show 0 < alen (t + 10) by omega), ob_s, S_size, ob_s, sts_n _ _ _ (show t + 3 ≠ t + 10 by omega), r2.2, as _ (t + 10) _ (show 1 < alen (t + 10) by omega), ob_s, nm_eq, tl]
  refine lp2_ix (fun o => ∃ s2 : Sg, o = some s2 ∧ (∀ d, d ≠ t + 7 → d ≠ t + 8 → d ≠ t + 10 → s2 d = s d) ∧ TR s2 t (kpN N np) ns ne nr (pshn np + 1)) (fun k (st : Sg) => (∀ d, d ≠ t + 10 → st d = s d) ∧ st (t + 10) 0 = N 2 ∧ st (t + 10) 1 = nI ne ∧ ∀ i, i < k → i < 6 * ne → st (t + 10) (2 + i) = N (33 + i)) 0 48 (by omega) ?_ ?_ (by omega) _ ⟨fun d hd => by rw [sts_n _ _ _ hd, sts_n _ _ _ hd], by rw [sts_j _ _ _ (by decide), sts_s], sts_s _ _ _ _, fun i hi => absurd hi (by omega)⟩
  · rintro self k st - h6 ⟨h7, h8, h9, h10⟩
    right
    obtain ⟨d1, d2⟩ := div6 k h6
    unfold b_X5_remember_25
    have rr : RW st (t + 3) 6 ne := by unfold RW; rw [h7 _ (by omega)]; exact r2
    have hc : ∃ v, f_X2_cell (t + 3) (nI (k / 6)) (nI (k % 6)) st = some v ∧ (k < 6 * ne → v = N (33 + k)) := by
      by_cases q : k / 6 < ne
      · refine ⟨_, S_cell rr hk.2.1 b2 q (Nat.mod_lt _ (by decide)), fun z => ?_⟩
        rw [h7 _ (by omega), show k / 6 * 6 + k % 6 = k by omega]
        exact te k z
      · refine ⟨_, S_cell_out _ rr (by omega) (by omega) (by omega), fun z => ?_⟩
        omega
    obtain ⟨v, hv, hv2⟩ := hc
    rw [ifle _ _ (by omega) (by omega), if_neg (by omega), d2, d1, hv, ob_s, nadd, as _ (t + 10) _ (show 2 + k < alen (t + 10) by omega), ob_s, nadd]
    refine ⟨_, rfl, fun d hd => by rw [sts_n _ _ _ hd]; exact h7 d hd, by rw [sts_j _ _ _ (by omega)]; exact h8, by rw [sts_j _ _ _ (by omega)]; exact h9, fun i i1 i2 => ?_⟩
    by_cases q : i = k
    · subst q; rw [sts_s]; exact hv2 i2
    · rw [sts_j _ _ _ (by omega)]; exact h10 i (by omega) i2
  · rintro self st ⟨h7, h8, h9, h10⟩
    have rr : RW st (t + 7) 50 np := by unfold RW; rw [h7 _ (by omega)]; exact r4
    have main : ∀ z : Sg, (∀ d, d ≠ t + 7 → d ≠ t + 8 → z d = st d) → RW z (t + 7) 50 (pshn np) → (∀ j i, j < pshn np → i < 50 → z (t + 8) (50 * j + i) = s (t + 8) (50 * oj np j + i)) → ∃ s2, f_X2_add (t + 7) (t + 10) z = some s2 ∧ (∀ d, d ≠ t + 7 → d ≠ t + 8 → d ≠ t + 10 → s2 d = s d) ∧ TR s2 t (kpN N np) ns ne nr (pshn np + 1) := by
      intro z zo zr zz
      have h7n := pshn_le b4
      obtain ⟨s5, e1, e2⟩ := S_add (c := t + 10) zr hk.2.2.2.1 (by omega) (by omega) (by omega) (by omega)
      have e3 := e2.w zr
      obtain ⟨f1, f2, f3, f4⟩ := e2
      have z10 : z (t + 10) = st (t + 10) := zo _ (by omega) (by omega)
      have fo : ∀ d, d ≠ t + 7 → d ≠ t + 8 → d ≠ t + 10 → s5 d = s d := fun d d1 d2 d3 => ((f1 d d1 d2).trans (zo d d1 d2)).trans (h7 d d3)
      refine ⟨s5, e1, fo, kp_VN hV, ⟨?_, ?_, ?_, e3⟩, ?_, fun i hi => ?_, fun i hi => ?_, fun i hi => ?_, fun w hw => ?_, fun j hj => ?_⟩
      · unfold RW; rw [fo _ (by omega) (by omega) (by omega)]; exact r1
      · unfold RW; rw [fo _ (by omega) (by omega) (by omega)]; exact r2
      · unfold RW; rw [fo _ (by omega) (by omega) (by omega)]; exact r3
      · rw [fo _ (by omega) (by omega) (by omega), kpN_lo _ _ (by omega) (by omega)]; exact tl
      · rw [fo _ (by omega) (by omega) (by omega), kpN_lo _ _ (by omega) (by omega)]; exact ts i hi
      · rw [fo _ (by omega) (by omega) (by omega), kpN_lo _ _ (by omega) (by omega)]; exact te i hi
      · rw [fo _ (by omega) (by omega) (by omega), kpN_lo _ _ (by omega) (by omega)]; exact td i hi
      · rw [fo _ (by omega) (by omega) (by omega), kpN_lo _ _ (by omega) (by omega)]; exact tr w hw
      · have f8 : s5 (t + 8) = insF (z (t + 8)) (st (t + 10)) (pshn np) 50 (pshn np) := by rw [← z10]; exact f4
        by_cases q : j = pshn np
        · subst q
          refine ⟨?_, ?_, fun c i q1 q2 q3 => ?_⟩
          · rw [f8, kpN_49]
            unfold insF
            rw [if_neg (by omega), if_pos (by omega), show 50 * pshn np - pshn np * 50 = 0 by omega, h8]
          · rw [f8, kpN_48]
            unfold insF
            rw [if_neg (by omega), if_pos (by omega), show 50 * pshn np + 1 - pshn np * 50 = 1 by omega, h9]
            exact hV.1.2.1.symm
          · rw [kpN_48] at q1
            have q4 : c = ne := (nI_eq (by omega) (by omega)).mp (q1.symm.trans hV.1.2.1)
            subst q4
            rw [f8, kpN_top _ _ (by omega)]
            unfold insF
            rw [if_neg (by omega), if_pos (by omega), show 50 * pshn np + 2 + i - pshn np * 50 = 2 + i by omega]
            exact h10 i (by omega) (by omega)
        · have old : ∀ i, i < 50 → s5 (t + 8) (50 * j + i) = s (t + 8) (50 * oj np j + i) := by
            intro i hi
            rw [f8]
            unfold insF
            rw [if_pos (by omega)]
            exact zz j i (by omega) hi
          obtain ⟨p1, p2, p3⟩ := tp (oj np j) (oj_lt (by omega))
          refine ⟨?_, ?_, fun c i q1 q2 q3 => ?_⟩
          · have h0 : s5 (t + 8) (50 * j) = s (t + 8) (50 * oj np j) := old 0 (by decide)
            rw [h0, kpN_old _ (by omega) b4 (by decide)]; exact p1
          · rw [old 1 (by decide), kpN_old _ (by omega) b4 (by decide)]; exact p2
          · rw [kpN_old _ (by omega) b4 (by decide)] at q1
            rw [Nat.add_assoc, old _ (by omega), kpN_old _ (by omega) b4 (by omega), ← Nat.add_assoc]
            exact p3 c i q1 q2 q3
    unfold b_X5_remember_25
    rw [ifle _ _ (by omega) (by omega), if_pos (by omega)]
    dsimp only
    rw [S_isFull rr hk.2.2.2.1 b4, ob_s]
    by_cases q : np = 8
    · rw [if_bi' _ _ q]
      have hs : pshn np = 7 := by unfold pshn; rw [if_pos q]
      obtain ⟨z, g1, g2⟩ := S_drop rr hk.2.2.2.1 b4 (show 0 < np by omega)
      have g3 := g2.w rr
      obtain ⟨k1, k2, k3, k4⟩ := g2
      rw [g1, ob_s]
      obtain ⟨s2, m1, m2, m3⟩ := main z k1 (by rw [hs]; rw [show np - 1 = 7 by omega] at g3; exact g3) (fun j i hj hi => by
        rw [hs] at hj
        have : z (t + 8) = drpF (st (t + 8)) 0 50 np := k4
        rw [this, h7 _ (by omega)]
        unfold drpF oj
        rw [if_neg (by omega), if_pos (by omega), if_pos q]
        congr 1
        omega)
      rw [m1, ob_s]
      exact ⟨s2, rfl, m2, m3⟩
    · rw [if_bi0 _ _ q]
      have hs : pshn np = np := by unfold pshn; rw [if_neg q]
      obtain ⟨s2, m1, m2, m3⟩ := main st (fun _ _ _ => rfl) (by rw [hs]; exact rr) (fun j i hj hi => by
        rw [h7 _ (by omega)]
        unfold oj
        rw [if_neg q])
      rw [m1, ob_s]
      exact ⟨s2, rfl, m2, m3⟩
theorem S8_keep (h : s 71 = N) (hV : VN N ns ne nr np) : ∃ s2, f_X8_keep s = some s2 ∧ (∀ d, d ≠ 71 → s2 d = s d) ∧ s2 71 = kpN N np := by
  obtain ⟨⟨c0, c1, c3, c4⟩, ⟨b1, b2, b3, b4⟩, _⟩ := id hV
  have h7n := pshn_le b4
  have main : ∀ z : Sg, (∀ d, d ≠ 71 → z d = s d) → z 71 = upd (pshN N np) 4 (nI (pshn np)) → ∃ s2, ((aget z 71 (nI 4)).bind fun v4 => nm_ ((nI 115) + ((nI 50) * v4)) fun v5 => nm_ (fun (s6 : Sg) => (f_X8_events s6).bind fun v8 => (aset s6 71 (v5 + (nI 48)) v8).bind fun s9 => (aget s9 71 (nI 2)).bind fun v10 => (aset s9 71 (v5 + (nI 49)) v10).bind fun s11 => (aget s11 71 (nI 4)).bind fun v12 => (aset s11 71 (nI 4) (v12 + (nI 1))).bind fun s13 => some s13) fun j7 => lp2_ (b_X8_keep_68 j7 v5) fu (nI 0) z) = some s2 ∧ (∀ d, d ≠ 71 → s2 d = s d) ∧ s2 71 = kpN N np := by
    intro z zo z71
    have zlo : ∀ i, i < 115 → i ≠ 4 → z 71 i = N i := fun i i1 i2 => by rw [z71, upd_n _ _ i2, pshN_lo _ _ i1]
    rw [ag _ 71 (by decide) (by decide), ob_s, nm_eq, nm_eq, z71, upd_s, nmul, nadd]
    refine lp2_ix (fun o => ∃ s2 : Sg, o = some s2 ∧ (∀ d, d ≠ 71 → s2 d = s d) ∧ s2 71 = kpN N np) (fun k (st : Sg) => (∀ d, d ≠ 71 → st d = s d) ∧ st 71 = cpR (z 71) N (115 + 50 * pshn np) 33 k) 0 48 (by omega) ?_ ?_ (by omega) _ ⟨zo, (cpR_0 _ _ _ _).symm⟩
    · rintro self k st - h6 ⟨h7, h8⟩
      right
      unfold b_X8_keep_68
      rw [ifle _ _ (by omega) (by omega), if_neg (by omega), nadd, ag _ 71 (show 33 + k < 515 by omega) (by omega), ob_s, nadd, as _ 71 _ (show 115 + 50 * pshn np + k < 515 by omega), ob_s, nadd]
      refine ⟨_, rfl, fun d hd => by rw [sts_n _ _ _ hd]; exact h7 d hd, ?_⟩
      rw [sts_c, h8, cpR_o _ _ (by omega), zlo _ (by omega) (by omega), cpR_s]
    · rintro self st ⟨h7, h8⟩
      unfold b_X8_keep_68
      rw [ifle _ _ (by omega) (by omega), if_pos (by omega)]
      have e1 : st 71 1 = N 1 := by rw [h8, cpR_o _ _ (by omega), zlo _ (by omega) (by omega)]
      have e2 : st 71 2 = N 2 := by rw [h8, cpR_o _ _ (by omega), zlo _ (by omega) (by omega)]
      have e4 : st 71 4 = nI (pshn np) := by rw [h8, cpR_o _ _ (by omega), z71, upd_s]
      unfold f_X8_events
      dsimp only
      rw [ag _ 71 (by decide) (by decide), ob_s, ob_s, nadd, as _ 71 _ (show 115 + 50 * pshn np + 48 < 515 by omega), ob_s, ag _ 71 (by decide) (by decide), ob_s, nadd, as _ 71 _ (show 115 + 50 * pshn np + 49 < 515 by omega), ob_s, ag _ 71 (by decide) (by decide), ob_s, as _ 71 _ (by decide), ob_s]
      refine ⟨_, rfl, fun d hd => by rw [sts_n _ _ _ hd, sts_n _ _ _ hd, sts_n _ _ _ hd]; exact h7 d hd, ?_⟩
      rw [sts_c, sts_c, sts_c, upd_n _ _ (by omega), upd_n _ _ (by omega), upd_n _ _ (by omega), e1, e2, e4, nadd, h8, z71]
      funext i
      unfold kpN
      by_cases q4 : i = 4
      · rw [q4, upd_s, upd_s]
      rw [upd_n _ _ q4, upd_n _ _ q4]
      unfold upd
      by_cases q : i = 115 + 50 * pshn np + 49
      · rw [if_pos q, if_pos q]
      rw [if_neg q, if_neg q]
      by_cases q2 : i = 115 + 50 * pshn np + 48
      · rw [if_pos q2, if_pos q2]
      rw [if_neg q2, if_neg q2]
      unfold cpR
      dsimp only
      rw [if_neg q4]
  unfold f_X8_keep
  rw [ag _ 71 (by decide) (by decide), ob_s, h, c4, nm_eq, ife _ _ (by omega) (by decide)]
  by_cases q : np = 8
  · rw [if_pos q, nm_eq]
    have hs : pshn np = 7 := by unfold pshn; rw [if_pos q]
    have hs2 : pshN N np = cpR N N 115 165 350 := by unfold pshN; rw [if_pos q]
    refine lp2_ix (fun o => ∃ s2 : Sg, o = some s2 ∧ (∀ d, d ≠ 71 → s2 d = s d) ∧ s2 71 = kpN N np) (fun k (st : Sg) => (∀ d, d ≠ 71 → st d = s d) ∧ st 71 = cpR N N 115 165 k) 0 350 (by omega) ?_ ?_ (by omega) _ ⟨fun _ _ => rfl, by rw [cpR_0]; exact h⟩
    · rintro self k st - h6 ⟨h7, h8⟩
      right
      unfold b_X8_keep_13
      rw [ifle _ _ (by omega) (by omega), if_neg (by omega), nadd, ag _ 71 (show 165 + k < 515 by omega) (by omega), ob_s, nadd, as _ 71 _ (show 115 + k < 515 by omega), ob_s, nadd]
      refine ⟨_, rfl, fun d hd => by rw [sts_n _ _ _ hd]; exact h7 d hd, ?_⟩
      rw [sts_c, h8, cpR_o _ _ (by omega), cpR_s]
    · rintro self st ⟨h7, h8⟩
      unfold b_X8_keep_13
      rw [ifle _ _ (by omega) (by omega), if_pos (by omega)]
      dsimp only
      rw [as _ 71 _ (by decide), ob_s]
      exact main _ (fun d hd => by rw [sts_n _ _ _ hd]; exact h7 d hd) (by rw [sts_c, h8, hs, hs2])
  · rw [if_neg q]
    have hs : pshn np = np := by unfold pshn; rw [if_neg q]
    have hs2 : pshN N np = N := by unfold pshN; rw [if_neg q]
    refine main s (fun _ _ => rfl) ?_
    rw [h, hs, hs2]
    funext i
    unfold upd
    by_cases q4 : i = 4
    · rw [if_pos q4, q4, c4]
    · rw [if_neg q4]
end KEEP
