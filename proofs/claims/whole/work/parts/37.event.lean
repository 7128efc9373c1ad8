/-! event, back, law -/
section EVT
variable {s : Sg} {t : Nat} {N : Nat → Int32} {ns ne nr np : Nat}
def evtN (N : Nat → Int32) (ne : Nat) (r : Nat → Int32) : Nat → Int32 := fun i => if i = 1 then nI (ne + 1) else if 33 + 6 * ne ≤ i ∧ i < 33 + 6 * ne + 6 then r (i - (33 + 6 * ne)) else N i
theorem evtN_o (N : Nat → Int32) (ne : Nat) (r : Nat → Int32) {i : Nat} (h1 : i ≠ 1) (h : i < 33 + 6 * ne ∨ 33 + 6 * ne + 6 ≤ i) : evtN N ne r i = N i := by
  unfold evtN
  rw [if_neg h1, if_neg (by omega)]
theorem evtN_i (N : Nat → Int32) (ne : Nat) (r : Nat → Int32) {k : Nat} (h : k < 6) : evtN N ne r (33 + 6 * ne + k) = r k := by
  unfold evtN
  rw [if_neg (by omega), if_pos (by omega)]
  congr 1
  omega
theorem T_addE (h : TR s t N ns ne nr np) (hT : isT t) (hn : ne < 8) {c : Nat} (hc : 49 ≤ c) (hcl : alen c = 6) (hf : fitA 2 (s c) ns) : ∃ s2, f_X2_add (t + 3) c s = some s2 ∧ (∀ d, d ≠ t + 3 → d ≠ t + 4 → s2 d = s d) ∧ TR s2 t (evtN N ne (s c)) ns (ne + 1) nr np := by
  have ht := hT.lt
  obtain ⟨⟨⟨c0, c1, c3, c4⟩, ⟨b1, b2, b3, b4⟩, vl, vs, ve, vr, vd, vp⟩, ⟨r1, r2, r3, r4⟩, tl, ts, te, td, tr, tp⟩ := id h
  obtain ⟨s5, e1, e2⟩ := S_add r2 hT.k.2.1 hn (c := c) (by omega) (by omega) (by omega)
  have e3 := e2.w r2
  obtain ⟨f1, f2, f3, f4⟩ := e2
  have fo : ∀ d, d ≠ t + 3 → d ≠ t + 4 → s5 d = s d := fun d d1 d2 => f1 d d1 d2
  have hF := (fit2_iff _ _).mp hf
  refine ⟨s5, e1, fo, ⟨⟨?_, rfl, ?_, ?_⟩, ⟨b1, by omega, b3, b4⟩, ?_, fun i hi => ?_, fun e he => ?_, fun w hw => ?_, fun r hr => ?_, fun j hj => ?_⟩, ⟨?_, e3, ?_, ?_⟩, ?_, fun i hi => ?_, fun i hi => ?_, fun i hi => ?_, fun w hw => ?_, fun j hj => ?_⟩
  · rw [evtN_o _ _ _ (by decide) (by omega)]; exact c0
  · rw [evtN_o _ _ _ (by decide) (by omega)]; exact c3
  · rw [evtN_o _ _ _ (by decide) (by omega)]; exact c4
  · rw [evtN_o _ _ _ (by decide) (by omega)]; exact vl
  · exact (vs i hi).c (fun k hk => evtN_o _ _ _ (by omega) (by omega))
  · by_cases q : e = ne
    · subst q
      have e : EvOK (s c) 0 ns := ⟨rngB (by decide) hF.1, rngB (by omega) hF.2.1, rngB (by decide) hF.2.2.1, rngB (by decide) hF.2.2.2.1, rngB (by decide) hF.2.2.2.2.1, rngB (by decide) hF.2.2.2.2.2⟩
      exact e.c (Nat.le_refl _) (fun k hk => by rw [evtN_i _ _ _ hk, Nat.zero_add])
    · exact (ve e (by omega)).c (Nat.le_refl _) (fun k hk => evtN_o _ _ _ (by omega) (by omega))
  · rw [evtN_o _ _ _ (by omega) (by omega)]; exact vr w hw
  · exact (vd r hr).c (Nat.le_refl _) (fun k hk => evtN_o _ _ _ (by omega) (by omega))
  · exact (vp j hj).c (Nat.le_refl _) (fun k hk => evtN_o _ _ _ (by omega) (by omega))
  · unfold RW; rw [fo _ (by omega) (by omega)]; exact r1
  · unfold RW; rw [fo _ (by omega) (by omega)]; exact r3
  · unfold RW; rw [fo _ (by omega) (by omega)]; exact r4
  · rw [fo _ (by omega) (by omega), evtN_o _ _ _ (by decide) (by omega)]; exact tl
  · rw [fo _ (by omega) (by omega), evtN_o _ _ _ (by omega) (by omega)]; exact ts i hi
  · rw [show s5 (t + 4) = _ from f4]
    unfold insF
    by_cases q : i < ne * 6
    · rw [if_pos q, evtN_o _ _ _ (by omega) (by omega)]
      exact te i (by omega)
    · rw [if_neg q, if_pos (by omega), show 33 + i = 33 + 6 * ne + (i - ne * 6) by omega, evtN_i _ _ _ (by omega)]
  · rw [fo _ (by omega) (by omega), evtN_o _ _ _ (by omega) (by omega)]; exact td i hi
  · rw [fo _ (by omega) (by omega), evtN_o _ _ _ (by omega) (by omega)]; exact tr w hw
  · obtain ⟨p1, p2, p3⟩ := tp j hj
    refine ⟨?_, ?_, fun c2 i q1 q2 q3 => ?_⟩
    · rw [fo _ (by omega) (by omega), evtN_o _ _ _ (by omega) (by omega)]; exact p1
    · rw [fo _ (by omega) (by omega), evtN_o _ _ _ (by omega) (by omega)]; exact p2
    · rw [evtN_o _ _ _ (by omega) (by omega)] at q1
      rw [fo _ (by omega) (by omega), evtN_o _ _ _ (by omega) (by omega)]; exact p3 c2 i q1 q2 q3
theorem T_event (h : TR s t N ns ne nr np) (hT : isT t) (hn : ne < 8) {c : Nat} (hc : 49 ≤ c) (hcl : alen c = 6) (hf : fitA 2 (s c) ns) : ∃ s2, f_X5_take t (nI 2) c s = some (nI ne, s2) ∧ (∀ d, d < t ∨ t + 12 ≤ d → s2 d = s d) ∧ TR s2 t (evtN (kpN N np) ne (s c)) ns (ne + 1) nr (pshn np + 1) := by
  have ht := hT.lt
  obtain ⟨s1, e1, e2, e3⟩ := T_remember h hT
  have ec : s1 c = s c := e2 c (by omega) (by omega) (by omega)
  obtain ⟨s2, f1, f2, f3⟩ := T_addE e3 hT hn hc hcl (by rw [ec]; exact hf)
  rw [ec] at f3
  unfold f_X5_take
  rw [if_neg (by decide), if_neg (by decide), if_pos rfl, e1, ob_s, f1, ob_s, S_size, ob_s, f3.2.1.2.1.2, nsub (by omega)]
  exact ⟨s2, rfl, fun d hd => (f2 d (by omega) (by omega)).trans (e2 d (by omega) (by omega) (by omega)), f3⟩
theorem S8_layEvent {c ne : Nat} (hc : 115 ≤ alen c) (h0 : s c 1 = nI ne) (hn : ne < 8) (x y z w u v : Int32) : ∃ s2, f_X8_layEvent c x y z w u v s = some s2 ∧ (∀ d, d ≠ c → s2 d = s d) ∧ s2 c = upd (upd (upd (upd (upd (upd (upd (s c) (33 + 6 * ne) x) (33 + 6 * ne + 1) y) (33 + 6 * ne + 2) z) (33 + 6 * ne + 3) w) (33 + 6 * ne + 4) u) (33 + 6 * ne + 5) v) 1 (nI (ne + 1)) := by
  unfold f_X8_layEvent
  rw [ag _ c (show 1 < alen c by omega) (by decide), ob_s, h0, nmul, nadd, nm_eq, nadd, nadd, nadd, nadd, nadd, nadd, as _ c _ (show 33 + 6 * ne + 0 < alen c by omega), ob_s, as _ c _ (show 33 + 6 * ne + 1 < alen c by omega), ob_s, as _ c _ (show 33 + 6 * ne + 2 < alen c by omega), ob_s, as _ c _ (show 33 + 6 * ne + 3 < alen c by omega), ob_s, as _ c _ (show 33 + 6 * ne + 4 < alen c by omega), ob_s, as _ c _ (show 33 + 6 * ne + 5 < alen c by omega), ob_s, ag _ c (show 1 < alen c by omega) (by decide), ob_s, as _ c _ (show 1 < alen c by omega), ob_s]
  refine ⟨_, rfl, fun d hd => ?_, ?_⟩
  · rw [sts_n _ _ _ hd, sts_n _ _ _ hd, sts_n _ _ _ hd, sts_n _ _ _ hd, sts_n _ _ _ hd, sts_n _ _ _ hd, sts_n _ _ _ hd]
  · rw [sts_c, sts_c, sts_c, sts_c, sts_c, sts_c, sts_c, upd_n _ _ (by omega), upd_n _ _ (by omega), upd_n _ _ (by omega), upd_n _ _ (by omega), upd_n _ _ (by omega), upd_n _ _ (by omega), h0, nadd]
    rfl
theorem evt_lay (N : Nat → Int32) (ne : Nat) (r : Nat → Int32) : upd (upd (upd (upd (upd (upd (upd N (33 + 6 * ne) (r 0)) (33 + 6 * ne + 1) (r 1)) (33 + 6 * ne + 2) (r 2)) (33 + 6 * ne + 3) (r 3)) (33 + 6 * ne + 4) (r 4)) (33 + 6 * ne + 5) (r 5)) 1 (nI (ne + 1)) = evtN N ne r := by
  funext i
  unfold evtN
  by_cases q0 : i = 1
  · rw [if_pos q0, q0, upd_s]
  rw [upd_n _ _ q0, if_neg q0]
  by_cases q : 33 + 6 * ne ≤ i ∧ i < 33 + 6 * ne + 6
  · rw [if_pos q]
    obtain ⟨k, hk, rfl⟩ : ∃ k, k < 6 ∧ i = 33 + 6 * ne + k := ⟨i - (33 + 6 * ne), by omega, by omega⟩
    rw [Nat.add_sub_cancel_left]
    match k, hk with
    | 0, _ => rw [upd_n _ _ (by omega), upd_n _ _ (by omega), upd_n _ _ (by omega), upd_n _ _ (by omega), upd_n _ _ (by omega)]; exact upd_s _ _ _
    | 1, _ => rw [upd_n _ _ (by omega), upd_n _ _ (by omega), upd_n _ _ (by omega), upd_n _ _ (by omega), upd_s]
    | 2, _ => rw [upd_n _ _ (by omega), upd_n _ _ (by omega), upd_n _ _ (by omega), upd_s]
    | 3, _ => rw [upd_n _ _ (by omega), upd_n _ _ (by omega), upd_s]
    | 4, _ => rw [upd_n _ _ (by omega), upd_s]
    | 5, _ => rw [upd_s]
  · rw [if_neg q, upd_n _ _ (by omega), upd_n _ _ (by omega), upd_n _ _ (by omega), upd_n _ _ (by omega), upd_n _ _ (by omega), upd_n _ _ (by omega)]
/-- an event dropped -/
def drE (N : Nat → Int32) (ne e : Nat) : Nat → Int32 := upd (cpR N N (33 + 6 * e) (33 + 6 * e + 6) (42 - 6 * e)) 1 (nI (ne - 1))
theorem drE_o (N : Nat → Int32) (ne e : Nat) {i : Nat} (h1 : i ≠ 1) (h : i < 33 + 6 * e ∨ 81 ≤ i) (he : e < 8) : drE N ne e i = N i := by
  unfold drE
  rw [upd_n _ _ h1, cpR_o _ _ (by omega)]
theorem T_dropE (h : TR s t N ns ne nr np) (hT : isT t) {e : Nat} (he : e < ne) : ∃ s2, f_X2_drop (t + 3) (nI e) s = some s2 ∧ (∀ d, d ≠ t + 3 → d ≠ t + 4 → s2 d = s d) ∧ TR s2 t (drE N ne e) ns (ne - 1) nr np := by
  have ht := hT.lt
  obtain ⟨⟨⟨c0, c1, c3, c4⟩, ⟨b1, b2, b3, b4⟩, vl, vs, ve, vr, vd, vp⟩, ⟨r1, r2, r3, r4⟩, tl, ts, te, td, tr, tp⟩ := id h
  obtain ⟨s5, e1, e2⟩ := S_drop r2 hT.k.2.1 b2 he
  have e3 := e2.w r2
  obtain ⟨f1, f2, f3, f4⟩ := e2
  have fo : ∀ d, d ≠ t + 3 → d ≠ t + 4 → s5 d = s d := fun d d1 d2 => f1 d d1 d2
  have dI : ∀ i, i < 6 * (ne - 1) → drE N ne e (33 + i) = N (33 + if i < 6 * e then i else i + 6) := by
    intro i hi
    by_cases q : i < 6 * e
    · rw [if_pos q, drE_o _ _ _ (by omega) (by omega) (by omega)]
    · rw [if_neg q]
      unfold drE
      rw [upd_n _ _ (by omega), show 33 + i = 33 + 6 * e + (i - 6 * e) by omega, cpR_i _ _ (by omega)]
      congr 1
      omega
  refine ⟨s5, e1, fo, ⟨⟨?_, upd_s _ _ _, ?_, ?_⟩, ⟨b1, by omega, b3, b4⟩, ?_, fun i hi => ?_, fun k hk => ?_, fun w hw => ?_, fun r hr => ?_, fun j hj => ?_⟩, ⟨?_, e3, ?_, ?_⟩, ?_, fun i hi => ?_, fun i hi => ?_, fun i hi => ?_, fun w hw => ?_, fun j hj => ?_⟩
  · rw [drE_o _ _ _ (by decide) (by omega) (by omega)]; exact c0
  · rw [drE_o _ _ _ (by decide) (by omega) (by omega)]; exact c3
  · rw [drE_o _ _ _ (by decide) (by omega) (by omega)]; exact c4
  · rw [drE_o _ _ _ (by decide) (by omega) (by omega)]; exact vl
  · exact (vs i hi).c (fun k hk => drE_o _ _ _ (by omega) (by omega) (by omega))
  · by_cases q : k < e
    · refine (ve k (by omega)).c (Nat.le_refl _) (fun j hj => ?_)
      rw [Nat.add_assoc, dI _ (by omega), if_pos (by omega)]
    · refine (ve (k + 1) (by omega)).c (Nat.le_refl _) (fun j hj => ?_)
      rw [Nat.add_assoc, dI _ (by omega), if_neg (by omega)]
      congr 1
      omega
  · rw [drE_o _ _ _ (by omega) (by omega) (by omega)]; exact vr w hw
  · exact (vd r hr).c (Nat.le_refl _) (fun k hk => drE_o _ _ _ (by omega) (by omega) (by omega))
  · exact (vp j hj).c (Nat.le_refl _) (fun k hk => drE_o _ _ _ (by omega) (by omega) (by omega))
  · unfold RW; rw [fo _ (by omega) (by omega)]; exact r1
  · unfold RW; rw [fo _ (by omega) (by omega)]; exact r3
  · unfold RW; rw [fo _ (by omega) (by omega)]; exact r4
  · rw [fo _ (by omega) (by omega), drE_o _ _ _ (by decide) (by omega) (by omega)]; exact tl
  · rw [fo _ (by omega) (by omega), drE_o _ _ _ (by omega) (by omega) (by omega)]; exact ts i hi
  · rw [show s5 (t + 4) = _ from f4, dI i hi]
    unfold drpF
    by_cases q : i < e * 6
    · rw [if_pos q, if_pos (by omega)]
      exact te i (by omega)
    · rw [if_neg q, if_pos (by omega), if_neg (by omega)]
      exact te (i + 6) (by omega)
  · rw [fo _ (by omega) (by omega), drE_o _ _ _ (by omega) (by omega) (by omega)]; exact td i hi
  · rw [fo _ (by omega) (by omega), drE_o _ _ _ (by omega) (by omega) (by omega)]; exact tr w hw
  · obtain ⟨p1, p2, p3⟩ := tp j hj
    refine ⟨?_, ?_, fun c2 i q1 q2 q3 => ?_⟩
    · rw [fo _ (by omega) (by omega), drE_o _ _ _ (by omega) (by omega) (by omega)]; exact p1
    · rw [fo _ (by omega) (by omega), drE_o _ _ _ (by omega) (by omega) (by omega)]; exact p2
    · rw [drE_o _ _ _ (by omega) (by omega) (by omega)] at q1
      rw [fo _ (by omega) (by omega), drE_o _ _ _ (by omega) (by omega) (by omega)]; exact p3 c2 i q1 q2 q3
end EVT
theorem OK_event {s : Sg} (h : REL s) (x y z w u v : Int32) : OKop (f_X7_event x y z w u v s) (f_X8_event x y z w u v) := by
  have h' := (((((h.s69 0 x).s69 1 y).s69 2 z).s69 3 w).s69 4 u).s69 5 v
  obtain ⟨ns, ne, nr, np, hT⟩ := h'.1
  have hV := hT.1
  have hns := hV.2.1.1
  have hne := hV.2.1.2.1
  have hA : ∀ s : Sg, f_X8_in (Int32.toInt64 x) (0 : Int64) (5 : Int64) s = some (bi (0 ≤ x ∧ x < nI 6)) := fun s => S8_inB x (by decide) _ (by decide) s
  have hB : ∀ (a : Int32) (s : Sg), f_X8_in (Int32.toInt64 a) (0 : Int64) (9 : Int64) s = some (bi (0 ≤ a ∧ a < nI 10)) := fun a s => S8_inB a (by decide) _ (by decide) s
  unfold f_X7_event f_X8_event
  rw [as _ 69 _ (by decide), ob_s, as _ 69 _ (by decide), ob_s, as _ 69 _ (by decide), ob_s, as _ 69 _ (by decide), ob_s, as _ 69 _ (by decide), ob_s, as _ 69 _ (by decide), ob_s, ob2_eta]
  have e69 : sts (sts (sts (sts (sts (sts s 69 0 x) 69 1 y) 69 2 z) 69 3 w) 69 4 u) 69 5 v 69 = upd (upd (upd (upd (upd (upd (s 69) 0 x) 1 y) 2 z) 3 w) 4 u) 5 v := by rw [sts_c, sts_c, sts_c, sts_c, sts_c, sts_c]
  have oo : ∀ c, c ≠ 69 → sts (sts (sts (sts (sts (sts s 69 0 x) 69 1 y) 69 2 z) 69 3 w) 69 4 u) 69 5 v c = s c := fun c hc => by rw [sts_n _ _ _ hc, sts_n _ _ _ hc, sts_n _ _ _ hc, sts_n _ _ _ hc, sts_n _ _ _ hc, sts_n _ _ _ hc]
  generalize sts (sts (sts (sts (sts (sts s 69 0 x) 69 1 y) 69 2 z) 69 3 w) 69 4 u) 69 5 v = s' at h' hT hV e69 oo ⊢
  have r0 : s' 69 0 = x := by rw [e69]; rfl
  have r1 : s' 69 1 = y := by rw [e69]; rfl
  have r2 : s' 69 2 = z := by rw [e69]; rfl
  have r3 : s' 69 3 = w := by rw [e69]; rfl
  have r4 : s' 69 4 = u := by rw [e69]; rfl
  have r5 : s' 69 5 = v := by rw [e69]; rfl
  clear e69
  obtain ⟨t1, t2⟩ := S_tell hT.2.1.1 (kd := 2) (by decide)
  have hf := fit2_iff (s' 69) ns
  rw [r0, r1, r2, r3, r4, r5] at hf
  by_cases hq : fitA 2 (s' 69) ns
  · obtain ⟨h0, h1, h2, h3, h4, h5⟩ := hf.mp hq
    rw [t1 hq, S_room hT T1 (by decide), ob_s]
    by_cases hn : ne = 8
    · rw [if_bi' _ _ (by omega)]
      refine OK_full h' (r7f s') (fun s1 h6 => ?_)
      rw [hA, ob_s, nm_eq, nm_eq, if_bi' _ _ h0, S8_isStreet (n8 h6) hV, ob_s, if_bi' _ _ h1, S8_isHour, ob_s, if_bi' _ _ h2]
      dsimp only
      rw [if_neg (by decide), hB, ob_s, if_bi' _ _ h3, hB, ob_s, if_bi' _ _ h4, S8_isWord, ob_s, if_bi' _ _ h5, S8_events (n8 h6) hV, ob_s, ife _ _ (by omega) (by decide), if_pos hn, r8f]
    · rw [if_bi0 _ _ (by omega)]
      obtain ⟨s1, e1, e2, e3⟩ := T_event hT T1 (by omega) (c := 69) (by decide) rfl hq
      have e71 : s1 71 = s' 71 := e2 71 (by decide)
      obtain ⟨s2, g1, g2, g3⟩ := S8_keep e71 hV
      obtain ⟨s3, f1, f2, f3⟩ := S8_layEvent (s := s2) (c := 71) (ne := ne) (by decide) (by rw [g3, kpN_lo _ _ (by decide) (by decide)]; exact hV.1.2.1) (by omega) x y z w u v
      have g71 : s3 71 = evtN (kpN (s' 71) np) ne (s' 69) := by
        rw [f3, g3, ← evt_lay, r0, r1, r2, r3, r4, r5]
      rw [e1, ob2_some]
      refine ⟨_, s1, s3, rfl, ?_, h.mk (fun c c1 c2 c3 => ?_) ⟨ns, ne + 1, nr, pshn np + 1, ?_⟩⟩
      · dsimp only
        rw [hA, ob_s, nm_eq, nm_eq, if_bi' _ _ h0, S8_isStreet e71 hV, ob_s, if_bi' _ _ h1, S8_isHour, ob_s, if_bi' _ _ h2]
        dsimp only
        rw [if_neg (by decide), hB, ob_s, if_bi' _ _ h3, hB, ob_s, if_bi' _ _ h4, S8_isWord, ob_s, if_bi' _ _ h5, S8_events e71 hV, ob_s, ife _ _ (by omega) (by decide), if_neg hn, g1, ob_s, f1, ob_s]
        unfold f_X8_events
        rw [ag _ 71 (by decide) (by decide), ob_s, ob_s, g71]
        rw [show evtN (kpN (s' 71) np) ne (s' 69) 1 = nI (ne + 1) from rfl, nsub (by omega)]
        rfl
      · rw [f2 c c3, g2 c c3, e2 c (by omega), oo c c2]
      · rw [g71]
        exact e3.fr (fun c c1 c2 => by rw [f2 c (by omega), g2 c (by omega)])
  · refine OK_bad h' (-2) (t2 hq) (fun s1 h6 => ?_)
    rw [hA, ob_s, nm_eq, nm_eq]
    by_cases h0 : 0 ≤ x ∧ x < nI 6
    · rw [if_bi' _ _ h0, S8_isStreet (n8 h6) hV, ob_s]
      by_cases h1 : 0 ≤ y ∧ y < nI ns
      · rw [if_bi' _ _ h1, S8_isHour, ob_s]
        by_cases h2 : 0 ≤ z ∧ z < nI 24
        · rw [if_bi' _ _ h2]
          dsimp only
          rw [if_neg (by decide), hB, ob_s]
          by_cases h3 : 0 ≤ w ∧ w < nI 10
          · rw [if_bi' _ _ h3, hB, ob_s]
            by_cases h4 : 0 ≤ u ∧ u < nI 10
            · rw [if_bi' _ _ h4, S8_isWord, ob_s]
              by_cases h5 : 0 ≤ v ∧ v < nI 16
              · exact absurd (hf.mpr ⟨h0, h1, h2, h3, h4, h5⟩) hq
              · rw [if_bi0 _ _ h5, r8]
            · rw [if_bi0 _ _ h4, r8]
          · rw [if_bi0 _ _ h3, r8]
        · rw [if_bi0 _ _ h2]
          dsimp only
          rw [if_pos (show nI 0 = 0 from rfl), r8]
      · rw [if_bi0 _ _ h1]
        dsimp only
        rw [if_pos (show nI 0 = 0 from rfl), r8]
    · rw [if_bi0 _ _ h0]
      dsimp only
      rw [if_pos (show nI 0 = 0 from rfl), r8]
theorem OK_law {s : Sg} (h : REL s) (x : Int32) : OKop (f_X7_law x s) (f_X8_law x) := by
  obtain ⟨ns, ne, nr, np, hT⟩ := h.1
  have hV := hT.1
  have hA : ∀ s : Sg, f_X8_in (Int32.toInt64 x) (0 : Int64) (2 : Int64) s = some (bi (0 ≤ x ∧ x < nI 3)) := fun s => S8_inB x (by decide) _ (by decide) s
  unfold f_X7_law f_X8_law
  rw [tg 1 (by decide) (by decide), ob_s, show (tabL 1).getD 0 0 = nI 3 from rfl, S_isBelow, ob_s]
  by_cases h0 : 0 ≤ x ∧ x < nI 3
  · rw [if_bi' _ _ h0]
    obtain ⟨s1, e1, e2, e3⟩ := T_remember hT T1
    have e71 : s1 71 = s 71 := e2 71 (by decide) (by decide) (by decide)
    have u : ∀ c, c ≠ 1 → sts s1 1 7 x c = s1 c := fun c hc => sts_n _ _ _ hc
    obtain ⟨s2, g1, g2, g3⟩ := S8_keep (s := sts s1 1 7 x) (N := s 71) (by rw [u _ (by decide), e71]) hV
    unfold f_X5_changeLaw
    rw [nm_eq, e1, ob_s, nm_eq, ob2_some]
    refine ⟨_, sts s1 1 7 x, sts s2 71 2 x, rfl, ?_, h.mk (fun c c1 c2 c3 => ?_) ⟨ns, ne, nr, pshn np + 1, ?_⟩⟩
    · dsimp only
      rw [hA, ob_s, if_bi' _ _ h0, g1, ob_s, ag _ 71 (by decide) (by decide), ob_s, as _ 71 _ (by decide), ob_s, g3, kpN_lo _ _ (by decide) (by decide), hT.2.2.1]
    · rw [sts_n _ _ _ c3, g2 c c3, u c (by omega), e2 c (by omega) (by omega) (by omega)]
    · rw [sts_c, g3]
      obtain ⟨⟨⟨c0, c1, c3, c4⟩, ⟨b1, b2, b3, b4⟩, vl, vs, ve, vr, vd, vp⟩, ⟨r1, r2, r3, r4⟩, tl, ts, te, td, tr, tp⟩ := e3
      have o : ∀ d, d ≠ 1 → d ≠ 71 → sts s2 71 2 x d = s1 d := fun d d1 d2 => by rw [sts_n _ _ _ d2, g2 d d2, u d d1]
      refine ⟨⟨⟨by rw [upd_n _ _ (by decide)]; exact c0, by rw [upd_n _ _ (by decide)]; exact c1, by rw [upd_n _ _ (by decide)]; exact c3, by rw [upd_n _ _ (by decide)]; exact c4⟩, ⟨b1, b2, b3, b4⟩, by rw [upd_s]; exact rngB (by decide) h0, fun i hi => (vs i hi).c (fun k hk => upd_n _ _ (by omega)), fun e he => (ve e he).c (Nat.le_refl _) (fun k hk => upd_n _ _ (by omega)), fun w hw => by rw [upd_n _ _ (by omega)]; exact vr w hw, fun r hr => (vd r hr).c (Nat.le_refl _) (fun k hk => upd_n _ _ (by omega)), fun j hj => (vp j hj).c (Nat.le_refl _) (fun k hk => upd_n _ _ (by omega))⟩, ⟨?_, ?_, ?_, ?_⟩, ?_, fun i hi => ?_, fun i hi => ?_, fun i hi => ?_, fun w hw => ?_, fun j hj => ?_⟩
      · unfold RW; rw [o _ (by omega) (by omega)]; exact r1
      · unfold RW; rw [o _ (by omega) (by omega)]; exact r2
      · unfold RW; rw [o _ (by omega) (by omega)]; exact r3
      · unfold RW; rw [o _ (by omega) (by omega)]; exact r4
      · rw [sts_n _ _ _ (by decide), g2 1 (by decide), sts_s, upd_s]
      · rw [o _ (by omega) (by omega), upd_n _ _ (by omega)]; exact ts i hi
      · rw [o _ (by omega) (by omega), upd_n _ _ (by omega)]; exact te i hi
      · rw [o _ (by omega) (by omega), upd_n _ _ (by omega)]; exact td i hi
      · rw [o _ (by omega) (by omega), upd_n _ _ (by omega)]; exact tr w hw
      · obtain ⟨p1, p2, p3⟩ := tp j hj
        refine ⟨?_, ?_, fun c2 i q1 q2 q3 => ?_⟩
        · rw [o _ (by omega) (by omega), upd_n _ _ (by omega)]; exact p1
        · rw [o _ (by omega) (by omega), upd_n _ _ (by omega)]; exact p2
        · rw [upd_n _ _ (by omega)] at q1
          rw [o _ (by omega) (by omega), upd_n _ _ (by omega)]; exact p3 c2 i q1 q2 q3
  · rw [if_bi0 _ _ h0]
    refine OK_bad h (-2) (r7 s) (fun s1 h6 => ?_)
    rw [hA, ob_s, if_bi0 _ _ h0, r8]
theorem OK_back {s : Sg} (h : REL s) (x : Int32) : OKop (f_X7_back x s) (f_X8_back x) := by
  obtain ⟨ns, ne, nr, np, hT⟩ := h.1
  have hV := hT.1
  have hne := hV.2.1.2.1
  unfold f_X7_back f_X8_back
  rw [S_size, ob_s, show s 4 2 = nI ne from hT.2.1.2.1.2, S_isBelow, ob_s]
  by_cases h0 : 0 ≤ x ∧ x < nI ne
  · rw [if_bi' _ _ h0]
    obtain ⟨e, he, rfl⟩ := rngB (by omega) h0
    obtain ⟨s1, e1, e2, e3⟩ := T_remember hT T1
    obtain ⟨s2, f1, f2, f3⟩ := T_dropE e3 T1 he
    have e71 : s2 71 = s 71 := (f2 71 (by decide) (by decide)).trans (e2 71 (by decide) (by decide) (by decide))
    obtain ⟨s3, g1, g2, g3⟩ := S8_keep e71 hV
    unfold f_X5_dropEvent
    rw [e1, ob_s, show (1 + 3 : Nat) = 1 + 3 from rfl, f1, ob_s, ob_s, S_size, ob_s, show s2 4 2 = nI (ne - 1) from f3.2.1.2.1.2]
    have hk1 : kpN (s 71) np 1 = nI ne := (kpN_lo _ _ (by decide) (by decide)).trans hV.1.2.1
    have main : ∃ s4, f_X8_back (nI e) s2 = some (nI (ne - 1), s4) ∧ (∀ d, d ≠ 71 → s4 d = s2 d) ∧ s4 71 = drE (kpN (s 71) np) ne e := by
      unfold f_X8_back
      rw [S8_isEvent e71 hV, ob_s, if_bi' _ _ h0, g1, ob_s, nmul, nm_eq, nm_eq]
      refine lp2_ix (fun o => ∃ s4 : Sg, o = some (nI (ne - 1), s4) ∧ (∀ d, d ≠ 71 → s4 d = s2 d) ∧ s4 71 = drE (kpN (s 71) np) ne e) (fun k (st : Sg) => (∀ d, d ≠ 71 → st d = s2 d) ∧ st 71 = cpR (kpN (s 71) np) (kpN (s 71) np) (33 + 6 * e) (33 + 6 * e + 6) (k - 6 * e)) (6 * e) 42 (by omega) ?_ ?_ (by omega) _ ⟨g2, by rw [Nat.sub_self, cpR_0]; exact g3⟩
      · rintro self k st h5 h6 ⟨h7, h8⟩
        right
        unfold b_X8_back_24
        rw [ifle _ _ (by omega) (by omega), if_neg (by omega), nadd, nadd, ag _ 71 (show 33 + k + 6 < 515 by omega) (by omega), ob_s, as _ 71 _ (show 33 + k < 515 by omega), ob_s, nadd]
        refine ⟨_, rfl, fun d hd => by rw [sts_n _ _ _ hd]; exact h7 d hd, ?_⟩
        rw [sts_c, h8, cpR_o _ _ (by omega), show k + 1 - 6 * e = (k - 6 * e) + 1 by omega, ← cpR_s, show 33 + 6 * e + (k - 6 * e) = 33 + k by omega, show 33 + 6 * e + 6 + (k - 6 * e) = 33 + k + 6 by omega]
      · rintro self st ⟨h7, h8⟩
        unfold b_X8_back_24
        rw [ifle _ _ (by omega) (by omega), if_pos (by omega)]
        dsimp only
        have v1 : st 71 1 = nI ne := by rw [h8, cpR_o _ _ (by omega), hk1]
        rw [ag _ 71 (by decide) (by decide), ob_s, as _ 71 _ (by decide), ob_s, v1, nsub (by omega)]
        unfold f_X8_events
        rw [ag _ 71 (by decide) (by decide), ob_s, ob_s, sts_s]
        refine ⟨_, rfl, fun d hd => by rw [sts_n _ _ _ hd]; exact h7 d hd, ?_⟩
        rw [sts_c, h8]
        rfl
    obtain ⟨s4, m1, m2, m3⟩ := main
    unfold f_X8_back at m1
    refine ⟨_, s2, s4, rfl, m1, h.mk (fun c c1 c2 c3 => ?_) ⟨ns, ne - 1, nr, pshn np + 1, ?_⟩⟩
    · rw [m2 c c3, f2 c (by omega) (by omega), e2 c (by omega) (by omega) (by omega)]
    · rw [m3]
      exact f3.fr (fun c c1 c2 => m2 c (by omega))
  · rw [if_bi0 _ _ h0]
    refine OK_bad h (-2) (r7 s) (fun s1 h6 => ?_)
    rw [S8_isEvent (n8 h6) hV, ob_s, if_bi0 _ _ h0, r8]
