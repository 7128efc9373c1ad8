/-! town, street, rent -/
theorem le19 (x : Int32) : (nI 1 ≤ x ∧ x ≤ nI 9) ↔ (nI 1 ≤ x ∧ 0 ≤ x ∧ x < nI 10) := by
  rw [Int32.le_iff_toInt_le, Int32.le_iff_toInt_le, Int32.le_iff_toInt_le, Int32.lt_iff_toInt_lt]
  have e1 : (nI 1).toInt = 1 := by decide
  have e9 : (nI 9).toInt = 9 := by decide
  have e10 : (nI 10).toInt = 10 := by decide
  have e0 : (0 : Int32).toInt = 0 := by decide
  rw [e1, e9, e10, e0]
  omega
theorem fit0_iff (r : Nat → Int32) (ns : Nat) : fitA 0 r ns ↔ (0 ≤ r 0 ∧ r 0 < nI 3) := by
  constructor
  · intro h
    exact (h 0 (by decide)).2.2.2 (by decide)
  · intro h k hk
    match k, hk with
    | 0, _ => exact ⟨fun z => absurd z (by decide), fun z => absurd z (by decide), fun z => absurd z (by decide), fun _ => h⟩
theorem fit1_iff (r : Nat → Int32) (ns : Nat) : fitA 1 r ns ↔ ((0 ≤ r 0 ∧ r 0 < nI 8) ∧ (0 ≤ r 1 ∧ r 1 < nI 8) ∧ r 0 ≠ r 1 ∧ (nI 1 ≤ r 2 ∧ r 2 ≤ nI 9) ∧ (0 ≤ r 3 ∧ r 3 < nI 16)) := by
  constructor
  · intro h
    refine ⟨(h 0 (by decide)).2.2.2 (by decide), (h 1 (by decide)).2.2.2 (by decide), fun z => (h 1 (by decide)).1 ⟨rfl, rfl⟩ z.symm, (le19 _).mpr ⟨(h 2 (by decide)).2.1 ⟨rfl, rfl⟩, (h 2 (by decide)).2.2.2 (by decide)⟩, (h 3 (by decide)).2.2.2 (by decide)⟩
  · rintro ⟨a, b, c, d, e⟩ k hk
    have d2 := (le19 _).mp d
    match k, hk with
    | 0, _ => exact ⟨fun z => absurd z (by decide), fun z => absurd z (by decide), fun z => absurd z (by decide), fun _ => a⟩
    | 1, _ => exact ⟨fun _ z => c z.symm, fun z => absurd z (by decide), fun z => absurd z (by decide), fun _ => b⟩
    | 2, _ => exact ⟨fun z => absurd z (by decide), fun _ => d.1, fun z => absurd z (by decide), fun _ => d2.2⟩
    | 3, _ => exact ⟨fun z => absurd z (by decide), fun z => absurd z (by decide), fun z => absurd z (by decide), fun _ => e⟩
theorem fit2_iff (r : Nat → Int32) (ns : Nat) : fitA 2 r ns ↔ ((0 ≤ r 0 ∧ r 0 < nI 6) ∧ (0 ≤ r 1 ∧ r 1 < nI ns) ∧ (0 ≤ r 2 ∧ r 2 < nI 24) ∧ (0 ≤ r 3 ∧ r 3 < nI 10) ∧ (0 ≤ r 4 ∧ r 4 < nI 10) ∧ (0 ≤ r 5 ∧ r 5 < nI 16)) := by
  constructor
  · intro h
    exact ⟨(h 0 (by decide)).2.2.2 (by decide), (h 1 (by decide)).2.2.1 ⟨rfl, rfl⟩, (h 2 (by decide)).2.2.2 (by decide), (h 3 (by decide)).2.2.2 (by decide), (h 4 (by decide)).2.2.2 (by decide), (h 5 (by decide)).2.2.2 (by decide)⟩
  · rintro ⟨a, b, c, d, e, f⟩ k hk
    match k, hk with
    | 0, _ => exact ⟨fun z => absurd z (by decide), fun z => absurd z (by decide), fun z => absurd z (by decide), fun _ => a⟩
    | 1, _ => exact ⟨fun z => absurd z (by decide), fun z => absurd z (by decide), fun _ => b, fun z => absurd ⟨rfl, rfl⟩ z⟩
    | 2, _ => exact ⟨fun z => absurd z (by decide), fun z => absurd z (by decide), fun z => absurd z (by decide), fun _ => c⟩
    | 3, _ => exact ⟨fun z => absurd z (by decide), fun z => absurd z (by decide), fun z => absurd z (by decide), fun _ => d⟩
    | 4, _ => exact ⟨fun z => absurd z (by decide), fun z => absurd z (by decide), fun z => absurd z (by decide), fun _ => e⟩
    | 5, _ => exact ⟨fun z => absurd z (by decide), fun z => absurd z (by decide), fun z => absurd z (by decide), fun _ => f⟩
theorem fit3_iff (r : Nat → Int32) (ns : Nat) : fitA 3 r ns ↔ ((0 ≤ r 0 ∧ r 0 < nI 16) ∧ (0 ≤ r 1 ∧ r 1 < nI 100)) := by
  constructor
  · intro h
    exact ⟨(h 0 (by decide)).2.2.2 (by decide), (h 1 (by decide)).2.2.2 (by decide)⟩
  · rintro ⟨a, b⟩ k hk
    match k, hk with
    | 0, _ => exact ⟨fun z => absurd z (by decide), fun z => absurd z (by decide), fun z => absurd z (by decide), fun _ => a⟩
    | 1, _ => exact ⟨fun z => absurd z (by decide), fun z => absurd z (by decide), fun z => absurd z (by decide), fun _ => b⟩
theorem StOK.c {N M : Nat → Int32} {p q : Nat} (h : StOK N p) (e : ∀ k, k < 4 → M (q + k) = N (p + k)) : StOK M q := by
  have e0 := e 0 (by decide)
  have e1 := e 1 (by decide)
  have e2 := e 2 (by decide)
  have e3 := e 3 (by decide)
  unfold StOK
  rw [Nat.add_zero, Nat.add_zero] at e0
  rw [e0, e1, e2, e3]
  exact h
theorem EvOK.c {N M : Nat → Int32} {p q ns ms : Nat} (h : EvOK N p ns) (hm : ns ≤ ms) (e : ∀ k, k < 6 → M (q + k) = N (p + k)) : EvOK M q ms := by
  have e0 := e 0 (by decide)
  unfold EvOK
  rw [Nat.add_zero, Nat.add_zero] at e0
  rw [e0, e 1 (by decide), e 2 (by decide), e 3 (by decide), e 4 (by decide), e 5 (by decide)]
  exact ⟨h.1, h.2.1.mono hm, h.2.2⟩
theorem RdOK.c {N M : Nat → Int32} {p q ns ms : Nat} (h : RdOK N p ns) (hm : ns ≤ ms) (e : ∀ k, k < 3 → M (q + k) = N (p + k)) : RdOK M q ms := by
  have e0 := e 0 (by decide)
  unfold RdOK
  rw [Nat.add_zero, Nat.add_zero] at e0
  rw [e0, e 1 (by decide), e 2 (by decide)]
  exact ⟨h.1.mono hm, h.2⟩
section TOWN2
variable {s : Sg} {t : Nat} {N : Nat → Int32} {ns ne nr np : Nat}
theorem S_room (h : TR s t N ns ne nr np) (hT : isT t) {kd : Nat} (hkd : kd < 4) : f_X5_hasNoRoomFor t (nI kd) s = some (bi ((kd = 1 ∧ ns = 7) ∨ (kd = 2 ∧ ne = 8))) := by
  unfold f_X5_hasNoRoomFor
  rw [nm_eq, S_isFull h.2.1.1 hT.k.1 h.1.2.1.1, ob_s, S_isFull h.2.1.2.1 hT.k.2.1 h.1.2.1.2.1, ob_s, ife _ _ (by omega) (by decide), ife _ _ (by omega) (by decide), if_bi, if_bi]
  by_cases q1 : kd = 1
  · subst q1
    by_cases q2 : ns = 7
    · rw [if_pos rfl, if_pos q2, bi_t (Or.inl ⟨rfl, q2⟩)]
    · rw [if_pos rfl, if_neg q2, if_neg (by decide), bi_f (by omega)]
  · rw [if_neg q1]
    by_cases q2 : kd = 2
    · subst q2
      rw [if_pos rfl]
      by_cases q3 : ne = 8
      · rw [if_pos q3, bi_t (Or.inr ⟨rfl, q3⟩)]
      · rw [if_neg q3, bi_f (by omega)]
    · rw [if_neg q2, bi_f (by omega)]
def strN (N : Nat → Int32) (ns : Nat) (r : Nat → Int32) : Nat → Int32 := fun i => if i = 0 then nI (ns + 1) else if i = 4 then nI 0 else if 5 + 4 * ns ≤ i ∧ i < 5 + 4 * ns + 4 then r (i - (5 + 4 * ns)) else N i
theorem strN_o (N : Nat → Int32) (ns : Nat) (r : Nat → Int32) {i : Nat} (h0 : i ≠ 0) (h4 : i ≠ 4) (h : i < 5 + 4 * ns ∨ 5 + 4 * ns + 4 ≤ i) : strN N ns r i = N i := by
  unfold strN
  rw [if_neg h0, if_neg h4, if_neg (by omega)]
theorem strN_i (N : Nat → Int32) (ns : Nat) (r : Nat → Int32) {k : Nat} (h : k < 4) : strN N ns r (5 + 4 * ns + k) = r k := by
  unfold strN
  rw [if_neg (by omega), if_neg (by omega), if_pos (by omega)]
  congr 1
  omega
theorem T_street (h : TR s t N ns ne nr np) (hT : isT t) (hn : ns < 7) {c : Nat} (hc : 49 ≤ c) (hcl : alen c = 6) (hf : fitA 1 (s c) ns) : ∃ s2, f_X5_take t (nI 1) c s = some (nI ns, s2) ∧ (∀ d, d ≠ t + 1 → d ≠ t + 2 → d ≠ t + 7 → s2 d = s d) ∧ TR s2 t (strN N ns (s c)) (ns + 1) ne nr 0 := by
  have ht := hT.lt
  obtain ⟨⟨⟨c0, c1, c3, c4⟩, ⟨b1, b2, b3, b4⟩, vl, vs, ve, vr, vd, vp⟩, ⟨r1, r2, r3, r4⟩, tl, ts, te, td, tr, tp⟩ := id h
  unfold f_X5_take
  rw [if_neg (by decide), if_pos rfl, S_empty, ob_s]
  have z7 : RW (sts s (t + 7) 2 (nI 0)) (t + 7) 50 0 := ⟨(sts_j _ _ _ (by decide)).trans r4.1, sts_s _ _ _ _⟩
  have zo : ∀ d, d ≠ t + 7 → sts s (t + 7) 2 (nI 0) d = s d := fun d hd => sts_n _ _ _ hd
  generalize sts s (t + 7) 2 (nI 0) = z at z7 zo ⊢
  have z1 : RW z (t + 1) 4 ns := by unfold RW; rw [zo _ (by omega)]; exact r1
  obtain ⟨s5, e1, e2⟩ := S_add z1 hT.k.1 hn (c := c) (by omega) (by omega) (by omega)
  have e3 := e2.w z1
  rw [e1, ob_s, S_size, ob_s, e3.2, nsub (by omega)]
  obtain ⟨f1, f2, f3, f4⟩ := e2
  have fo : ∀ d, d ≠ t + 1 → d ≠ t + 2 → d ≠ t + 7 → s5 d = s d := fun d d1 d2 d3 => (f1 d d1 d2).trans (zo d d3)
  have hF := (fit1_iff _ _).mp hf
  refine ⟨s5, rfl, fo, ⟨⟨rfl, ?_, ?_, rfl⟩, ⟨by omega, b2, b3, by omega⟩, ?_, fun i hi => ?_, fun e he => ?_, fun w hw => ?_, fun r hr => ?_, fun j hj => absurd hj (by omega)⟩, ⟨e3, ?_, ?_, ?_⟩, ?_, fun i hi => ?_, fun i hi => ?_, fun i hi => ?_, fun w hw => ?_, fun j hj => absurd hj (by omega)⟩
  · rw [strN_o _ _ _ (by decide) (by decide) (by omega)]; exact c1
  · rw [strN_o _ _ _ (by decide) (by decide) (by omega)]; exact c3
  · rw [strN_o _ _ _ (by decide) (by decide) (by omega)]; exact vl
  · by_cases q : i = ns
    · subst q
      have e : StOK (s c) 0 := ⟨rngB (by decide) hF.1, rngB (by decide) hF.2.1, hF.2.2.1, by
        obtain ⟨k, hk, ek⟩ := rngB (n := 10) (by decide) ((le19 _).mp hF.2.2.2.1).2
        refine ⟨k, ?_, hk, ek⟩
        have h2 := hF.2.2.2.1.1
        rw [show s c (0 + 2) = s c 2 from rfl] at ek
        rw [ek, nI_leI (by decide) (by omega)] at h2
        omega, rngB (by decide) hF.2.2.2.2⟩
      exact e.c (fun k hk => by rw [strN_i _ _ _ hk, Nat.zero_add])
    · exact (vs i (by omega)).c (fun k hk => strN_o _ _ _ (by omega) (by omega) (by omega))
  · exact (ve e he).c (by omega) (fun k hk => strN_o _ _ _ (by omega) (by omega) (by omega))
  · rw [strN_o _ _ _ (by omega) (by omega) (by omega)]; exact vr w hw
  · exact (vd r hr).c (by omega) (fun k hk => strN_o _ _ _ (by omega) (by omega) (by omega))
  · unfold RW; rw [fo _ (by omega) (by omega) (by omega)]; exact r2
  · unfold RW; rw [fo _ (by omega) (by omega) (by omega)]; exact r3
  · unfold RW; rw [f1 _ (by omega) (by omega)]; exact z7
  · rw [fo _ (by omega) (by omega) (by omega), strN_o _ _ _ (by decide) (by decide) (by omega)]; exact tl
  · rw [f4]
    unfold insF
    by_cases q : i < ns * 4
    · rw [if_pos q, zo _ (by omega), ts i (by omega), strN_o _ _ _ (by omega) (by omega) (by omega)]
    · rw [if_neg q, if_pos (by omega), zo c (by omega), show 5 + i = 5 + 4 * ns + (i - ns * 4) by omega, strN_i _ _ _ (by omega)]
  · rw [fo _ (by omega) (by omega) (by omega), strN_o _ _ _ (by omega) (by omega) (by omega)]; exact te i hi
  · rw [fo _ (by omega) (by omega) (by omega), strN_o _ _ _ (by omega) (by omega) (by omega)]; exact td i hi
  · rw [fo _ (by omega) (by omega) (by omega), strN_o _ _ _ (by omega) (by omega) (by omega)]; exact tr w hw
theorem VN.c (hV : VN N ns ne nr np) {M : Nat → Int32} (h0 : ∀ i, i < 5 → M i = N i) (h1 : ∀ i, i < 4 * ns → M (5 + i) = N (5 + i)) (h2 : ∀ i, i < 6 * ne → M (33 + i) = N (33 + i)) (h3 : ∀ w, w < 16 → rng (M (81 + w)) 100) (h4 : ∀ i, i < 3 * nr → M (97 + i) = N (97 + i)) (h5 : ∀ j i, j < np → i < 50 → M (115 + 50 * j + i) = N (115 + 50 * j + i)) : VN M ns ne nr np := by
  obtain ⟨⟨c0, c1, c3, c4⟩, ⟨b1, b2, b3, b4⟩, vl, vs, ve, vr, vd, vp⟩ := hV
  refine ⟨⟨(h0 0 (by decide)).trans c0, (h0 1 (by decide)).trans c1, (h0 3 (by decide)).trans c3, (h0 4 (by decide)).trans c4⟩, ⟨b1, b2, b3, b4⟩, by rw [h0 2 (by decide)]; exact vl, fun i hi => (vs i hi).c (fun k hk => ?_), fun e he => (ve e he).c (Nat.le_refl _) (fun k hk => ?_), h3, fun r hr => (vd r hr).c (Nat.le_refl _) (fun k hk => ?_), fun j hj => ?_⟩
  · rw [show 5 + 4 * i + k = 5 + (4 * i + k) by omega, h1 _ (by omega)]
  · rw [show 33 + 6 * e + k = 33 + (6 * e + k) by omega, h2 _ (by omega)]
  · rw [show 97 + 3 * r + k = 97 + (3 * r + k) by omega, h4 _ (by omega)]
  · obtain ⟨c, p1, p2, p3, p4⟩ := vp j hj
    refine ⟨c, p1, (h5 j 48 hj (by decide)).trans p2, by rw [h5 j 49 hj (by decide)]; exact p3, fun e he => (p4 e he).c (Nat.le_refl _) (fun k hk => ?_)⟩
    rw [show 115 + 50 * j + 6 * e + k = 115 + 50 * j + (6 * e + k) by omega, h5 j _ hj (by omega)]
theorem T_rent (h : TR s t N ns ne nr np) (hT : isT t) {w : Nat} (hw : w < 16) {c : Nat} (hcl : alen c = 6) (e0 : s c 0 = nI w) (h1 : rng (s c 1) 100) : ∃ s2, f_X5_take t (nI 3) c s = some (N (81 + w), s2) ∧ (∀ d, d ≠ t + 9 → s2 d = s d) ∧ TR s2 t (upd N (81 + w) (s c 1)) ns ne nr np := by
  have ha := hT.k.2.2.2.2.1
  obtain ⟨hV, ⟨r1, r2, r3, r4⟩, tl, ts, te, td, tr, tp⟩ := id h
  obtain ⟨b1, b2, b3, b4⟩ := hV.2.1
  unfold f_X5_take
  rw [if_neg (by decide), if_neg (by decide), if_neg (by decide), show nI 0 = nI 0 from rfl, ag _ c (show 0 < alen c by omega) (by decide), ob_s, ag _ c (show 1 < alen c by omega) (by decide), ob_s]
  unfold f_X5_changeRent
  rw [e0, S_isBelow, ob_s, bi_B (by omega) (by decide), if_bi, if_pos hw, ag _ _ (by omega) (by omega), ob_s, as _ _ _ (by omega), ob_s, ob2_some, tr w hw]
  have o : ∀ d, d ≠ t + 9 → sts s (t + 9) w (s c 1) d = s d := fun d hd => sts_n _ _ _ hd
  refine ⟨_, rfl, o, hV.c (fun i hi => upd_n _ _ (by omega)) (fun i hi => upd_n _ _ (by omega)) (fun i hi => upd_n _ _ (by omega)) (fun v hv => ?_) (fun i hi => upd_n _ _ (by omega)) (fun j i hj hi => upd_n _ _ (by omega)), ?_, ?_, fun i hi => ?_, fun i hi => ?_, fun i hi => ?_, fun v hv => ?_, fun j hj => ?_⟩
  · by_cases q : v = w
    · subst q; rw [upd_s]; exact h1
    · rw [upd_n _ _ (by omega)]; exact hV.2.2.2.2.2.1 v hv
  · unfold RW
    rw [o _ (by omega), o _ (by omega), o _ (by omega), o _ (by omega)]
    exact ⟨r1, r2, r3, r4⟩
  · rw [o _ (by omega), upd_n _ _ (by omega)]; exact tl
  · rw [o _ (by omega), upd_n _ _ (by omega)]; exact ts i hi
  · rw [o _ (by omega), upd_n _ _ (by omega)]; exact te i hi
  · rw [o _ (by omega), upd_n _ _ (by omega)]; exact td i hi
  · by_cases q : v = w
    · subst q; rw [sts_s, upd_s]
    · rw [sts_j _ _ _ q, upd_n _ _ (by omega)]; exact tr v hv
  · obtain ⟨p1, p2, p3⟩ := tp j hj
    refine ⟨?_, ?_, fun c2 i q1 q2 q3 => ?_⟩
    · rw [o _ (by omega), upd_n _ _ (by omega)]; exact p1
    · rw [o _ (by omega), upd_n _ _ (by omega)]; exact p2
    · rw [upd_n _ _ (by omega)] at q1
      rw [o _ (by omega), upd_n _ _ (by omega)]; exact p3 c2 i q1 q2 q3
end TOWN2
