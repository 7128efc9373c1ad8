/-! clear, type, reading, burn, status, count, digest -/
/-- only what is typed has changed -/
theorem REL.tx {s s2 : Sg} (h : REL s) (hr : ∀ c, c ≠ 49 → c ≠ 50 → c ≠ 70 → c ≠ 88 → s2 c = s c) (hX : TXT s2) : REL s2 := by
  obtain ⟨⟨ns, ne, nr, np, hT⟩, hS, -, ⟨b0, b1, i1, i2, i3, i4, i5, i6, i7⟩, ⟨w1, w2⟩, ⟨nb, n1, n2⟩⟩ := h
  refine ⟨⟨ns, ne, nr, np, ?_⟩, ?_, hX, ⟨b0, b1, i1, i2, ?_, ?_, ?_, ?_, ?_⟩, ⟨?_, ?_⟩, ⟨nb, n1, ?_⟩⟩
  · rw [hr 71 (by decide) (by decide) (by decide) (by decide)]
    exact hT.fr (fun c h1 h2 => hr c (by omega) (by omega) (by omega) (by omega))
  · rw [hr 0 (by decide) (by decide) (by decide) (by decide), hr 74 (by decide) (by decide) (by decide) (by decide)]; exact hS
  · rw [hr 0 (by decide) (by decide) (by decide) (by decide)]; exact i3
  · rw [hr 73 (by decide) (by decide) (by decide) (by decide)]; exact i4
  · rw [hr 73 (by decide) (by decide) (by decide) (by decide)]; exact i5
  · intro z
    obtain ⟨x1, x2, x3, x4, h5⟩ := i6 z
    exact ⟨x1, x2, x3, x4, by rw [hr 72 (by decide) (by decide) (by decide) (by decide)]; exact h5.fr (fun c h1 h2 => hr c (by omega) (by omega) (by omega) (by omega))⟩
  · intro z
    obtain ⟨x1, x2, x3, x4, h5⟩ := i7 z
    exact ⟨x1, x2, x3, x4, by rw [hr 72 (by decide) (by decide) (by decide) (by decide)]; exact h5.fr (fun c h1 h2 => hr c (by omega) (by omega) (by omega) (by omega))⟩
  · rw [hr 53 (by decide) (by decide) (by decide) (by decide)]; exact w1
  · intro t ht
    have h5 := w2 t ht
    rw [hr (t + 1) (by omega) (by omega) (by omega) (by omega), hr (t + 3) (by omega) (by omega) (by omega) (by omega), hr (t + 5) (by omega) (by omega) (by omega) (by omega), hr (t + 7) (by omega) (by omega) (by omega) (by omega)]
    exact h5
  · rw [hr 52 (by decide) (by decide) (by decide) (by decide)]; exact n2
theorem OK_clear {s : Sg} (h : REL s) : OKop (f_X7_clear s) f_X8_clear := by
  obtain ⟨len, l1, l2, l3, l4⟩ := h.2.2.1
  refine ⟨nI len, sts s 49 2 (nI 0), sts (sts s 49 2 (nI 0)) 70 22 (nI 0), ?_, ?_, h.tx (fun c c1 c2 c3 c4 => by rw [sts_n _ _ _ c3, sts_n _ _ _ c1]) ⟨0, by omega, ?_, ?_, fun i hi => absurd hi (by omega)⟩⟩
  · unfold f_X7_clear f_X4_size f_X4_empty
    rw [ob_s, nm_eq, ob_s, l2]
  · unfold f_X8_clear
    rw [nm_eq, nm_eq, sts_n _ _ _ (by decide), l3]
  · rw [sts_n _ _ _ (by decide), sts_s]
  · rw [sts_s]
theorem OK_type {s : Sg} (h : REL s) (x : Int32) : OKop (f_X7_type x s) (f_X8_type x) := by
  obtain ⟨len, l1, l2, l3, l4⟩ := h.2.2.1
  have hA : ∀ s : Sg, f_X8_in (Int32.toInt64 x) (0 : Int64) (127 : Int64) s = some (bi (0 ≤ x ∧ x < nI 128)) := fun s => S8_inB x (by decide) _ (by decide) s
  have hF : f_X4_isFull s = some (bi (¬ len < 150)) := by
    unfold f_X4_isFull
    rw [l2, ifl _ _ (by omega) (by decide)]
    by_cases q : len < 150
    · rw [if_pos q, bi_f (by omega)]
    · rw [if_neg q, bi_t q]
  unfold f_X7_type f_X8_type
  rw [S_isBelow, ob_s]
  by_cases h0 : 0 ≤ x ∧ x < nI 128
  · rw [if_bi' _ _ h0, hF, ob_s]
    by_cases h1 : len < 150
    · rw [if_bi0 _ _ (by omega)]
      refine ⟨nI (len + 1), sts (sts s 50 len x) 49 2 (nI (len + 1)), sts (sts (sts (sts s 50 len x) 49 2 (nI (len + 1))) 88 len x) 70 22 (nI (len + 1)), ?_, ?_, h.tx (fun c c1 c2 c3 c4 => by rw [sts_n _ _ _ c3, sts_n _ _ _ c4, sts_n _ _ _ c1, sts_n _ _ _ c2]) ⟨len + 1, by omega, ?_, ?_, fun i hi => ?_⟩⟩
      · unfold f_X4_add f_X4_size
        rw [hF, ob_s, if_bi0 _ _ (by omega), l2, as _ 50 _ (show len < alen 50 from h1), ob_s, nm_eq, sts_n _ _ _ (by decide), l2, nadd, ob_s, ob_s, sts_s]
      · dsimp only
        rw [hA, ob_s, if_bi' _ _ h0, sts_n _ _ _ (by decide), sts_n _ _ _ (by decide), l3, ife _ _ (by omega) (by decide), if_neg (by omega), as _ 88 _ (show len < alen 88 from h1), ob_s, nm_eq, sts_n _ _ _ (show 70 ≠ 88 by decide), sts_n _ _ _ (show 70 ≠ 49 by decide), sts_n _ _ _ (show 70 ≠ 50 by decide), l3, nadd, sts_s]
      · rw [sts_n _ _ _ (by decide), sts_n _ _ _ (by decide), sts_s]
      · rw [sts_s]
      · rw [sts_n _ _ _ (by decide), sts_n _ _ _ (by decide), sts_n _ _ _ (by decide), sts_n _ _ _ (show 88 ≠ 70 by decide)]
        by_cases q : i = len
        · subst q
          rw [sts_s, sts_s]
          exact ⟨rfl, rngB (by decide) h0⟩
        · rw [sts_j _ _ _ q, sts_j _ _ _ q, sts_n _ _ _ (by decide), sts_n _ _ _ (by decide)]
          exact l4 i (by omega)
    · rw [if_bi' _ _ h1]
      refine OK_full h (r7f s) (fun s1 h3 => ?_)
      rw [hA, ob_s, if_bi' _ _ h0, h3 70 (by decide), l3, ife _ _ (by omega) (by decide), if_pos (by omega), r8f]
  · rw [if_bi0 _ _ h0]
    refine OK_bad h (-2) (r7 s) (fun s1 h3 => ?_)
    rw [hA, ob_s, if_bi0 _ _ h0, r8]
def rdgN (N : Nat → Int32) (nr : Nat) (r : Nat → Int32) : Nat → Int32 := fun i => if i = 3 then nI (nr + 1) else if 97 + 3 * nr ≤ i ∧ i < 97 + 3 * nr + 3 then r (i - (97 + 3 * nr)) else N i
theorem rdgN_o (N : Nat → Int32) (nr : Nat) (r : Nat → Int32) {i : Nat} (h0 : i ≠ 3) (h : i < 97 + 3 * nr ∨ 97 + 3 * nr + 3 ≤ i) : rdgN N nr r i = N i := by
  unfold rdgN
  rw [if_neg h0, if_neg (by omega)]
theorem rdgN_i (N : Nat → Int32) (nr : Nat) (r : Nat → Int32) {k : Nat} (h : k < 3) : rdgN N nr r (97 + 3 * nr + k) = r k := by
  unfold rdgN
  rw [if_neg (by omega), if_pos (by omega)]
  congr 1
  omega
theorem rdg_lay (N : Nat → Int32) (nr : Nat) (r : Nat → Int32) : upd (upd (upd (upd N (97 + 3 * nr) (r 0)) (97 + 3 * nr + 1) (r 1)) (97 + 3 * nr + 2) (r 2)) 3 (nI (nr + 1)) = rdgN N nr r := by
  funext i
  unfold rdgN
  by_cases q0 : i = 3
  · rw [if_pos q0, q0, upd_s]
  rw [upd_n _ _ q0, if_neg q0]
  by_cases q : 97 + 3 * nr ≤ i ∧ i < 97 + 3 * nr + 3
  · rw [if_pos q]
    obtain ⟨k, hk, rfl⟩ : ∃ k, k < 3 ∧ i = 97 + 3 * nr + k := ⟨i - (97 + 3 * nr), by omega, by omega⟩
    rw [Nat.add_sub_cancel_left]
    match k, hk with
    | 0, _ => rw [upd_n _ _ (by omega), upd_n _ _ (by omega)]; exact upd_s _ _ _
    | 1, _ => rw [upd_n _ _ (by omega), upd_s]
    | 2, _ => rw [upd_s]
  · rw [if_neg q, upd_n _ _ (by omega), upd_n _ _ (by omega), upd_n _ _ (by omega)]
section RDG
variable {s : Sg} {t : Nat} {N : Nat → Int32} {ns ne nr np : Nat}
theorem T_reading (h : TR s t N ns ne nr np) (hT : isT t) (hn : nr < 6) {c : Nat} (hc : 49 ≤ c) (hcl : alen c = 6) (hf : RdOK (s c) 0 ns) : ∃ s2, f_X2_add (t + 5) c s = some s2 ∧ (∀ d, d ≠ t + 5 → d ≠ t + 6 → s2 d = s d) ∧ TR s2 t (rdgN N nr (s c)) ns ne (nr + 1) np := by
  have ht := hT.lt
  obtain ⟨⟨⟨c0, c1, c3, c4⟩, ⟨b1, b2, b3, b4⟩, vl, vs, ve, vr, vd, vp⟩, ⟨r1, r2, r3, r4⟩, tl, ts, te, td, tr, tp⟩ := id h
  obtain ⟨s5, e1, e2⟩ := S_add r3 hT.k.2.2.1 hn (c := c) (by omega) (by omega) (by omega)
  have e3 := e2.w r3
  obtain ⟨f1, f2, f3, f4⟩ := e2
  have lo : ∀ i, i ≠ 3 → i < 97 → rdgN N nr (s c) i = N i := fun i h1 h2 => rdgN_o _ _ _ h1 (by omega)
  have hi' : ∀ i, 115 ≤ i → rdgN N nr (s c) i = N i := fun i h1 => rdgN_o _ _ _ (by omega) (by omega)
  refine ⟨s5, e1, fun d d1 d2 => f1 d d1 d2, ⟨⟨?_, ?_, rfl, ?_⟩, ⟨b1, b2, by omega, b4⟩, ?_, fun i hi => ?_, fun e he => ?_, fun w hw => ?_, fun r hr => ?_, fun j hj => ?_⟩, ⟨?_, ?_, e3, ?_⟩, ?_, fun i hi => ?_, fun i hi => ?_, fun i hi => ?_, fun w hw => ?_, fun j hj => ?_⟩
  · rw [lo _ (by decide) (by decide)]; exact c0
  · rw [lo _ (by decide) (by decide)]; exact c1
  · rw [lo _ (by decide) (by decide)]; exact c4
  · rw [lo _ (by decide) (by decide)]; exact vl
  · exact (vs i hi).c (fun k hk => lo _ (by omega) (by omega))
  · exact (ve e he).c (Nat.le_refl _) (fun k hk => lo _ (by omega) (by omega))
  · rw [lo _ (by omega) (by omega)]; exact vr w hw
  · by_cases q : r = nr
    · subst q
      exact hf.c (Nat.le_refl _) (fun k hk => by rw [rdgN_i _ _ _ hk, Nat.zero_add])
    · exact (vd r (by omega)).c (Nat.le_refl _) (fun k hk => rdgN_o _ _ _ (by omega) (by omega))
  · exact (vp j hj).c (Nat.le_refl _) (fun k hk => hi' _ (by omega))
  · unfold RW; rw [f1 _ (by omega) (by omega)]; exact r1
  · unfold RW; rw [f1 _ (by omega) (by omega)]; exact r2
  · unfold RW; rw [f1 _ (by omega) (by omega)]; exact r4
  · rw [f1 _ (by omega) (by omega), lo _ (by decide) (by decide)]; exact tl
  · rw [f1 _ (by omega) (by omega), lo _ (by omega) (by omega)]; exact ts i hi
  · rw [f1 _ (by omega) (by omega), lo _ (by omega) (by omega)]; exact te i hi
  · rw [show t + 6 = t + 5 + 1 from rfl, f4]
    unfold insF
    by_cases q : i < nr * 3
    · rw [if_pos q, show t + 5 + 1 = t + 6 from rfl, td i (by omega), rdgN_o _ _ _ (by omega) (by omega)]
    · rw [if_neg q, if_pos (by omega), show 97 + i = 97 + 3 * nr + (i - nr * 3) by omega, rdgN_i _ _ _ (by omega)]
  · rw [f1 _ (by omega) (by omega), lo _ (by omega) (by omega)]; exact tr w hw
  · obtain ⟨p1, p2, p3⟩ := tp j hj
    refine ⟨?_, ?_, fun c2 i q1 q2 q3 => ?_⟩
    · rw [f1 _ (by omega) (by omega), hi' _ (by omega)]; exact p1
    · rw [f1 _ (by omega) (by omega), hi' _ (by omega)]; exact p2
    · rw [hi' _ (by omega)] at q1
      rw [f1 _ (by omega) (by omega), hi' _ (by omega)]; exact p3 c2 i q1 q2 q3
theorem T_burn (h : TR s t N ns ne nr np) : TR (sts s (t + 5) 2 (nI 0)) t (upd N 3 (nI 0)) ns ne 0 np := by
  obtain ⟨⟨⟨c0, c1, c3, c4⟩, ⟨b1, b2, b3, b4⟩, vl, vs, ve, vr, vd, vp⟩, ⟨r1, r2, r3, r4⟩, tl, ts, te, td, tr, tp⟩ := id h
  have lo : ∀ i, i ≠ 3 → upd N 3 (nI 0) i = N i := fun i h1 => upd_n _ _ h1
  have f1 : ∀ d, d ≠ t + 5 → sts s (t + 5) 2 (nI 0) d = s d := fun d hd => sts_n _ _ _ hd
  refine ⟨⟨⟨?_, ?_, upd_s _ _ _, ?_⟩, ⟨b1, b2, by omega, b4⟩, ?_, fun i hi => ?_, fun e he => ?_, fun w hw => ?_, fun r hr => absurd hr (by omega), fun j hj => ?_⟩, ⟨?_, ?_, ⟨(sts_j _ _ _ (by decide)).trans r3.1, sts_s _ _ _ _⟩, ?_⟩, ?_, fun i hi => ?_, fun i hi => ?_, fun i hi => absurd hi (by omega), fun w hw => ?_, fun j hj => ?_⟩
  · rw [lo _ (by decide)]; exact c0
  · rw [lo _ (by decide)]; exact c1
  · rw [lo _ (by decide)]; exact c4
  · rw [lo _ (by decide)]; exact vl
  · exact (vs i hi).c (fun k hk => lo _ (by omega))
  · exact (ve e he).c (Nat.le_refl _) (fun k hk => lo _ (by omega))
  · rw [lo _ (by omega)]; exact vr w hw
  · exact (vp j hj).c (Nat.le_refl _) (fun k hk => lo _ (by omega))
  · unfold RW; rw [f1 _ (by omega)]; exact r1
  · unfold RW; rw [f1 _ (by omega)]; exact r2
  · unfold RW; rw [f1 _ (by omega)]; exact r4
  · rw [f1 _ (by omega), lo _ (by decide)]; exact tl
  · rw [f1 _ (by omega), lo _ (by omega)]; exact ts i hi
  · rw [f1 _ (by omega), lo _ (by omega)]; exact te i hi
  · rw [f1 _ (by omega), lo _ (by omega)]; exact tr w hw
  · obtain ⟨p1, p2, p3⟩ := tp j hj
    refine ⟨?_, ?_, fun c2 i q1 q2 q3 => ?_⟩
    · rw [f1 _ (by omega), lo _ (by omega)]; exact p1
    · rw [f1 _ (by omega), lo _ (by omega)]; exact p2
    · rw [lo _ (by omega)] at q1
      rw [f1 _ (by omega), lo _ (by omega)]; exact p3 c2 i q1 q2 q3
end RDG
theorem OK_burn {s : Sg} (h : REL s) : OKop (f_X7_burn s) f_X8_burn := by
  obtain ⟨ns, ne, nr, np, hT⟩ := h.1
  have hb := T_burn hT
  refine ⟨nI nr, sts s 6 2 (nI 0), sts (sts s 6 2 (nI 0)) 71 3 (nI 0), ?_, ?_, h.mk (fun c c1 c2 c3 => by rw [sts_n _ _ _ c3, sts_n _ _ _ (by omega)]) ⟨ns, ne, 0, np, ?_⟩⟩
  · unfold f_X7_burn
    rw [S_size, ob_s, S_empty, ob_s, show s 6 2 = nI nr from hT.2.1.2.2.1.2]
  · unfold f_X8_burn
    rw [ag _ 71 (by decide) (by decide), ob_s, as _ 71 _ (by decide), ob_s, sts_n _ _ _ (by decide), hT.1.1.2.2.1]
  · rw [sts_c, sts_n _ _ _ (show 71 ≠ 6 by decide)]
    exact hb.fr (fun c c1 c2 => sts_n _ _ _ (by omega))
theorem OK_reading {s : Sg} (h : REL s) (x y z : Int32) : OKop (f_X7_reading x y z s) (f_X8_reading x y z) := by
  obtain ⟨ns, ne, nr, np, hT⟩ := h.1
  have hV := hT.1
  obtain ⟨b1, b2, b3, b4⟩ := hV.2.1
  unfold f_X7_reading f_X8_reading
  rw [S7_isStreet hT, ob_s]
  by_cases h0 : 0 ≤ x ∧ x < nI ns
  · rw [if_bi' _ _ h0, S_isHour, ob_s]
    by_cases h1 : 0 ≤ y ∧ y < nI 24
    · rw [if_bi' _ _ h1, S_isBelow, ob_s]
      by_cases h2 : 0 ≤ z ∧ z < nI 16
      · rw [if_bi' _ _ h2, S_isFull hT.2.1.2.2.1 T1.k.2.2.1 b3, ob_s]
        by_cases h3 : nr = 6
        · rw [if_bi' _ _ h3]
          refine OK_full h (r7f s) (fun s1 h5 => ?_)
          rw [S8_isStreet (n8 h5) hV, ob_s, if_bi' _ _ h0, S8_isHour, ob_s, if_bi' _ _ h1, S8_isWord, ob_s, if_bi' _ _ h2, ag _ 71 (by decide) (by decide), ob_s, n8 h5, hV.1.2.2.1, ife _ _ (by omega) (by decide), if_pos h3, r8f]
        · rw [if_bi0 _ _ h3, as _ 69 _ (by decide), ob_s, as _ 69 _ (by decide), ob_s, as _ 69 _ (by decide), ob_s]
          have h' := ((h.s69 0 x).s69 1 y).s69 2 z
          have e69 : sts (sts (sts s 69 0 x) 69 1 y) 69 2 z 69 = upd (upd (upd (s 69) 0 x) 1 y) 2 z := by rw [sts_c, sts_c, sts_c]
          have oo : ∀ c, c ≠ 69 → sts (sts (sts s 69 0 x) 69 1 y) 69 2 z c = s c := fun c hc => by rw [sts_n _ _ _ hc, sts_n _ _ _ hc, sts_n _ _ _ hc]
          generalize sts (sts (sts s 69 0 x) 69 1 y) 69 2 z = s' at h' e69 oo ⊢
          have r0 : s' 69 0 = x := by rw [e69]; rfl
          have r1 : s' 69 1 = y := by rw [e69]; rfl
          have r2 : s' 69 2 = z := by rw [e69]; rfl
          clear e69
          have hT' : TR s' 1 (s 71) ns ne nr np := hT.fr (fun c c1 c2 => oo c (by omega))
          obtain ⟨s1, e1, e2, e3⟩ := T_reading hT' T1 (by omega) (c := 69) (by decide) rfl (by
            unfold RdOK
            rw [Nat.zero_add, Nat.zero_add, r0, r1, r2]
            exact ⟨rngB (by omega) h0, rngB (by decide) h1, rngB (by decide) h2⟩)
          have e4 := e3.2.1.2.2.1.2
          rw [show f_X2_add 6 69 s' = some s1 from e1, ob_s, S_size, ob_s, show s1 6 2 = nI (nr + 1) from e4, nsub (by omega)]
          have e71 : s1 71 = s 71 := (e2 71 (by decide) (by decide)).trans (oo 71 (by decide))
          refine ⟨_, s1, sts (sts (sts (sts s1 71 (97 + 3 * nr) x) 71 (97 + 3 * nr + 1) y) 71 (97 + 3 * nr + 2) z) 71 3 (nI (nr + 1)), rfl, ?_, h.mk (fun c c1 c2 c3 => ?_) ⟨ns, ne, nr + 1, np, ?_⟩⟩
          · dsimp only
            rw [S8_isStreet e71 hV, ob_s, if_bi' _ _ h0, S8_isHour, ob_s, if_bi' _ _ h1, S8_isWord, ob_s, if_bi' _ _ h2, ag _ 71 (by decide) (by decide), ob_s, e71, hV.1.2.2.1, ife _ _ (by omega) (by decide), if_neg h3, ob_s, nmul, nadd, nm_eq, nadd, nadd, as _ 71 _ (show 97 + 3 * nr < 515 by omega), ob_s, as _ 71 _ (show 97 + 3 * nr + 1 < 515 by omega), ob_s, as _ 71 _ (show 97 + 3 * nr + 2 < 515 by omega), ob_s, ag _ 71 (show 3 < 515 by decide) (by decide), ob_s, sts_j _ _ _ (by omega), sts_j _ _ _ (by omega), sts_j _ _ _ (by omega), e71, hV.1.2.2.1, nadd, as _ 71 _ (show 3 < 515 by decide), ob_s, ag _ 71 (show 3 < 515 by decide) (by decide), ob_s, sts_s, nsub (by omega)]
          · rw [sts_n _ _ _ c3, sts_n _ _ _ c3, sts_n _ _ _ c3, sts_n _ _ _ c3, e2 c (by omega) (by omega), oo c c2]
          · have : sts (sts (sts (sts s1 71 (97 + 3 * nr) x) 71 (97 + 3 * nr + 1) y) 71 (97 + 3 * nr + 2) z) 71 3 (nI (nr + 1)) 71 = rdgN (s 71) nr (s' 69) := by
              rw [sts_c, sts_c, sts_c, sts_c, e71, ← rdg_lay, r0, r1, r2]
            rw [this]
            exact e3.fr (fun c c1 c2 => by rw [sts_n _ _ _ (by omega), sts_n _ _ _ (by omega), sts_n _ _ _ (by omega), sts_n _ _ _ (by omega)])
      · rw [if_bi0 _ _ h2]
        refine OK_bad h (-2) (r7 s) (fun s1 h5 => ?_)
        rw [S8_isStreet (n8 h5) hV, ob_s, if_bi' _ _ h0, S8_isHour, ob_s, if_bi' _ _ h1, S8_isWord, ob_s, if_bi0 _ _ h2, r8]
    · rw [if_bi0 _ _ h1]
      refine OK_bad h (-2) (r7 s) (fun s1 h5 => ?_)
      rw [S8_isStreet (n8 h5) hV, ob_s, if_bi' _ _ h0, S8_isHour, ob_s, if_bi0 _ _ h1, r8]
  · rw [if_bi0 _ _ h0]
    refine OK_bad h (-2) (r7 s) (fun s1 h5 => ?_)
    rw [S8_isStreet (n8 h5) hV, ob_s, if_bi0 _ _ h0, r8]
theorem OK_status {s : Sg} (h : REL s) (x : Int32) : OKop (f_X7_status x s) (f_X8_status x) := by
  obtain ⟨q0, q1, q2⟩ := h.2.1
  have hA : ∀ s : Sg, f_X8_in (Int32.toInt64 x) (0 : Int64) (2 : Int64) s = some (bi (0 ≤ x ∧ x < nI 3)) := fun s => S8_inB x (by decide) _ (by decide) s
  unfold f_X7_status f_X8_status
  by_cases h0 : 0 ≤ x ∧ x < nI 3
  · obtain ⟨k, hk, rfl⟩ := rngB (by decide) h0
    have e : (if nI k = nI 0 then some (s 0 11, s) else if nI k = nI 1 then some (s 0 12, s) else if nI k = nI 2 then some (s 0 13, s) else ob2 (f_X7_refuseBad s) fun (v1 : Int32) (s2 : Sg) => some (-1, s2)) = some (s 74 k, s) := by
      match k, hk with
      | 0, _ => rw [if_pos rfl, q0]
      | 1, _ => rw [if_neg (by decide), if_pos rfl, q1]
      | 2, _ => rw [if_neg (by decide), if_neg (by decide), if_pos rfl, q2]
    refine ⟨s 74 k, s, s, e, ?_, h⟩
    dsimp only
    rw [hA, ob_s, if_bi' _ _ h0, ag _ 74 (show k < alen 74 from hk) (by omega), ob_s]
  · have n : ∀ k, k < 3 → x ≠ nI k := fun k hk e => h0 (by rw [e, isB (by omega) (by decide)]; exact hk)
    rw [if_neg (n 0 (by decide)), if_neg (n 1 (by decide)), if_neg (n 2 (by decide))]
    refine OK_bad h (-1) rfl (fun s1 h3 => ?_)
    rw [hA, ob_s, if_bi0 _ _ h0, r8]
/-- what is counted -/
def cqN (N : Nat → Int32) (len k : Nat) : Int32 := if k < 5 then N k else nI len
theorem S_countOf {s : Sg} {N : Nat → Int32} {ns ne nr np len k : Nat} (hT : TR s 1 N ns ne nr np) (hl : s 49 2 = nI len) (hk : k < 6) : f_X7_countOf (nI k) s = some (cqN N len k) := by
  obtain ⟨⟨⟨c0, c1, c3, c4⟩, _⟩, ⟨r1, r2, r3, r4⟩, tl, _⟩ := hT
  unfold f_X7_countOf cqN
  match k, hk with
  | 0, _ => rw [if_pos rfl, if_pos (by decide), c0]; exact congrArg some r1.2
  | 1, _ => rw [if_neg (by decide), if_pos rfl, if_pos (by decide), c1]; exact congrArg some r2.2
  | 2, _ => rw [if_neg (by decide), if_neg (by decide), if_pos rfl, if_pos (by decide), tl]
  | 3, _ => rw [if_neg (by decide), if_neg (by decide), if_neg (by decide), if_pos rfl, if_pos (by decide), c3]; exact congrArg some r3.2
  | 4, _ => rw [if_neg (by decide), if_neg (by decide), if_neg (by decide), if_neg (by decide), if_pos rfl, if_pos (by decide), c4]; exact congrArg some r4.2
  | 5, _ => rw [if_neg (by decide), if_neg (by decide), if_neg (by decide), if_neg (by decide), if_neg (by decide), if_neg (by decide), ← hl]; rfl
theorem S8_counted {s : Sg} {N : Nat → Int32} {len k : Nat} (h : s 71 = N) (hl : s 70 22 = nI len) (hk : k < 6) : f_X8_counted (nI k) s = some (cqN N len k) := by
  unfold f_X8_counted cqN
  rw [ifle _ _ (by decide) (by omega)]
  by_cases q : k < 5
  · rw [if_neg (by omega), if_pos q, ag _ 71 (show k < 515 by omega) (by omega), ob_s, h]
  · rw [if_pos (by omega), if_neg q, hl]
theorem OK_count {s : Sg} (h : REL s) (x : Int32) : OKop (f_X7_count x s) (f_X8_count x) := by
  obtain ⟨ns, ne, nr, np, hT⟩ := h.1
  obtain ⟨len, l1, l2, l3, l4⟩ := h.2.2.1
  have hA : ∀ s : Sg, f_X8_in (Int32.toInt64 x) (0 : Int64) (5 : Int64) s = some (bi (0 ≤ x ∧ x < nI 6)) := fun s => S8_inB x (by decide) _ (by decide) s
  unfold f_X7_count f_X8_count
  rw [S_isBelow, ob_s]
  by_cases h0 : 0 ≤ x ∧ x < nI 6
  · obtain ⟨k, hk, rfl⟩ := rngB (by decide) h0
    rw [if_bi' _ _ h0, S_countOf hT l2 hk, ob_s]
    refine ⟨_, s, s, rfl, ?_, h⟩
    dsimp only
    rw [hA, ob_s, if_bi' _ _ h0, S8_counted rfl l3 hk, ob_s]
  · rw [if_bi0 _ _ h0]
    refine OK_bad h (-2) (r7 s) (fun s1 h3 => ?_)
    rw [hA, ob_s, if_bi0 _ _ h0, r8]
/-- mixed into a sum -/
def mixF (f : Nat → Int32) (n : Nat) (a : Int64) : Int64 := forN (fun i b => (31 : Int64) * b + Int32.toInt64 (f i)) n a
theorem mixF_c {f g : Nat → Int32} {n : Nat} {a : Int64} (h : ∀ i, i < n → f i = g i) : mixF f n a = mixF g n a := forN_c (fun i b hi => by rw [h i hi])
theorem S_mix {s : Sg} {o w n m : Nat} (h : RW s o w n) (hk : RK o w m) (hn : n ≤ m) (a : Int64) : f_X2_mixInto o a s = some (mixF (s (o + 1)) (n * w) a) := by
  obtain ⟨a1, a2, a3, a4⟩ := hk.le hn
  obtain ⟨h1, h2, h3, h4⟩ := hk
  unfold f_X2_mixInto
  refine lp2_ax (fun o2 => o2 = some (mixF (s (o + 1)) (n * w) a)) (fun i (st : Int64) => st = mixF (s (o + 1)) i a) 0 (n * w) (by omega) ?_ ?_ (by omega) a rfl
  · rintro self i st - hi rfl
    right
    unfold b_X2_mixInto_5
    rw [h.1, h.2, nmul, ifle _ _ (by omega) (by omega), if_neg (by omega), ag _ _ (by rw [h1]; omega) (by omega), ob_s, nm_eq, nadd]
    exact ⟨_, rfl, rfl⟩
  · rintro self st rfl
    unfold b_X2_mixInto_5
    rw [h.1, h.2, nmul, ifle _ _ (by omega) (by omega), if_pos (by omega)]
theorem S8_sums (s : Sg) {p n : Nat} (hp : p + n ≤ 515) (a : Int64) : f_X8_sums a (nI p) (nI n) s = some (mixF (fun i => s 71 (p + i)) n a) := by
  unfold f_X8_sums
  refine lp2_ax (fun o2 => o2 = some (mixF (fun i => s 71 (p + i)) n a)) (fun i (st : Int64) => st = mixF (fun i => s 71 (p + i)) i a) 0 n (by omega) ?_ ?_ (by omega) a rfl
  · rintro self i st - hi rfl
    right
    unfold b_X8_sums_6
    rw [ifle _ _ (by omega) (by omega), if_neg (by omega), nadd, ag _ 71 (show p + i < 515 by omega) (by omega), ob_s, nm_eq, nadd]
    exact ⟨_, rfl, rfl⟩
  · rintro self st rfl
    unfold b_X8_sums_6
    rw [ifle _ _ (by omega) (by omega), if_pos (by omega)]
def mixT (N : Nat → Int32) (ns ne nr : Nat) (a : Int64) : Int64 := mixF (fun i => N (97 + i)) (3 * nr) (mixF (fun i => N (81 + i)) 16 (mixF (fun i => N (33 + i)) (6 * ne) (mixF (fun i => N (5 + i)) (4 * ns) a)))
theorem mixF_e {f g : Nat → Int32} {n m : Nat} (a : Int64) (hn : n = m) (h : ∀ i, i < m → f i = g i) : mixF f n a = mixF g m a := by
  subst hn
  exact mixF_c h
theorem T_mixR {s : Sg} {t : Nat} {N : Nat → Int32} {nr : Nat} (ha : alen (t + 9) = 16) (tr : ∀ w, w < 16 → s (t + 9) w = N (81 + w)) (hm : ∀ a, f_X2_mixInto (t + 5) a s = some (mixF (fun i => N (97 + i)) (3 * nr) a)) (b : Int64) : lp2_ (b_X5_mixInto_19 t s) fu b (nI 0) = some (mixF (fun i => N (97 + i)) (3 * nr) (mixF (fun i => N (81 + i)) 16 b)) := by
  refine lp2_ax (fun o2 => o2 = some (mixF (fun i => N (97 + i)) (3 * nr) (mixF (fun i => N (81 + i)) 16 b))) (fun i (st : Int64) => st = mixF (fun i => N (81 + i)) i b) 0 16 (by omega) ?_ ?_ (by omega) b rfl
  · rintro self i st - hi h2
    right
    unfold b_X5_mixInto_19
    rw [ifle _ _ (by omega) (by omega), if_neg (by omega), ag _ _ (by rw [ha]; exact hi) (by omega), ob_s, nm_eq, nadd, tr i hi, h2]
    exact ⟨_, rfl, rfl⟩
  · rintro self st h2
    unfold b_X5_mixInto_19
    rw [ifle _ _ (by omega) (by omega), if_pos (by omega), hm, ob_s, h2]
theorem T_mix {s : Sg} {t : Nat} {N : Nat → Int32} {ns ne nr np : Nat} (h : TR s t N ns ne nr np) (hT : isT t) (a : Int64) : f_X5_mixInto t a s = some (mixT N ns ne nr a) := by
  obtain ⟨k1, k2, k3, k4, k5, _⟩ := hT.k
  obtain ⟨⟨⟨c0, c1, c3, c4⟩, ⟨b1, b2, b3, b4⟩, _⟩, ⟨r1, r2, r3, r4⟩, tl, ts, te, td, tr, tp⟩ := id h
  have m1 := S_mix r1 k1 b1 a
  rw [mixF_e (m := 4 * ns) (g := fun i => N (5 + i)) a (Nat.mul_comm _ _) (fun i hi => ts i hi)] at m1
  have m2 := S_mix r2 k2 b2 (mixF (fun i => N (5 + i)) (4 * ns) a)
  rw [mixF_e (m := 6 * ne) (g := fun i => N (33 + i)) _ (Nat.mul_comm _ _) (fun i hi => te i hi)] at m2
  have m3 := fun b => (S_mix r3 k3 b3 b).trans (congrArg some (mixF_e (m := 3 * nr) (g := fun i => N (97 + i)) b (Nat.mul_comm _ _) (fun i hi => td i hi)))
  unfold f_X5_mixInto
  rw [m1, ob_s, m2, ob_s]
  exact T_mixR k5 tr m3 _
theorem OK_digest {s : Sg} (h : REL s) : ∃ r, f_X7_digest s = some r ∧ f_X8_digest s = some r := by
  obtain ⟨ns, ne, nr, np, hT⟩ := h.1
  obtain ⟨len, l1, l2, l3, l4⟩ := h.2.2.1
  obtain ⟨b1, b2, b3, b4⟩ := hT.1.2.1
  refine ⟨mixT (s 71) ns ne nr (mixF (cqN (s 71) len) 6 911), ?_, ?_⟩
  · unfold f_X7_digest
    refine lp2_ax (fun o2 => o2 = some (mixT (s 71) ns ne nr (mixF (cqN (s 71) len) 6 911))) (fun i (st : Int64) => st = mixF (cqN (s 71) len) i 911) 0 6 (by omega) ?_ ?_ (by omega) 911 rfl
    · rintro self i st - hi rfl
      right
      unfold b_X7_digest_6
      rw [ifle _ _ (by omega) (by omega), if_neg (by omega), S_countOf hT l2 hi, ob_s, nm_eq, nadd]
      exact ⟨_, rfl, rfl⟩
    · rintro self st rfl
      unfold b_X7_digest_6
      rw [ifle _ _ (by omega) (by omega), if_pos (by omega), T_mix hT T1, ob_s]
  · unfold f_X8_digest
    rw [nm_eq]
    refine lp2_ax (fun o2 => o2 = some (mixT (s 71) ns ne nr (mixF (cqN (s 71) len) 6 911))) (fun i (st : Int64) => st = mixF (cqN (s 71) len) i 911) 0 6 (by omega) ?_ ?_ (by omega) 911 rfl
    · rintro self i st - hi rfl
      right
      unfold b_X8_digest_6
      rw [ifle _ _ (by omega) (by omega), if_neg (by omega), S8_counted rfl l3 hi, ob_s, nm_eq, nadd]
      exact ⟨_, rfl, rfl⟩
    · rintro self st rfl
      unfold b_X8_digest_6
      rw [ifle _ _ (by omega) (by omega), if_pos (by omega)]
      dsimp only
      rw [S8_streets rfl hT.1, ob_s, nmul, S8_sums s (by omega), ob_s, S8_events rfl hT.1, ob_s, nmul, S8_sums s (by omega), ob_s, S8_sums s (by omega), ob_s, ag _ 71 (show 3 < 515 by decide) (by decide), ob_s, hT.1.1.2.2.1, nmul, S8_sums s (by omega), ob_s]
      rfl
