/-! image, from -/
theorem TR.cc {s : Sg} {t : Nat} {N M : Nat → Int32} {ns ne nr np : Nat} (h : TR s t N ns ne nr np) (e : ∀ i, i < 515 → M i = N i) : TR s t M ns ne nr np := by
  obtain ⟨b1, b2, b3, b4⟩ := h.1.2.1
  refine h.c (h.1.c (fun i hi => e i (by omega)) (fun i hi => e _ (by omega)) (fun i hi => e _ (by omega)) (fun w hw => ?_) (fun i hi => e _ (by omega)) (fun j i hj hi => e _ (by omega))) (e 2 (by decide)) (fun i hi => e _ (by omega)) (fun i hi => e _ (by omega)) (fun i hi => e _ (by omega)) (fun i hi => e _ (by omega)) (fun j i hj hi => e _ (by omega))
  rw [e _ (by omega)]
  exact h.1.2.2.2.2.2.1 w hw
theorem isT.far {t t1 : Nat} (h : isT t) (h1 : isT t1) (hn : t ≠ t1) : t + 12 ≤ t1 ∨ t1 + 12 ≤ t := by
  rcases h with rfl | rfl | rfl | rfl <;> rcases h1 with rfl | rfl | rfl | rfl <;> omega
theorem T_copy {s : Sg} {t t1 : Nat} {N : Nat → Int32} {ns ne nr np : Nat} (h : TR s t1 N ns ne nr np) (hW : WT s t) (hT : isT t) (hT1 : isT t1) (hne : t ≠ t1) : ∃ s2, f_X5_copy t t1 s = some s2 ∧ (∀ c, (c < t ∨ t + 10 ≤ c) → s2 c = s c) ∧ TR s2 t N ns ne nr np := by
  have hf := hT.far hT1 hne
  obtain ⟨k1, k2, k3, k4, k5, _⟩ := hT.k
  obtain ⟨j1, j2, j3, j4, j5, _⟩ := hT1.k
  obtain ⟨w1, w2, w3, w4⟩ := hW
  obtain ⟨hV, ⟨r1, r2, r3, r4⟩, tl, ts, te, td, tr, tp⟩ := id h
  obtain ⟨b1, b2, b3, b4⟩ := hV.2.1
  unfold f_X5_copy
  obtain ⟨s1, e1, a1⟩ := S_copy w1 r1 k1 j1 (by omega) (by omega)
  have x1 := a1.1
  rw [e1, ob_s]
  have m1 : RW s1 (t + 1) 4 ns := ⟨a1.2.1.trans w1, a1.2.2.1⟩
  obtain ⟨s2, e2, a2⟩ := S_copy (s := s1) (o := t + 3) (o1 := t1 + 3) (w := 6) (n := ne) (m := 8) (by rw [x1 _ (by omega) (by omega)]; exact w2) (by unfold RW; rw [x1 _ (by omega) (by omega)]; exact r2) k2 j2 (by omega) (by omega)
  have x2 := a2.1
  rw [e2, ob_s]
  have m2 : RW s2 (t + 3) 6 ne := ⟨a2.2.1.trans (by rw [x1 _ (by omega) (by omega)]; exact w2), a2.2.2.1⟩
  obtain ⟨s3, e3, a3⟩ := S_copy (s := s2) (o := t + 5) (o1 := t1 + 5) (w := 3) (n := nr) (m := 6) (by rw [x2 _ (by omega) (by omega), x1 _ (by omega) (by omega)]; exact w3) (by unfold RW; rw [x2 _ (by omega) (by omega), x1 _ (by omega) (by omega)]; exact r3) k3 j3 (by omega) (by omega)
  have x3 := a3.1
  rw [e3, ob_s]
  have m3 : RW s3 (t + 5) 3 nr := ⟨a3.2.1.trans (by rw [x2 _ (by omega) (by omega), x1 _ (by omega) (by omega)]; exact w3), a3.2.2.1⟩
  obtain ⟨s4, e4, a4⟩ := S_copy (s := s3) (o := t + 7) (o1 := t1 + 7) (w := 50) (n := np) (m := 8) (by rw [x3 _ (by omega) (by omega), x2 _ (by omega) (by omega), x1 _ (by omega) (by omega)]; exact w4) (by unfold RW; rw [x3 _ (by omega) (by omega), x2 _ (by omega) (by omega), x1 _ (by omega) (by omega)]; exact r4) k4 j4 (by omega) (by omega)
  have x4 := a4.1
  rw [e4, ob_s]
  have m4 : RW s4 (t + 7) 50 np := ⟨a4.2.1.trans (by rw [x3 _ (by omega) (by omega), x2 _ (by omega) (by omega), x1 _ (by omega) (by omega)]; exact w4), a4.2.2.1⟩
  rw [ac _ _ _ (by rw [j5]; omega) (by rw [k5]; omega), ob_s, nm_eq]
  have far : ∀ c, (c < t ∨ t + 10 ≤ c) → s4 c = s c := fun c hc => by rw [x4 _ (by omega) (by omega), x3 _ (by omega) (by omega), x2 _ (by omega) (by omega), x1 _ (by omega) (by omega)]
  have f7 : (setc s4 (t + 9) (va_cpy (s4 (t1 + 9)) (s4 (t + 9)) 0 0 16)) t1 7 = N 2 := by
    rw [setc_n _ _ (by omega), far t1 (by omega)]; exact tl
  rw [f7]
  generalize hz : sts (setc s4 (t + 9) (va_cpy (s4 (t1 + 9)) (s4 (t + 9)) 0 0 16)) t 7 (N 2) = z
  have zo : ∀ c, c ≠ t → c ≠ t + 9 → z c = s4 c := fun c c1 c2 => by rw [← hz, sts_n _ _ _ c1, setc_n _ _ c2]
  refine ⟨z, rfl, fun c hc => ?_, hV, ⟨?_, ?_, ?_, ?_⟩, ?_, fun i hi => ?_, fun i hi => ?_, fun i hi => ?_, fun w hw => ?_, fun j hj => ?_⟩
  · by_cases q : c = t
    · omega
    · rw [zo c q (by omega)]; exact far c hc
  · unfold RW; rw [zo _ (by omega) (by omega), x4 _ (by omega) (by omega), x3 _ (by omega) (by omega), x2 _ (by omega) (by omega)]; exact m1
  · unfold RW; rw [zo _ (by omega) (by omega), x4 _ (by omega) (by omega), x3 _ (by omega) (by omega)]; exact m2
  · unfold RW; rw [zo _ (by omega) (by omega), x4 _ (by omega) (by omega)]; exact m3
  · unfold RW; rw [zo _ (by omega) (by omega)]; exact m4
  · rw [← hz, sts_s]
  · rw [zo _ (by omega) (by omega), x4 _ (by omega) (by omega), x3 _ (by omega) (by omega), x2 _ (by omega) (by omega), show t + 2 = t + 1 + 1 from rfl, a1.2.2.2]
    dsimp only
    rw [if_pos (by omega)]
    exact ts i hi
  · rw [zo _ (by omega) (by omega), x4 _ (by omega) (by omega), x3 _ (by omega) (by omega), show t + 4 = t + 3 + 1 from rfl, a2.2.2.2]
    dsimp only
    rw [if_pos (by omega), x1 _ (by omega) (by omega)]
    exact te i hi
  · rw [zo _ (by omega) (by omega), x4 _ (by omega) (by omega), show t + 6 = t + 5 + 1 from rfl, a3.2.2.2]
    dsimp only
    rw [if_pos (by omega), x2 _ (by omega) (by omega), x1 _ (by omega) (by omega)]
    exact td i hi
  · rw [← hz, sts_n _ _ _ (by omega), setc_s]
    unfold va_cpy
    rw [if_pos ⟨by omega, by omega⟩, far _ (by omega), Nat.zero_add, Nat.sub_zero]
    exact tr w hw
  · have e8 : z (t + 8) = fun i => if i < 50 * 8 then s (t1 + 8) i else s3 (t + 8) i := by
      rw [zo _ (by omega) (by omega), show t + 8 = t + 7 + 1 from rfl, a4.2.2.2, x3 (t1 + 7 + 1) (by omega) (by omega), x2 _ (by omega) (by omega), x1 _ (by omega) (by omega)]
    obtain ⟨p1, p2, p3⟩ := tp j hj
    refine ⟨?_, ?_, fun c2 i q1 q2 q3 => ?_⟩
    · rw [e8]; dsimp only; rw [if_pos (by omega)]; exact p1
    · rw [e8]; dsimp only; rw [if_pos (by omega)]; exact p2
    · rw [e8]; dsimp only; rw [if_pos (by omega)]; exact p3 c2 i q1 q2 q3
theorem im_or : ∀ a, a < 2 → ∀ b, b < 2 → (nI (a + 2 * b) ||| (nI 1 <<< (nI 0 &&& 31)) = nI (1 + 2 * b)) ∧ (nI (a + 2 * b) ||| (nI 1 <<< (nI 1 &&& 31)) = nI (a + 2 * 1)) ∧ (hb (nI (a + 2 * b)) 0 = true ↔ a = 1) ∧ (hb (nI (a + 2 * b)) 1 = true ↔ b = 1) := by decide +kernel
theorem S8_image {s : Sg} {x : Nat} (hx : x < 2) : lp2_ (b_X8_image_19 (fun s2 => (zset s2 73 (nI x) (nI 1)).bind fun s4 => some ((nI 1), s4)) (nI x)) fu (nI 0) s = some (nI 1, sts (setc s 72 (cpR (s 72) (s 71) (515 * x) 0 515)) 73 x (nI 1)) := by
  refine lp2_ix (fun o => o = some (nI 1, sts (setc s 72 (cpR (s 72) (s 71) (515 * x) 0 515)) 73 x (nI 1))) (fun k (st : Sg) => st = setc s 72 (cpR (s 72) (s 71) (515 * x) 0 k)) 0 515 (by omega) ?_ ?_ (by omega) s ?_
  · rintro self k st - hk rfl
    right
    unfold b_X8_image_19
    rw [ifle _ _ (by omega) (by omega), if_neg (by omega), ag _ 71 (show k < 515 from hk) (by omega), ob_s, nmul, nadd, as _ 72 _ (show 515 * x + k < 1030 by omega), ob_s, nadd, setc_n _ _ (show 71 ≠ 72 by decide)]
    refine ⟨_, rfl, ?_⟩
    have := cpR_s (s 72) (s 71) (515 * x) 0 k
    rw [Nat.zero_add] at this
    unfold sts
    rw [setc_s, this]
    funext d
    unfold setc
    by_cases q : d = 72
    · rw [if_pos q, if_pos q]
    · rw [if_neg q, if_neg q, if_neg q]
  · rintro self st rfl
    unfold b_X8_image_19
    rw [ifle _ _ (by omega) (by omega), if_pos (by omega)]
    dsimp only
    rw [zs _ 73 _ (show x < alen 73 from hx), ob_s]
    rfl
  · funext d
    unfold setc
    by_cases q : d = 72
    · rw [if_pos q, q, cpR_0]
    · rw [if_neg q]
theorem S_imageOf {x : Nat} (s : Sg) (hx : x < 2) : f_X7_imageOf (nI x) s = some (25 + 12 * x) := by
  unfold f_X7_imageOf
  match x, hx with
  | 0, _ => rfl
  | 1, _ => rfl
theorem OK_image {s : Sg} (h : REL s) (x : Int32) : OKop (f_X7_image x s) (f_X8_image x) := by
  have hA : ∀ s : Sg, f_X8_in (Int32.toInt64 x) (0 : Int64) (1 : Int64) s = some (bi (0 ≤ x ∧ x < nI 2)) := fun s => S8_inB x (by decide) _ (by decide) s
  unfold f_X7_image f_X8_image
  rw [S_isBelow, ob_s]
  by_cases h0 : 0 ≤ x ∧ x < nI 2
  · rw [if_bi' _ _ h0]
    obtain ⟨k, hk, rfl⟩ := rngB (by decide) h0
    obtain ⟨⟨ns, ne, nr, np, hT⟩, hS, ⟨len, l1, l2, l3, l4⟩, ⟨b0, b1, i1, i2, i3, i4, i5, i6, i7⟩, ⟨w1, w2⟩, ⟨nb, n1, n2⟩⟩ := id h
    obtain ⟨s1, e1, e2, e3⟩ := T_copy hT (t := 25 + 12 * k) (w2 _ (by omega)) (by unfold isT; omega) T1 (by omega)
    obtain ⟨o1, o2, o3, o4⟩ := im_or b0 (by omega) b1 (by omega)
    rw [S_imageOf s hk, ob_s, e1, ob_s, nm_eq]
    have f0 : s1 0 = s 0 := e2 0 (by omega)
    have f71 : s1 71 = s 71 := e2 71 (by omega)
    have f72 : s1 72 = s 72 := e2 72 (by omega)
    have f73 : s1 73 = s 73 := e2 73 (by omega)
    have hs2 := S8_image (s := sts s1 0 10 (s1 0 10 ||| nI 1 <<< (nI k &&& 31))) hk
    have f0' : sts s1 0 10 (s1 0 10 ||| nI 1 <<< (nI k &&& 31)) 72 = s 72 := by rw [sts_n _ _ _ (by decide), f72]
    have f1' : sts s1 0 10 (s1 0 10 ||| nI 1 <<< (nI k &&& 31)) 71 = s 71 := by rw [sts_n _ _ _ (by decide), f71]
    rw [f0', f1'] at hs2
    generalize hz : sts (setc (sts s1 0 10 (s1 0 10 ||| nI 1 <<< (nI k &&& 31))) 72 (cpR (s 72) (s 71) (515 * k) 0 515)) 73 k (nI 1) = z at hs2
    refine ⟨nI 1, _, z, rfl, ?_, ?_⟩
    · show (f_X8_in _ _ _ _).bind _ = _
      rw [hA, ob_s, if_bi' _ _ h0, nm_eq]
      exact hs2
    clear hs2
    have z0 : z 0 = upd (s 0) 10 (nI (b0 + 2 * b1) ||| nI 1 <<< (nI k &&& 31)) := by
      rw [← hz, sts_n _ _ _ (by decide), setc_n _ _ (by decide), sts_c, f0, i3]
    have z72 : z 72 = cpR (s 72) (s 71) (515 * k) 0 515 := by rw [← hz, sts_n _ _ _ (by decide), setc_s]
    have z73 : z 73 = upd (s 73) k (nI 1) := by rw [← hz, sts_c, setc_n _ _ (by decide), sts_n _ _ _ (by decide), f73]
    have zc : ∀ c, c ≠ 0 → c ≠ 72 → c ≠ 73 → z c = s1 c := fun c c1 c2 c3 => by rw [← hz, sts_n _ _ _ c3, setc_n _ _ c2, sts_n _ _ _ c1]
    have zs' : ∀ c, c ≠ 0 → c ≠ 72 → c ≠ 73 → (c < 25 + 12 * k ∨ 25 + 12 * k + 10 ≤ c) → z c = s c := fun c c1 c2 c3 c4 => (zc c c1 c2 c3).trans (e2 c c4)
    have e4 : TR z (25 + 12 * k) (s 71) ns ne nr np := e3.fr (fun c c1 c2 => zc c (by omega) (by omega) (by omega))
    have e5 : TR z (25 + 12 * k) (fun i => z 72 (515 * k + i)) ns ne nr np := e4.cc (fun i hi => by
      rw [z72, cpR_i _ _ hi, Nat.zero_add])
    have w4 := e4.wt
    clear hz
    refine ⟨⟨ns, ne, nr, np, ?_⟩, ?_, ⟨len, l1, ?_, ?_, ?_⟩, ?_, ⟨?_, ?_⟩, ⟨nb, n1, ?_⟩⟩
    · rw [zs' 71 (by decide) (by decide) (by decide) (by omega)]
      exact hT.fr (fun c c1 c2 => zs' c (by omega) (by omega) (by omega) (by omega))
    · rw [z0, zs' 74 (by decide) (by decide) (by decide) (by omega), upd_n _ _ (by decide), upd_n _ _ (by decide), upd_n _ _ (by decide)]; exact hS
    · rw [zs' 49 (by decide) (by decide) (by decide) (by omega)]; exact l2
    · rw [zs' 70 (by decide) (by decide) (by decide) (by omega)]; exact l3
    · rw [zs' 50 (by decide) (by decide) (by decide) (by omega), zs' 88 (by decide) (by decide) (by decide) (by omega)]; exact l4
    · match k, hk with
      | 0, _ =>
        refine ⟨1, b1, by omega, i2, ?_, ?_, ?_, fun _ => ⟨ns, ne, nr, np, ?_⟩, fun q => ?_⟩
        · rw [z0, upd_s, o1]
        · rw [z73, upd_s]
        · rw [z73, upd_n _ _ (by decide)]; exact i5
        · exact e5.cc (fun i hi => by rw [Nat.mul_zero, Nat.zero_add])
        · obtain ⟨x1, x2, x3, x4, h5⟩ := i7 q
          exact ⟨x1, x2, x3, x4, (h5.fr (fun c c1 c2 => zs' c (by omega) (by omega) (by omega) (by omega))).cc (fun i hi => by rw [z72, cpR_o _ _ (by omega)])⟩
      | 1, _ =>
        refine ⟨b0, 1, i1, by omega, ?_, ?_, ?_, fun q => ?_, fun _ => ⟨ns, ne, nr, np, ?_⟩⟩
        · rw [z0, upd_s, o2]
        · rw [z73, upd_n _ _ (by decide)]; exact i4
        · rw [z73, upd_s]
        · obtain ⟨x1, x2, x3, x4, h5⟩ := i6 q
          exact ⟨x1, x2, x3, x4, (h5.fr (fun c c1 c2 => zs' c (by omega) (by omega) (by omega) (by omega))).cc (fun i hi => by rw [z72, cpR_o _ _ (by omega)])⟩
        · exact e5
    · rw [zs' 53 (by decide) (by decide) (by decide) (by omega)]; exact w1
    · intro t ht
      by_cases q : t = 25 + 12 * k
      · rw [q]; exact w4
      · have h5 := w2 t ht
        rw [zs' (t + 1) (by omega) (by omega) (by omega) (by omega), zs' (t + 3) (by omega) (by omega) (by omega) (by omega), zs' (t + 5) (by omega) (by omega) (by omega) (by omega), zs' (t + 7) (by omega) (by omega) (by omega) (by omega)]
        exact h5
    · rw [zs' 52 (by decide) (by decide) (by decide) (by omega)]; exact n2
  · rw [if_bi0 _ _ h0]
    refine OK_bad h (-2) (r7 s) (fun s1 h3 => ?_)
    rw [hA, ob_s, if_bi0 _ _ h0, r8]
theorem S8_from {s : Sg} {x : Nat} (hx : x < 2) : lp2_ (b_X8_from_33 (nI x)) fu (nI 0) s = some (nI 1, setc s 71 (cpR (s 71) (s 72) 0 (515 * x) 515)) := by
  refine lp2_ix (fun o => o = some (nI 1, setc s 71 (cpR (s 71) (s 72) 0 (515 * x) 515))) (fun k (st : Sg) => st = setc s 71 (cpR (s 71) (s 72) 0 (515 * x) k)) 0 515 (by omega) ?_ ?_ (by omega) s ?_
  · rintro self k st - hk rfl
    right
    unfold b_X8_from_33
    rw [ifle _ _ (by omega) (by omega), if_neg (by omega), nmul, nadd, ag _ 72 (show 515 * x + k < 1030 by omega) (by omega), ob_s, as _ 71 _ (show k < 515 from hk), ob_s, nadd, setc_n _ _ (show 72 ≠ 71 by decide)]
    refine ⟨_, rfl, ?_⟩
    have := cpR_s (s 71) (s 72) 0 (515 * x) k
    rw [Nat.zero_add] at this
    unfold sts
    rw [setc_s, this]
    funext d
    unfold setc
    by_cases q : d = 71
    · rw [if_pos q, if_pos q]
    · rw [if_neg q, if_neg q, if_neg q]
  · rintro self st rfl
    unfold b_X8_from_33
    rw [ifle _ _ (by omega) (by omega), if_pos (by omega)]
  · funext d
    unfold setc
    by_cases q : d = 71
    · rw [if_pos q, q, cpR_0]
    · rw [if_neg q]
theorem OK_from {s : Sg} (h : REL s) (x : Int32) : OKop (f_X7_from x s) (f_X8_from x) := by
  have hA : ∀ s : Sg, f_X8_in (Int32.toInt64 x) (0 : Int64) (1 : Int64) s = some (bi (0 ≤ x ∧ x < nI 2)) := fun s => S8_inB x (by decide) _ (by decide) s
  unfold f_X7_from f_X8_from
  rw [S_isBelow, ob_s]
  by_cases h0 : 0 ≤ x ∧ x < nI 2
  · rw [if_bi' _ _ h0]
    obtain ⟨k, hk, rfl⟩ := rngB (by decide) h0
    obtain ⟨⟨ns, ne, nr, np, hT⟩, hS, -, ⟨b0, b1, i1, i2, i3, i4, i5, i6, i7⟩, ⟨w1, w2⟩, -⟩ := id h
    obtain ⟨o1, o2, o3, o4⟩ := im_or b0 (by omega) b1 (by omega)
    have key : ∃ b, b ≤ 1 ∧ (hb (s 0 10) k = true ↔ b = 1) ∧ s 73 k = nI b ∧ (b = 1 → ∃ ns ne nr np, TR s (25 + 12 * k) (fun i => s 72 (515 * k + i)) ns ne nr np) := by
      match k, hk with
      | 0, _ => exact ⟨b0, i1, by rw [i3]; exact o3, i4, fun q => by
          obtain ⟨x1, x2, x3, x4, h5⟩ := i6 q
          exact ⟨x1, x2, x3, x4, h5.cc (fun i hi => by rw [Nat.mul_zero, Nat.zero_add])⟩⟩
      | 1, _ => exact ⟨b1, i2, by rw [i3]; exact o4, i5, fun q => i7 q⟩
    obtain ⟨b, g1, g2, g3, g4⟩ := key
    rw [S_holds, ob_s]
    by_cases q : b = 1
    · rw [if_bi' _ _ (g2.mpr q), S_imageOf s hk, ob_s]
      obtain ⟨ms', me, mr, mp, hT2⟩ := g4 q
      obtain ⟨s1, e1, e2, e3⟩ := T_copy hT2 (t := 1) hT.wt T1 (by unfold isT; omega) (by omega)
      rw [e1, ob_s]
      have f71 : s1 71 = s 71 := e2 71 (by omega)
      have f72 : s1 72 = s 72 := e2 72 (by omega)
      have f73 : s1 73 = s 73 := e2 73 (by omega)
      refine ⟨nI 1, s1, _, rfl, ?_, h.mk (s2 := setc s1 71 (cpR (s1 71) (s1 72) 0 (515 * k) 515)) (fun c c1 c2 c3 => ?_) ⟨ms', me, mr, mp, ?_⟩⟩
      · dsimp only
        rw [hA, ob_s, if_bi' _ _ h0, ag _ 73 (show k < alen 73 from hk) (by omega), ob_s, f73, g3, q, if_neg (by decide)]
        exact S8_from hk
      · rw [setc_n _ _ c3, e2 c (by omega)]
      · rw [setc_s, f72]
        exact (e3.fr (fun c c1 c2 => setc_n _ _ (by omega))).cc (fun i hi => by
          have := cpR_i (s1 71) (s 72) (dst := 0) (src := 515 * k) hi
          rw [Nat.zero_add] at this
          exact this)
    · rw [if_bi0 _ _ (fun z => q (g2.mp z))]
      refine OK_ref h 1 (by decide) (-3) ?_ (fun s1 h3 => ?_)
      · show ob2 (f_X7_refuseNo s) _ = _
        rw [S7_no]
        rfl
      · rw [hA, ob_s, if_bi' _ _ h0, ag _ 73 (show k < alen 73 from hk) (by omega), ob_s, h3 73 (by decide), g3, show b = 0 by omega, if_pos (show nI 0 = 0 from rfl), ob2_eta, S8_no]
  · rw [if_bi0 _ _ h0]
    refine OK_bad h (-2) (r7 s) (fun s1 h3 => ?_)
    rw [hA, ob_s, if_bi0 _ _ h0, r8]
