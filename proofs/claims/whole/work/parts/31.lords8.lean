/-! landlords, the reference's side -/
section LORDS8
variable {s : Sg} {N : Nat → Int32} {ns ne nr np : Nat}
theorem SG_add {g : Stg} (hg : SGd s g ns) (hl : g.length < 2) {i : Nat} (hi : i < ns) (x w : Int32) : ∃ s2, f_X8_stageOne (s 70 11) (nI i) x w s = some s2 ∧ SGd (sts s2 70 11 (s2 70 11 + nI 1)) (g ++ [(i, x, w)]) ns ∧ R8 s (sts s2 70 11 (s2 70 11 + nI 1)) ∧ ∀ c, 84 < c → sts s2 70 11 (s2 70 11 + nI 1) c = s c := by
  obtain ⟨h1, h2, h3⟩ := hg
  rw [h1, S8_stageOne hl]
  refine ⟨_, rfl, ⟨?_, ?_, fun k q hq => ?_⟩, ⟨fun c c1 c2 => ?_, ?_, ?_⟩, fun c hc => ?_⟩
  · rw [sts_s, sts_n _ _ _ (by decide), sts_n _ _ _ (by decide), sts_n _ _ _ (by decide), h1, nadd, List.length_append]
    rfl
  · rw [List.length_append]
    show g.length + 1 ≤ 2
    omega
  · generalize sts (sts (sts s 82 g.length (nI i)) 83 g.length x) 84 g.length w 70 11 + nI 1 = vv
    have q82 : sts (sts (sts (sts s 82 g.length (nI i)) 83 g.length x) 84 g.length w) 70 11 vv 82 = upd (s 82) g.length (nI i) := by rw [sts_n _ _ _ (by decide), sts_n _ _ _ (by decide), sts_n _ _ _ (by decide), sts_c]
    have q83 : sts (sts (sts (sts s 82 g.length (nI i)) 83 g.length x) 84 g.length w) 70 11 vv 83 = upd (s 83) g.length x := by rw [sts_n _ _ _ (by decide), sts_n _ _ _ (by decide), sts_c, sts_n _ _ _ (by decide)]
    have q84 : sts (sts (sts (sts s 82 g.length (nI i)) 83 g.length x) 84 g.length w) 70 11 vv 84 = upd (s 84) g.length w := by rw [sts_n _ _ _ (by decide), sts_c, sts_n _ _ _ (by decide), sts_n _ _ _ (by decide)]
    rw [q82, q83, q84]
    by_cases hk : k = g.length
    · subst hk
      rw [List.getElem?_append_right (Nat.le_refl _), Nat.sub_self] at hq
      cases hq
      exact ⟨hi, upd_s _ _ _, upd_s _ _ _, upd_s _ _ _⟩
    · have hk2 : k < (g ++ [(i, x, w)]).length := (List.getElem?_eq_some_iff.mp hq).1
      rw [List.length_append] at hk2
      have hk3 : k < g.length := by
        have : ([(i, x, w)] : Stg).length = 1 := rfl
        omega
      rw [List.getElem?_append_left hk3] at hq
      obtain ⟨a, b, c, d⟩ := h3 k q hq
      exact ⟨a, (upd_n _ _ hk).trans b, (upd_n _ _ hk).trans c, (upd_n _ _ hk).trans d⟩
  · rw [sts_n _ _ _ c2, sts_n _ _ _ (by omega), sts_n _ _ _ (by omega), sts_n _ _ _ (by omega)]
  · rw [sts_j _ _ _ (by decide), sts_n _ _ _ (by decide), sts_n _ _ _ (by decide), sts_n _ _ _ (by decide)]
  · rw [sts_n _ _ _ (by decide), sts_n _ _ _ (by decide), sts_n _ _ _ (by decide), sts_n _ _ _ (by decide)]
  · rw [sts_n _ _ _ (by omega), sts_n _ _ _ (by omega), sts_n _ _ _ (by omega), sts_n _ _ _ (by omega)]
theorem gA_len (i H : Nat) (w : Int32) (k : Nat) : (gA i H w k).length ≤ 1 := by
  unfold gA
  split
  · exact Nat.zero_le _
  · exact Nat.le_refl _
theorem S8_layGets (h : s 71 = N) (hV : VN N ns ne nr np) {i j H : Nat} (hi : i < ns) (hj : j < ns) (hH : H < 24) (c : Int32) :
    ∃ s2, f_X8_layGets (nI i) (nI j) (nI H) c s = some s2 ∧ R8 s s2 ∧ ∀ k, k < 4 → s2 85 k = lA N ns ne i j H (nI (dwN N 15)) c k ∧ s2 86 k = lB N ns ne i j H (nI (dwN N 15)) c k := by
  have hns := hV.2.1.1
  have hne := hV.2.1.2.1
  have hd : dwN N 15 < 16 := by have := dwN_le (N := N) 15; omega
  generalize hww : nI (dwN N 15) = w
  have hw16 : rng w 16 := by rw [← hww]; exact rng.mk hd
  unfold f_X8_layGets
  rw [S8_dearest h, ob_s, hww]
  refine lp2_ix (fun o => ∃ s2, o = some s2 ∧ R8 s s2 ∧ ∀ k, k < 4 → s2 85 k = lA N ns ne i j H w c k ∧ s2 86 k = lB N ns ne i j H w c k) (fun m st => R8 s st ∧ ∀ k, k < m → st 85 k = lA N ns ne i j H w c k ∧ st 86 k = lB N ns ne i j H w c k) 0 4 (by omega) ?_ ?_ (by omega) _ ⟨R8.rf s, fun k hk => absurd hk (by omega)⟩
  · rintro self m st - h6 ⟨h7, h8⟩
    right
    obtain ⟨-, -, B3, B4, -, -, -, -⟩ := b1_4 m h6
    unfold b_X8_layGets_9
    rw [ifle _ _ (by omega) (by omega), if_neg (by omega), nm_eq]
    have r5 := h7.tr (R8.st st (k := 11) (nI 0) (by decide))
    have e5 : ∀ c, 84 < c → sts st 70 11 (nI 0) c = st c := fun c hc => sts_n _ _ _ (by omega)
    have g5 : SGd (sts st 70 11 (nI 0)) [] ns := SGd.no _ ns (sts_s _ _ _ _)
    generalize sts st 70 11 (nI 0) = s5 at r5 e5 g5 ⊢
    obtain ⟨s22, b1, b2, b3, b4⟩ := SG_add g5 (by decide) hi (nI H) w
    rw [nm_ite8 _ _ _ _ _ b1]
    obtain ⟨z, hz⟩ : ∃ z, z = (if nI m &&& nI 1 = nI 1 then sts s22 70 11 (s22 70 11 + nI 1) else s5) := ⟨_, rfl⟩
    rw [← hz]
    have z1 : SGd z (gA i H w m) ns ∧ R8 s z ∧ ∀ c, 84 < c → z c = st c := by
      unfold gA
      by_cases q : m % 2 = 0
      · rw [hz, if_neg (fun z => B3.mp z q), if_pos q]
        exact ⟨g5, r5, e5⟩
      · rw [hz, if_pos (B3.mpr q), if_neg q]
        exact ⟨b2, r5.tr b3, fun c hc => (b4 c hc).trans (e5 c hc)⟩
    clear hz
    obtain ⟨z1, z2, z3⟩ := z1
    obtain ⟨s20, c1, c2, c3, c4⟩ := SG_add z1 (by have := gA_len i H w m; omega) hj (nI H) w
    rw [nm_itf _ _ _ _ _ c1]
    obtain ⟨y, hy⟩ : ∃ y, y = (if nI m ≤ nI 1 then z else sts s20 70 11 (s20 70 11 + nI 1)) := ⟨_, rfl⟩
    rw [← hy]
    have y1 : SGd y (gL i j H w m) ns ∧ R8 s y ∧ ∀ c, 84 < c → y c = st c := by
      unfold gL
      by_cases q : m < 2
      · rw [hy, if_pos (B4.mpr q), if_pos q]
        exact ⟨z1, z2, z3⟩
      · rw [hy, if_neg (fun z => q (B4.mp z)), if_neg q]
        exact ⟨c2, z2.tr c3, fun c hc => (c4 c hc).trans (z3 c hc)⟩
    clear hy
    obtain ⟨y1, y2, y3⟩ := y1
    have hE16 := E16_EG hV (gL_16 (i := i) (j := j) (H := H) (k := m) hw16)
    have h71 : y 71 = N := y2.n.trans h
    obtain ⟨s11, d1, d2, d3, _⟩ := S8_words h71 hV y1 (nI (2 ^ ne) - nI 1)
    rw [evA N ns hne] at d3
    have d4 := y2.tr d2.r8
    rw [S8_allEvents h71 hV, ob_s, d1, ob_s, S8_rent (d4.n.trans h) hV hE16 hi d3, ob_s, nm_if]
    have iA : (if nI m &&& nI 1 = nI 1 then c else nI 0) = if m % 2 = 0 then nI 0 else c := by
      by_cases q : m % 2 = 0
      · rw [if_neg (fun z => B3.mp z q), if_pos q]
      · rw [if_pos (B3.mpr q), if_neg q]
    rw [iA, as _ 85 _ (show m < 4 from h6), ob_s]
    have d5 : R8 s (sts s11 85 m (rentR N (EG N ns ne (gL i j H w m)) i - if m % 2 = 0 then nI 0 else c)) := d4.tr (R8.hi _ _ _ (by decide) (by decide))
    rw [S8_rent (d5.n.trans h) hV hE16 hj (fun H i hH hi => by rw [sts_n _ _ _ (by decide)]; exact d3 H i hH hi), ob_s, nm_if, if_iff B4, as _ 86 _ (show m < 4 from h6), ob_s, nadd]
    have e85 : s11 85 = st 85 := (d2 85 (by decide) (by decide) (by decide) (by decide) (by decide) (by decide) (by decide)).trans (y3 85 (by decide))
    have e86 : s11 86 = st 86 := (d2 86 (by decide) (by decide) (by decide) (by decide) (by decide) (by decide) (by decide)).trans (y3 86 (by decide))
    refine ⟨_, rfl, d5.tr (R8.hi _ _ _ (by decide) (by decide)), fun k hk => ?_⟩
    rw [sts_n _ _ _ (show 85 ≠ 86 by decide), sts_c, sts_c, sts_n _ _ _ (show 86 ≠ 85 by decide), e85, e86]
    by_cases q : k = m
    · subst q
      rw [upd_s, upd_s]
      exact ⟨rfl, rfl⟩
    · rw [upd_n _ _ q, upd_n _ _ q]
      exact h8 k (by omega)
  · rintro self st ⟨h7, h8⟩
    unfold b_X8_layGets_9
    rw [ifle _ _ (by omega) (by omega), if_pos (by omega)]
    exact ⟨st, rfl, h7, h8⟩
end LORDS8
theorem OK_landlords {s : Sg} (h : REL s) (x y z v : Int32) : OKop (f_X7_landlords x y z v s) (f_X8_landlords x y z v) := by
  obtain ⟨⟨ns, ne, nr, np, hT⟩, _, _, _, ⟨hw, _⟩, hx⟩ := id h
  have hV := hT.1
  have hns := hV.2.1.1
  have hA : ∀ s : Sg, f_X8_in (Int32.toInt64 v) (0 : Int64) (99 : Int64) s = some (bi (0 ≤ v ∧ v < nI 100)) := fun s => S8_inB v (by decide) _ (by decide) s
  unfold f_X7_landlords f_X8_landlords
  rw [S7_isStreet hT, ob_s]
  by_cases h0 : 0 ≤ x ∧ x < nI ns
  · rw [if_bi' _ _ h0, S7_isStreet hT, ob_s]
    by_cases h1 : 0 ≤ y ∧ y < nI ns
    · rw [if_bi' _ _ h1]
      by_cases h2 : x = y
      · rw [if_pos h2]
        refine OK_bad h (-2) (r7 s) (fun s1 h4 => ?_)
        rw [S8_isStreet (n8 h4) hV, ob_s, if_bi' _ _ h0, S8_isStreet (n8 h4) hV, ob_s, if_bi' _ _ h1, if_pos h2, r8]
      · rw [if_neg h2, S_isHour, ob_s]
        by_cases h3 : 0 ≤ z ∧ z < nI 24
        · rw [if_bi' _ _ h3, S_isBelow, ob_s]
          by_cases h5 : 0 ≤ v ∧ v < nI 100
          · rw [if_bi' _ _ h5]
            obtain ⟨i, hi, rfl⟩ := rngB (by omega) h0
            obtain ⟨j, hj, rfl⟩ := rngB (by omega) h1
            obtain ⟨H, hH, rfl⟩ := rngB (by decide) h3
            refine OK_ro h (rsN (lA (s 71) ns ne i j H (nI (dwN (s 71) 15)) v) (lB (s 71) ns ne i j H (nI (dwN (s 71) 15)) v) 4) ?_ ?_
            · obtain ⟨s2, e1, e2, e3⟩ := S_weigh hT hw hx hi hj hH v
              refine ⟨s2, ?_, e2.ro hw⟩
              rw [e1, ob_s, S_rest e3, ob_s]
            · intro s1 hr
              obtain ⟨s2, e1, e2, e3⟩ := S8_layGets hr.n hV hi hj hH v
              refine ⟨s2, ?_, e2.ro hr.nx⟩
              rw [S8_isStreet hr.n hV, ob_s, if_bi' _ _ h0, S8_isStreet hr.n hV, ob_s, if_bi' _ _ h1, if_neg h2, S8_isHour, ob_s, if_bi' _ _ h3, hA, ob_s, if_bi' _ _ h5, e1, ob_s, S8_rest e3]
          · rw [if_bi0 _ _ h5]
            refine OK_bad h (-2) (r7 s) (fun s1 h4 => ?_)
            rw [S8_isStreet (n8 h4) hV, ob_s, if_bi' _ _ h0, S8_isStreet (n8 h4) hV, ob_s, if_bi' _ _ h1, if_neg h2, S8_isHour, ob_s, if_bi' _ _ h3, hA, ob_s, if_bi0 _ _ h5, r8]
        · rw [if_bi0 _ _ h3]
          refine OK_bad h (-2) (r7 s) (fun s1 h4 => ?_)
          rw [S8_isStreet (n8 h4) hV, ob_s, if_bi' _ _ h0, S8_isStreet (n8 h4) hV, ob_s, if_bi' _ _ h1, if_neg h2, S8_isHour, ob_s, if_bi0 _ _ h3, r8]
    · rw [if_bi0 _ _ h1]
      refine OK_bad h (-2) (r7 s) (fun s1 h4 => ?_)
      rw [S8_isStreet (n8 h4) hV, ob_s, if_bi' _ _ h0, S8_isStreet (n8 h4) hV, ob_s, if_bi0 _ _ h1, r8]
  · rw [if_bi0 _ _ h0]
    refine OK_bad h (-2) (r7 s) (fun s1 h4 => ?_)
    rw [S8_isStreet (n8 h4) hV, ob_s, if_bi0 _ _ h0, r8]
