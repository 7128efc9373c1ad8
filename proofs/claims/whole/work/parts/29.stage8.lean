/-! stage, the reference's side -/
section STAGE8
variable {s : Sg} {N : Nat → Int32} {ns ne nr np : Nat}
def stL (i a b c : Nat) (w : Int32) : Stg := ([(i, nI a, w), (i, nI b, w)] : Stg).take c
theorem stL_1 (i a b : Nat) (w : Int32) : stL i a b 1 w = [(i, nI a, w)] := rfl
theorem S8_stageOne {k : Nat} (hk : k < 2) (x y z : Int32) (s : Sg) : f_X8_stageOne (nI k) x y z s = some (sts (sts (sts s 82 k x) 83 k y) 84 k z) := by
  unfold f_X8_stageOne
  rw [as _ 82 _ (show k < 2 from hk), ob_s, as _ 83 _ (show k < 2 from hk), ob_s, as _ 84 _ (show k < 2 from hk), ob_s]
theorem S8_gives (h : s 71 = N) (hV : VN N ns ne nr np) {c a b i H : Nat} (hc : c ≤ 2) (hi : i < ns) (hH : H < 24) (w : Int32) :
    ∃ s2, f_X8_gives (nI c) (nI a) (nI b) (nI i) w (nI H) s = some (bi (pG N ns ne i H w (stL i a b c w) = true), s2) ∧ R8 s s2 ∧ (pG N ns ne i H w (stL i a b c w) = true → s2 70 15 = nI c ∧ s2 70 16 = nI a ∧ s2 70 17 = nI b) := by
  have hns := hV.2.1.1
  have hne := hV.2.1.2.1
  unfold f_X8_gives
  rw [nm_eq, show nI 0 = nI 0 from rfl, S8_stageOne (k := 0) (by decide), ob_s, S8_stageOne (k := 1) (by decide), ob_s]
  generalize hz : sts (sts (sts (sts (sts (sts (sts s 70 11 (nI c)) 82 0 (nI i)) 83 0 (nI a)) 84 0 w) 82 1 (nI i)) 83 1 (nI b)) 84 1 w = z
  have z82 : z 82 0 = nI i ∧ z 82 1 = nI i := by
    rw [← hz]
    exact ⟨by rw [sts_n _ _ _ (by decide), sts_n _ _ _ (by decide), sts_j _ _ _ (by decide), sts_n _ _ _ (by decide), sts_n _ _ _ (by decide), sts_s], by rw [sts_n _ _ _ (by decide), sts_n _ _ _ (by decide), sts_s]⟩
  have z83 : z 83 0 = nI a ∧ z 83 1 = nI b := by
    rw [← hz]
    exact ⟨by rw [sts_n _ _ _ (by decide), sts_j _ _ _ (by decide), sts_n _ _ _ (by decide), sts_n _ _ _ (by decide), sts_s], by rw [sts_n _ _ _ (by decide), sts_s]⟩
  have z84 : z 84 0 = w ∧ z 84 1 = w := by
    rw [← hz]
    exact ⟨by rw [sts_j _ _ _ (by decide), sts_n _ _ _ (by decide), sts_n _ _ _ (by decide), sts_s], by rw [sts_s]⟩
  have zz : ∀ d, d ≠ 70 → d < 82 ∨ 84 < d → z d = s d := by
    intro d h1 h2
    rw [← hz, sts_n _ _ _ (by omega), sts_n _ _ _ (by omega), sts_n _ _ _ (by omega), sts_n _ _ _ (by omega), sts_n _ _ _ (by omega), sts_n _ _ _ (by omega), sts_n _ _ _ (by omega)]
  have z70 : z 70 = sts s 70 11 (nI c) 70 := by
    rw [← hz, sts_n _ _ _ (by omega), sts_n _ _ _ (by omega), sts_n _ _ _ (by omega), sts_n _ _ _ (by omega), sts_n _ _ _ (by omega), sts_n _ _ _ (by omega)]
  have r0 : R8 s z := ⟨fun d h1 h2 => zz d h2 (by omega), by rw [z70, sts_j _ _ _ (by decide)], zz 88 (by decide) (by decide)⟩
  have h71 : z 71 = N := (zz 71 (by decide) (by decide)).trans h
  have hg : SGd z (stL i a b c w) ns := by
    have hlen : (stL i a b c w).length = c := by
      unfold stL
      rw [List.length_take]
      show min c 2 = c
      omega
    refine ⟨by rw [hlen, z70, sts_s], by rw [hlen]; exact hc, fun k q hq => ?_⟩
    have hk : k < c := by
      have := (List.getElem?_eq_some_iff.mp hq).1
      omega
    have hq2 : ([(i, nI a, w), (i, nI b, w)] : Stg)[k]? = some q := by
      rw [← hq]
      unfold stL
      rw [List.getElem?_take]
      rw [if_pos hk]
    match k, (show k < 2 by omega) with
    | 0, _ => cases hq2; exact ⟨hi, z82.1, z83.1, z84.1⟩
    | 1, _ => cases hq2; exact ⟨hi, z82.2, z83.2, z84.2⟩
  rw [S8_allEvents h71 hV, ob_s]
  obtain ⟨s2, e1, e2, e3, _⟩ := S8_words h71 hV hg (nI (2 ^ ne) - nI 1)
  rw [e1, ob_s, nmul, nadd, ag _ 75 (show 7 * H + i < 168 by omega) (by omega), ob_s, e3 H i hH hi, evA N ns hne, nm_eq]
  have r2 := r0.tr e2.r8
  by_cases q : WD N (evL N ns ne ++ gS (stL i a b c w)) i H = w
  · have hp : pG N ns ne i H w (stL i a b c w) = true := decide_eq_true q
    rw [if_pos q]
    dsimp only
    rw [if_neg (by decide), nm_eq, nm_eq, nm_eq, bi_t hp]
    refine ⟨_, rfl, ((r2.tr (R8.st _ _ (by decide))).tr (R8.st _ _ (by decide))).tr (R8.st _ _ (by decide)), fun _ => ⟨?_, ?_, sts_s _ _ _ _⟩⟩
    · rw [sts_j _ _ _ (by decide), sts_j _ _ _ (by decide), sts_s]
    · rw [sts_j _ _ _ (by decide), sts_s]
  · have hp : ¬ pG N ns ne i H w (stL i a b c w) = true := fun z => q (of_decide_eq_true z)
    rw [if_neg q]
    dsimp only
    rw [if_pos (show nI 0 = 0 from rfl), bi_f hp]
    exact ⟨_, rfl, r2, fun z => absurd z hp⟩
def SR8 (r : Option (Nat × Nat × Nat)) (v : Int32) (s2 : Sg) : Prop := match r with
  | none => v = nI 0
  | some (c, a, b) => v = nI 1 ∧ s2 70 15 = nI c ∧ (1 ≤ c → s2 70 16 = nI a) ∧ (c = 2 → s2 70 17 = nI b)
theorem R8.n {s s2 : Sg} (h : R8 s s2) : s2 71 = s 71 := h.1 71 (by decide) (by decide)
theorem S8_tryStages (h : s 71 = N) (hV : VN N ns ne nr np) {i H : Nat} (hi : i < ns) (hH : H < 24) (w : Int32) : ∃ v s2, f_X8_tryStages (nI i) w (nI H) s = some (v, s2) ∧ R8 s s2 ∧ SR8 (stR N ns ne i H w) v s2 := by
  unfold f_X8_tryStages
  obtain ⟨s2, e1, e2, e3⟩ := S8_gives (a := 0) (b := 0) h hV (show 0 ≤ 2 by decide) hi hH w
  rw [show stL i 0 0 0 w = [] from rfl] at e1 e3
  rw [e1, ob2_some]
  by_cases q : pG N ns ne i H w [] = true
  · rw [if_bi' _ _ q]
    refine ⟨_, s2, rfl, e2, ?_⟩
    unfold stR
    rw [if_pos q]
    exact ⟨rfl, (e3 q).1, fun z => absurd z (by decide), fun z => absurd z (by decide)⟩
  rw [if_bi0 _ _ q, nm_eq]
  have eR : stR N ns ne i H w = (match ffR (fun j => pG N ns ne i H w [(i, nI j, w)]) 0 (H + 1) with
    | some j => some (1, j, 0)
    | none => match st2 N ns ne i H w 0 (H + 1) with
      | some p => some (2, p.1, p.2)
      | none => none) := by
    unfold stR
    rw [if_neg q]
    rfl
  refine lp2_ix (fun o => ∃ v s2, o = some (v, s2) ∧ R8 s s2 ∧ SR8 (stR N ns ne i H w) v s2) (fun a st => ffR (fun j => pG N ns ne i H w [(i, nI j, w)]) 0 (H + 1) = ffR (fun j => pG N ns ne i H w [(i, nI j, w)]) a (H + 1 - a) ∧ R8 s st) 0 (H + 1) (by omega) ?_ ?_ (by omega) _ ⟨rfl, e2⟩
  · rintro self a st - h6 ⟨h7, h8⟩
    obtain ⟨s3, f1, f2, f3⟩ := S8_gives (a := a) (b := 0) (h8.n.trans h) hV (show 1 ≤ 2 by decide) hi hH w
    rw [stL_1] at f1 f3
    rw [show H + 1 - a = (H - a) + 1 by omega, ffR_s _ a (H - a)] at h7
    unfold b_X8_tryStages_18
    rw [ifl _ _ (by omega) (by omega), if_neg (by omega), f1, ob2_some]
    by_cases q2 : pG N ns ne i H w [(i, nI a, w)] = true
    · left
      rw [if_pos q2] at h7
      rw [h7] at eR
      rw [if_bi' _ _ q2, eR]
      exact ⟨_, s3, rfl, h8.tr f2, rfl, (f3 q2).1, fun _ => (f3 q2).2.1, fun z => absurd z (by decide)⟩
    · right
      rw [if_neg q2] at h7
      rw [if_bi0 _ _ q2, nadd]
      exact ⟨s3, rfl, by rw [h7, show H + 1 - (a + 1) = H - a by omega], h8.tr f2⟩
  · rintro self st ⟨h7, h8⟩
    unfold b_X8_tryStages_18
    rw [ifl _ _ (by omega) (by omega), if_pos (by omega)]
    rw [show H + 1 - (H + 1) = 0 by omega] at h7
    rw [show ffR (fun j => pG N ns ne i H w [(i, nI j, w)]) (H + 1) 0 = none from rfl] at h7
    rw [h7] at eR
    dsimp only at eR
    refine lp2_ix (fun o => ∃ v s2, o = some (v, s2) ∧ R8 s s2 ∧ SR8 (stR N ns ne i H w) v s2) (fun a st => st2 N ns ne i H w 0 (H + 1) = st2 N ns ne i H w a (H + 1 - a) ∧ R8 s st) 0 (H + 1) (by omega) ?_ ?_ (by omega) _ ⟨rfl, h8⟩
    · clear h7 h8
      rintro self a st - h6 ⟨h7, h8⟩
      rw [show H + 1 - a = (H - a) + 1 by omega, st2_s i H w a (H - a)] at h7
      unfold b_X8_tryStages_49
      rw [ifl _ _ (by omega) (by omega), if_neg (by omega), nm_eq, nm_eq, nadd]
      refine lp2_ix (fun o => (∃ v s2, o = some (v, s2) ∧ R8 s s2 ∧ SR8 (stR N ns ne i H w) v s2) ∨ ∃ st2_1, o = self (nI (a + 1)) st2_1 ∧ st2 N ns ne i H w 0 (H + 1) = st2 N ns ne i H w (a + 1) (H + 1 - (a + 1)) ∧ R8 s st2_1)
        (fun b st => ffR (fun j => pG N ns ne i H w ([(i, nI a, w)] ++ [(i, nI j, w)])) (a + 1) (H + 1 - (a + 1)) = ffR (fun j => pG N ns ne i H w ([(i, nI a, w)] ++ [(i, nI j, w)])) b (H + 1 - b) ∧ R8 s st) (a + 1) (H + 1) (by omega) ?_ ?_ (by omega) _ ⟨rfl, h8⟩
      · clear h8
        rintro self2 b st3 - h9 ⟨h10, h11⟩
        obtain ⟨s3, f1, f2, f3⟩ := S8_gives (a := a) (b := b) (h11.n.trans h) hV (show 2 ≤ 2 by decide) hi hH w
        rw [show stL i a b 2 w = [(i, nI a, w)] ++ [(i, nI b, w)] from rfl] at f1 f3
        rw [show H + 1 - b = (H - b) + 1 by omega, ffR_s _ b (H - b)] at h10
        unfold b_X8_tryStages_61
        rw [ifl _ _ (by omega) (by omega), if_neg (by omega), f1, ob2_some]
        by_cases q2 : pG N ns ne i H w ([(i, nI a, w)] ++ [(i, nI b, w)]) = true
        · left
          left
          rw [if_pos q2] at h10
          rw [h10] at h7
          rw [h7] at eR
          rw [if_bi' _ _ q2, eR]
          exact ⟨_, s3, rfl, h11.tr f2, rfl, (f3 q2).1, fun _ => (f3 q2).2.1, fun _ => (f3 q2).2.2⟩
        · right
          rw [if_neg q2] at h10
          rw [if_bi0 _ _ q2, nadd]
          exact ⟨s3, rfl, by rw [h10, show H + 1 - (b + 1) = H - b by omega], h11.tr f2⟩
      · clear h8
        rintro self2 st3 ⟨h10, h11⟩
        unfold b_X8_tryStages_61
        rw [ifl _ _ (by omega) (by omega), if_pos (by omega)]
        right
        rw [show H + 1 - (H + 1) = 0 by omega] at h10
        rw [show ffR (fun j => pG N ns ne i H w ([(i, nI a, w)] ++ [(i, nI j, w)])) (H + 1) 0 = none from rfl] at h10
        rw [h10] at h7
        exact ⟨st3, rfl, by rw [h7, show H + 1 - (a + 1) = H - a by omega], h11⟩
    · clear h7 h8
      rintro self st ⟨h7, h8⟩
      unfold b_X8_tryStages_49
      rw [ifl _ _ (by omega) (by omega), if_pos (by omega)]
      rw [show H + 1 - (H + 1) = 0 by omega] at h7
      rw [show st2 N ns ne i H w (H + 1) 0 = none from rfl] at h7
      rw [h7] at eR
      rw [eR]
      exact ⟨_, st, rfl, h8, rfl⟩
end STAGE8
theorem stX {x : Int32} (h : (-1 : Int32) ≤ x) (h2 : x ≠ -1) : (0 : Int32) ≤ x := by
  rw [Int32.le_iff_toInt_le] at h ⊢
  have h3 : x.toInt ≠ -1 := fun z => h2 (Int32.toInt_inj.mp (z.trans (by decide)))
  have e : (-1 : Int32).toInt = -1 := by decide
  have e0 : (0 : Int32).toInt = 0 := by decide
  rw [e] at h
  rw [e0]
  omega
theorem OK_stage {s : Sg} (h : REL s) (x y z v : Int32) : OKop (f_X7_stage x y z v s) (f_X8_stage x y z v) := by
  obtain ⟨⟨ns, ne, nr, np, hT⟩, _, _, _, ⟨hw, _⟩, hx⟩ := id h
  have hV := hT.1
  have hns := hV.2.1.1
  unfold f_X7_stage f_X8_stage
  rw [S7_isStreet hT, ob_s]
  by_cases h0 : 0 ≤ x ∧ x < nI ns
  · rw [if_bi' _ _ h0, S_isBelow, ob_s]
    by_cases h1 : 0 ≤ y ∧ y < nI 16
    · rw [if_bi' _ _ h1, S_isHour, ob_s]
      by_cases h2 : 0 ≤ z ∧ z < nI 24
      · rw [if_bi' _ _ h2]
        by_cases h3 : (-1 : Int32) ≤ v
        · rw [if_pos h3]
          obtain ⟨i, hi, rfl⟩ := rngB (by omega) h0
          obtain ⟨H, hH, rfl⟩ := rngB (by decide) h2
          refine OK_ro h (match stR (s 71) ns ne i H y with
            | none => -1
            | some (c, a, b) => if v = -1 then nI c else if nI c ≤ v then -5 else if v = 0 then nI a else nI b) ?_ ?_
          · obtain ⟨s2, e1, e2, e3⟩ := S_plan2 hT T1 hw hx
            rw [e1, ob_s]
            obtain ⟨u, s3, f1, f2, f3⟩ := S_fewest hV e2 e3.2.1 e3.2.2 hi hH y
            rw [f1, ob2_some]
            refine ⟨s3, ?_, (e3.tr f2).ro hw⟩
            cases hr : stR (s 71) ns ne i H y with
            | none =>
              rw [hr] at f3
              rw [show u = -1 from f3, if_pos rfl]
            | some p =>
              obtain ⟨c, a, b⟩ := p
              have hc := stR_le hr
              rw [hr] at f3
              obtain ⟨g1, g2, g3⟩ := f3
              rw [g1, if_neg (nI_m1 c (by omega))]
              dsimp only
              by_cases q1 : v = -1
              · rw [if_pos q1, if_pos q1]
              rw [if_neg q1, if_neg q1]
              by_cases q2 : nI c ≤ v
              · rw [if_pos q2, if_pos q2]
              rw [if_neg q2, if_neg q2]
              obtain ⟨k, hk, rfl⟩ := rngB (by omega) (show 0 ≤ v ∧ v < nI c from ⟨stX h3 q1, Int32.not_le.mp q2⟩)
              unfold f_X3_hourStaged
              by_cases q3 : nI k = 0
              · rw [if_pos q3, if_pos q3, ob_s, g2 (by omega)]
              · rw [if_neg q3, if_neg q3, ob_s, g3 (by
                  rcases Nat.eq_zero_or_pos k with e | e
                  · subst e; exact absurd rfl q3
                  · omega)]
          · intro s1 hr
            rw [S8_isStreet hr.n hV, ob_s, if_bi' _ _ h0, S8_isWord, ob_s, if_bi' _ _ h1, S8_isHour, ob_s, if_bi' _ _ h2, if_pos h3]
            obtain ⟨u, s3, f1, f2, f3⟩ := S8_tryStages hr.n hV hi hH y
            rw [f1, ob2_some]
            refine ⟨s3, ?_, f2.ro hr.nx⟩
            cases hq : stR (s 71) ns ne i H y with
            | none =>
              rw [hq] at f3
              rw [show u = nI 0 from f3, if_pos (show nI 0 = 0 from rfl)]
            | some p =>
              obtain ⟨c, a, b⟩ := p
              have hc := stR_le hq
              rw [hq] at f3
              obtain ⟨g1, g2, g3, g4⟩ := f3
              rw [g1, if_neg (by decide), g2]
              dsimp only
              by_cases q1 : v = -1
              · rw [if_pos q1, if_pos q1]
              rw [if_neg q1, if_neg q1]
              by_cases q2 : nI c ≤ v
              · rw [if_neg (Int32.not_lt.mpr q2), if_pos q2]
              rw [if_pos (Int32.not_le.mp q2), if_neg q2]
              obtain ⟨k, hk, rfl⟩ := rngB (by omega) (show 0 ≤ v ∧ v < nI c from ⟨stX h3 q1, Int32.not_le.mp q2⟩)
              by_cases q3 : nI k = 0
              · rw [if_pos q3, if_pos q3, g3 (by omega)]
              · rw [if_neg q3, if_neg q3, g4 (by
                  rcases Nat.eq_zero_or_pos k with e | e
                  · subst e; exact absurd rfl q3
                  · omega)]
        · rw [if_neg h3]
          refine OK_bad h (-10) rfl (fun s1 h4 => ?_)
          rw [S8_isStreet (n8 h4) hV, ob_s, if_bi' _ _ h0, S8_isWord, ob_s, if_bi' _ _ h1, S8_isHour, ob_s, if_bi' _ _ h2, if_neg h3, r8]
      · rw [if_bi0 _ _ h2]
        refine OK_bad h (-10) rfl (fun s1 h4 => ?_)
        rw [S8_isStreet (n8 h4) hV, ob_s, if_bi' _ _ h0, S8_isWord, ob_s, if_bi' _ _ h1, S8_isHour, ob_s, if_bi0 _ _ h2, r8]
    · rw [if_bi0 _ _ h1]
      refine OK_bad h (-10) rfl (fun s1 h4 => ?_)
      rw [S8_isStreet (n8 h4) hV, ob_s, if_bi' _ _ h0, S8_isWord, ob_s, if_bi0 _ _ h1, r8]
  · rw [if_bi0 _ _ h0]
    refine OK_bad h (-10) rfl (fun s1 h4 => ?_)
    rw [S8_isStreet (n8 h4) hV, ob_s, if_bi0 _ _ h0, r8]
