/-! the calls town, street, rent -/
theorem REL.s69 {s : Sg} (h : REL s) (k : Nat) (v : Int32) : REL (sts s 69 k v) := by
  obtain ⟨ns, ne, nr, np, hT⟩ := h.1
  exact h.mk (fun c _ h2 _ => sts_n _ _ _ h2) ⟨ns, ne, nr, np, by rw [sts_n _ _ _ (by decide)]; exact hT.fr (fun c h1 h2 => sts_n _ _ _ (by omega))⟩
theorem r7f (s : Sg) : (ob2 (f_X7_refuseFull s) fun (v : Int32) (s2 : Sg) => some (v, s2)) = some (-4, sts s 0 13 (s 0 13 + nI 1)) := rfl
theorem r8f (s : Sg) : (ob2 (f_X8_full s) fun (v : Int32) (s2 : Sg) => some (v, s2)) = some (-4, sts s 74 2 (s 74 2 + nI 1)) := by rw [ob2_eta, S8_full]
theorem OK_full {s : Sg} (h : REL s) {a : Option (Int32 × Sg)} {b : Sg → Option (Int32 × Sg)} (ha : a = some (-4, sts s 0 13 (s 0 13 + nI 1))) (hb : ∀ s1, (∀ c, c ≠ 0 → s1 c = s c) → b s1 = some (-4, sts s1 74 2 (s1 74 2 + nI 1))) : OKop a b :=
  OK_ref h 2 (by decide) (-4) ha hb
theorem wd1 {s : Sg} {N : Nat → Int32} {ns ne nr np : Nat} (h : TR s 1 N ns ne nr np) : WT s 1 := h.wt
theorem OK_town {s : Sg} (h : REL s) (x : Int32) : OKop (f_X7_town x s) (f_X8_town x) := by
  have h' := h.s69 0 x
  obtain ⟨ns, ne, nr, np, hT⟩ := h'.1
  have hV := hT.1
  have hA : ∀ s : Sg, f_X8_in (Int32.toInt64 x) (0 : Int64) (2 : Int64) s = some (bi (0 ≤ x ∧ x < nI 3)) := fun s => S8_inB x (by decide) _ (by decide) s
  unfold f_X7_town f_X8_town
  rw [as _ 69 _ (by decide), ob_s, ob2_eta]
  have r0 : sts s 69 0 x 69 0 = x := sts_s _ _ _ _
  have oo : ∀ c, c ≠ 69 → sts s 69 0 x c = s c := fun c hc => sts_n _ _ _ hc
  generalize sts s 69 0 x = s' at h' hT hV r0 oo ⊢
  obtain ⟨t1, t2⟩ := S_tell hT.2.1.1 (kd := 0) (by decide)
  by_cases h0 : 0 ≤ x ∧ x < nI 3
  · have hf : fitA 0 (s' 69) ns := (fit0_iff _ _).mpr (by rw [r0]; exact h0)
    obtain ⟨s1, e1, e2, e3⟩ := T_begin (s := s') hT.wt T1 (rngB (by decide) h0)
    rw [t1 hf, S_room hT T1 (by decide), ob_s, if_bi0 _ _ (by omega)]
    unfold f_X5_take
    rw [if_pos rfl, ag _ 69 (by decide) (by decide), ob_s, r0, e1, ob2_some, ob2_some]
    have e71 : s1 71 = s' 71 := e2 71 (by decide) (by decide) (by decide) (by decide) (by decide) (by decide)
    obtain ⟨s2, f1, f2, f3⟩ := S8_begin (c := 71) (by decide) x s1
    refine ⟨_, s1, s2, rfl, ?_, h.mk (fun c c1 c2 c3 => ?_) ⟨0, 0, 0, 0, ?_⟩⟩
    · dsimp only
      rw [hA, ob_s, if_bi' _ _ h0, S8_streets e71 hV, ob_s, f1, ob_s]
      rw [show s' (1 + 1) 2 = nI ns from hT.2.1.1.2]
    · rw [f2 c c3, e2 c (by omega) (by omega) (by omega) (by omega) (by omega) (by omega), oo c c2]
    · have := e3 (s2 71) (by rw [f3]; rfl) (by rw [f3]; rfl) (by rw [f3]; exact upd_s _ _ _) (by rw [f3]; rfl) (by rw [f3]; rfl) (fun w hw => by
        rw [f3]
        unfold bgN
        rw [upd_n _ _ (by omega), if_pos (by omega)])
      exact this.fr (fun c c1 c2 => f2 c (by omega))
  · have hf : ¬ fitA 0 (s' 69) ns := fun z => h0 (by rw [← r0]; exact (fit0_iff _ _).mp z)
    refine OK_bad h' (-2) (t2 hf) (fun s1 h3 => ?_)
    rw [hA, ob_s, if_bi0 _ _ h0, r8]
theorem S8_layStreet {s : Sg} {c ns : Nat} (hc : 115 ≤ alen c) (h0 : s c 0 = nI ns) (hn : ns < 7) (x y z w : Int32) : ∃ s2, f_X8_layStreet c x y z w s = some s2 ∧ (∀ d, d ≠ c → s2 d = s d) ∧ s2 c = upd (upd (upd (upd (upd (s c) (5 + 4 * ns) x) (5 + 4 * ns + 1) y) (5 + 4 * ns + 2) z) (5 + 4 * ns + 3) w) 0 (nI (ns + 1)) := by
  unfold f_X8_layStreet
  rw [ag _ c (show 0 < alen c by omega) (by decide), ob_s, h0, nmul, nadd, nm_eq, nadd, nadd, nadd, nadd, as _ c _ (show 5 + 4 * ns + 0 < alen c by omega), ob_s, as _ c _ (show 5 + 4 * ns + 1 < alen c by omega), ob_s, as _ c _ (show 5 + 4 * ns + 2 < alen c by omega), ob_s, as _ c _ (show 5 + 4 * ns + 3 < alen c by omega), ob_s, ag _ c (show 0 < alen c by omega) (by decide), ob_s, as _ c _ (show 0 < alen c by omega), ob_s]
  refine ⟨_, rfl, fun d hd => ?_, ?_⟩
  · rw [sts_n _ _ _ hd, sts_n _ _ _ hd, sts_n _ _ _ hd, sts_n _ _ _ hd, sts_n _ _ _ hd]
  · rw [sts_c, sts_c, sts_c, sts_c, sts_c, upd_n _ _ (by omega), upd_n _ _ (by omega), upd_n _ _ (by omega), upd_n _ _ (by omega), h0, nadd]
    rfl
theorem str_lay (N : Nat → Int32) (ns : Nat) (r : Nat → Int32) : upd (upd (upd (upd (upd (upd N (5 + 4 * ns) (r 0)) (5 + 4 * ns + 1) (r 1)) (5 + 4 * ns + 2) (r 2)) (5 + 4 * ns + 3) (r 3)) 0 (nI (ns + 1))) 4 (nI 0) = strN N ns r := by
  funext i
  unfold strN
  by_cases q4 : i = 4
  · rw [if_neg (by omega), if_pos q4, q4, upd_s]
  rw [upd_n _ _ q4]
  by_cases q0 : i = 0
  · rw [if_pos q0, q0, upd_s]
  rw [upd_n _ _ q0, if_neg q0, if_neg q4]
  by_cases q : 5 + 4 * ns ≤ i ∧ i < 5 + 4 * ns + 4
  · rw [if_pos q]
    obtain ⟨k, hk, rfl⟩ : ∃ k, k < 4 ∧ i = 5 + 4 * ns + k := ⟨i - (5 + 4 * ns), by omega, by omega⟩
    rw [Nat.add_sub_cancel_left]
    match k, hk with
    | 0, _ => rw [upd_n _ _ (by omega), upd_n _ _ (by omega), upd_n _ _ (by omega)]; exact upd_s _ _ _
    | 1, _ => rw [upd_n _ _ (by omega), upd_n _ _ (by omega), upd_s]
    | 2, _ => rw [upd_n _ _ (by omega), upd_s]
    | 3, _ => rw [upd_s]
  · rw [if_neg q, upd_n _ _ (by omega), upd_n _ _ (by omega), upd_n _ _ (by omega), upd_n _ _ (by omega)]
theorem OK_street {s : Sg} (h : REL s) (x y z w : Int32) : OKop (f_X7_street x y z w s) (f_X8_street x y z w) := by
  have h' := (((h.s69 0 x).s69 1 y).s69 2 z).s69 3 w
  obtain ⟨ns, ne, nr, np, hT⟩ := h'.1
  have hV := hT.1
  have hns := hV.2.1.1
  have hA : ∀ (v : Int32) (s : Sg), f_X8_in (Int32.toInt64 v) (0 : Int64) (7 : Int64) s = some (bi (0 ≤ v ∧ v < nI 8)) := fun v s => S8_inB v (by decide) _ (by decide) s
  have hB : ∀ s : Sg, f_X8_in (Int32.toInt64 z) (1 : Int64) (9 : Int64) s = some (bi (nI 1 ≤ z ∧ z ≤ nI 9)) := fun s => S8_in z (nI 1) (nI 9) _ _ (by decide) (by decide) s
  unfold f_X7_street f_X8_street
  rw [as _ 69 _ (by decide), ob_s, as _ 69 _ (by decide), ob_s, as _ 69 _ (by decide), ob_s, as _ 69 _ (by decide), ob_s, ob2_eta]
  have e69 : sts (sts (sts (sts s 69 0 x) 69 1 y) 69 2 z) 69 3 w 69 = upd (upd (upd (upd (s 69) 0 x) 1 y) 2 z) 3 w := by rw [sts_c, sts_c, sts_c, sts_c]
  have oo : ∀ c, c ≠ 69 → sts (sts (sts (sts s 69 0 x) 69 1 y) 69 2 z) 69 3 w c = s c := fun c hc => by rw [sts_n _ _ _ hc, sts_n _ _ _ hc, sts_n _ _ _ hc, sts_n _ _ _ hc]
  generalize sts (sts (sts (sts s 69 0 x) 69 1 y) 69 2 z) 69 3 w = s' at h' hT hV e69 oo ⊢
  have r0 : s' 69 0 = x := by rw [e69]; rfl
  have r1 : s' 69 1 = y := by rw [e69]; rfl
  have r2 : s' 69 2 = z := by rw [e69]; rfl
  have r3 : s' 69 3 = w := by rw [e69]; rfl
  clear e69
  obtain ⟨t1, t2⟩ := S_tell hT.2.1.1 (kd := 1) (by decide)
  have hf := fit1_iff (s' 69) ns
  rw [r0, r1, r2, r3] at hf
  by_cases hq : fitA 1 (s' 69) ns
  · obtain ⟨h0, h1, h2, h3, h4⟩ := hf.mp hq
    rw [t1 hq, S_room hT T1 (by decide), ob_s]
    by_cases hn : ns = 7
    · rw [if_bi' _ _ (by omega)]
      refine OK_full h' (r7f s') (fun s1 h5 => ?_)
      rw [hA, ob_s, if_bi' _ _ h0, hA, ob_s, if_bi' _ _ h1, if_neg h2, hB, ob_s, if_bi' _ _ h3, S8_isWord, ob_s, if_bi' _ _ h4, S8_streets (n8 h5) hV, ob_s, ife _ _ (by omega) (by decide), if_pos hn, r8f]
    · rw [if_bi0 _ _ (by omega)]
      obtain ⟨s1, e1, e2, e3⟩ := T_street hT T1 (by omega) (c := 69) (by decide) rfl hq
      have e71 : s1 71 = s' 71 := e2 71 (by decide) (by decide) (by decide)
      obtain ⟨s2, f1, f2, f3⟩ := S8_layStreet (s := s1) (c := 71) (ns := ns) (by decide) (by rw [e71]; exact hV.1.1) (by omega) x y z w
      have g71 : sts s2 71 4 (nI 0) 71 = strN (s' 71) ns (s' 69) := by
        rw [sts_c, f3, e71, ← str_lay, r0, r1, r2, r3]
      rw [e1, ob2_some]
      refine ⟨_, s1, sts s2 71 4 (nI 0), rfl, ?_, h.mk (fun c c1 c2 c3 => ?_) ⟨ns + 1, ne, nr, 0, ?_⟩⟩
      · dsimp only
        rw [hA, ob_s, if_bi' _ _ h0, hA, ob_s, if_bi' _ _ h1, if_neg h2, hB, ob_s, if_bi' _ _ h3, S8_isWord, ob_s, if_bi' _ _ h4, S8_streets e71 hV, ob_s, ife _ _ (by omega) (by decide), if_neg hn, f1, ob_s, as _ 71 _ (by decide), ob_s]
        unfold f_X8_streets
        rw [ag _ 71 (by decide) (by decide), ob_s, ob_s, g71]
        rw [show strN (s' 71) ns (s' 69) 0 = nI (ns + 1) from rfl, nsub (by omega)]
        rfl
      · rw [sts_n _ _ _ c3, f2 c c3, e2 c (by omega) (by omega) (by omega), oo c c2]
      · rw [g71]
        exact e3.fr (fun c c1 c2 => by rw [sts_n _ _ _ (by omega), f2 c (by omega)])
  · refine OK_bad h' (-2) (t2 hq) (fun s1 h5 => ?_)
    rw [hA, ob_s]
    by_cases h0 : 0 ≤ x ∧ x < nI 8
    · rw [if_bi' _ _ h0, hA, ob_s]
      by_cases h1 : 0 ≤ y ∧ y < nI 8
      · rw [if_bi' _ _ h1]
        by_cases h2 : x = y
        · rw [if_pos h2, r8]
        · rw [if_neg h2, hB, ob_s]
          by_cases h3 : nI 1 ≤ z ∧ z ≤ nI 9
          · rw [if_bi' _ _ h3, S8_isWord, ob_s]
            by_cases h4 : 0 ≤ w ∧ w < nI 16
            · exact absurd (hf.mpr ⟨h0, h1, h2, h3, h4⟩) hq
            · rw [if_bi0 _ _ h4, r8]
          · rw [if_bi0 _ _ h3, r8]
      · rw [if_bi0 _ _ h1, r8]
    · rw [if_bi0 _ _ h0, r8]
theorem OK_rent {s : Sg} (h : REL s) (x y : Int32) : OKop (f_X7_rent x y s) (f_X8_rent x y) := by
  have h' := (h.s69 0 x).s69 1 y
  obtain ⟨ns, ne, nr, np, hT⟩ := h'.1
  have hV := hT.1
  have hA : ∀ s : Sg, f_X8_in (Int32.toInt64 y) (0 : Int64) (99 : Int64) s = some (bi (0 ≤ y ∧ y < nI 100)) := fun s => S8_inB y (by decide) _ (by decide) s
  unfold f_X7_rent f_X8_rent
  rw [as _ 69 _ (by decide), ob_s, as _ 69 _ (by decide), ob_s, ob2_eta]
  have e69 : sts (sts s 69 0 x) 69 1 y 69 = upd (upd (s 69) 0 x) 1 y := by rw [sts_c, sts_c]
  have oo : ∀ c, c ≠ 69 → sts (sts s 69 0 x) 69 1 y c = s c := fun c hc => by rw [sts_n _ _ _ hc, sts_n _ _ _ hc]
  generalize sts (sts s 69 0 x) 69 1 y = s' at h' hT hV e69 oo ⊢
  have r0 : s' 69 0 = x := by rw [e69]; rfl
  have r1 : s' 69 1 = y := by rw [e69]; rfl
  clear e69
  obtain ⟨t1, t2⟩ := S_tell hT.2.1.1 (kd := 3) (by decide)
  have hf := fit3_iff (s' 69) ns
  rw [r0, r1] at hf
  by_cases hq : fitA 3 (s' 69) ns
  · obtain ⟨h0, h1⟩ := hf.mp hq
    obtain ⟨w, hw, ew⟩ := rngB (by decide) h0
    rw [t1 hq, S_room hT T1 (by decide), ob_s, if_bi0 _ _ (by omega)]
    obtain ⟨s1, e1, e2, e3⟩ := T_rent hT T1 hw (c := 69) rfl (by rw [r0]; exact ew) (by rw [r1]; exact rngB (by decide) h1)
    have e71 : s1 71 = s' 71 := e2 71 (by decide)
    rw [e1, ob2_some]
    refine ⟨_, s1, sts s1 71 (81 + w) y, rfl, ?_, h.mk (fun c c1 c2 c3 => ?_) ⟨ns, ne, nr, np, ?_⟩⟩
    · dsimp only
      rw [S8_isWord, ob_s, if_bi' _ _ h0, hA, ob_s, if_bi' _ _ h1, ew, nadd, ag _ 71 (show 81 + w < 515 by omega) (by omega), ob_s, as _ 71 _ (show 81 + w < 515 by omega), ob_s, e71]
    · rw [sts_n _ _ _ c3, e2 c (by omega), oo c c2]
    · rw [sts_c, e71, ← r1]
      exact e3.fr (fun c c1 c2 => sts_n _ _ _ (by omega))
  · refine OK_bad h' (-2) (t2 hq) (fun s1 h5 => ?_)
    rw [S8_isWord, ob_s]
    by_cases h0 : 0 ≤ x ∧ x < nI 16
    · rw [if_bi' _ _ h0, hA, ob_s]
      by_cases h1 : 0 ≤ y ∧ y < nI 100
      · exact absurd (hf.mpr ⟨h0, h1⟩) hq
      · rw [if_bi0 _ _ h1, r8]
    · rw [if_bi0 _ _ h0, r8]
