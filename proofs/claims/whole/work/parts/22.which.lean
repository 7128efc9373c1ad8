/-! which, letter, cab, find -/
section WHICH
variable {s : Sg} {N : Nat → Int32} {ns ne nr np : Nat}
/-- streets of a name in some hours together -/
noncomputable def whA (N : Nat → Int32) (ns ne a : Nat) (x : Int32) (c : Nat) : Int32 := forN (fun k b => b ||| nI (mkN (eqB N ns ne (a + k) x) ns)) c (nI 0)
end WHICH
theorem OK_which {s : Sg} (h : REL s) (x y z : Int32) : OKop (f_X7_which x y z s) (f_X8_which x y z) := by
  obtain ⟨⟨ns, ne, nr, np, hT⟩, _, _, _, ⟨hw, _⟩, hx⟩ := id h
  have hV := hT.1
  have hns := hV.2.1.1
  unfold f_X7_which f_X8_which
  by_cases h0 : x < 0
  · rw [if_pos h0]
    exact OK_bad h (-2) (r7 s) (fun s1 h3 => by rw [if_pos h0, r8])
  rw [if_neg h0, S_isHour, ob_s]
  by_cases h1 : 0 ≤ y ∧ y < nI 24
  · rw [if_bi' _ _ h1, S_isHour, ob_s]
    by_cases h2 : 0 ≤ z ∧ z < nI 24
    · rw [if_bi' _ _ h2]
      obtain ⟨a, ha, rfl⟩ := rngB (by decide) h1
      obtain ⟨b, hb, rfl⟩ := rngB (by decide) h2
      rw [ifle _ _ (by omega) (by omega)]
      by_cases hab : a ≤ b
      · rw [if_pos hab]
        refine OK_ro h (whA (s 71) ns ne a x (b + 1 - a)) ?_ ?_
        · obtain ⟨s2, e1, e2, e3⟩ := S_write2 hT T1 hw hx
          refine ⟨s2, ?_, e3.ro hw⟩
          rw [e1, ob_s]
          refine lp2_ax (fun o => o = some (whA (s 71) ns ne a x (b + 1 - a), s2)) (fun i acc => acc = whA (s 71) ns ne a x (i - a)) a (b + 1) (by omega) ?_ ?_ (by omega) _ (by rw [Nat.sub_self]; rfl)
          · rintro self i acc h5 h6 rfl
            right
            refine ⟨_, ?_, rfl⟩
            unfold b_X7_which_45
            rw [ifl _ _ (by omega) (by omega), if_neg (by omega), S_having e2 hns x (show i < 24 by omega), ob_s, nm_eq, nadd, show i + 1 - a = (i - a) + 1 by omega]
            unfold whA
            rw [forN_s, show a + (i - a) = i by omega]
          · rintro self acc rfl
            unfold b_X7_which_45
            rw [ifl _ _ (by omega) (by omega), if_pos (by omega)]
        · intro s1 hr
          obtain ⟨s2, e1, e2, e3, _, _⟩ := S8_runAll (s := s1) hr.n hV
          refine ⟨s2, ?_, e2.ro hr.nx⟩
          rw [if_neg h0, S8_isHour, ob_s, if_bi' _ _ h1, S8_isHour, ob_s, if_bi' _ _ h2, ifle _ _ (by omega) (by omega), if_pos hab, e1, ob_s]
          refine lp2_ax (fun o => o = some (whA (s 71) ns ne a x (b + 1 - a), s2)) (fun i acc => acc = whA (s 71) ns ne a x (i - a)) a (b + 1) (by omega) ?_ ?_ (by omega) _ (by rw [Nat.sub_self]; rfl)
          · rintro self i acc h5 h6 rfl
            right
            refine ⟨_, ?_, rfl⟩
            unfold b_X8_which_40
            rw [ifl _ _ (by omega) (by omega), if_neg (by omega), S8_whichIn e3 hV x (show i < 24 by omega), ob_s, nm_eq, nadd, show i + 1 - a = (i - a) + 1 by omega]
            unfold whA
            rw [forN_s, show a + (i - a) = i by omega]
          · rintro self acc rfl
            unfold b_X8_which_40
            rw [ifl _ _ (by omega) (by omega), if_pos (by omega)]
      · rw [if_neg hab]
        refine OK_bad h (-2) (r7 s) (fun s1 h3 => ?_)
        rw [if_neg h0, S8_isHour, ob_s, if_bi' _ _ h1, S8_isHour, ob_s, if_bi' _ _ h2, ifle _ _ (by omega) (by omega), if_neg hab, r8]
    · rw [if_bi0 _ _ h2]
      refine OK_bad h (-2) (r7 s) (fun s1 h3 => ?_)
      rw [if_neg h0, S8_isHour, ob_s, if_bi' _ _ h1, S8_isHour, ob_s, if_bi0 _ _ h2, r8]
  · rw [if_bi0 _ _ h1]
    refine OK_bad h (-2) (r7 s) (fun s1 h3 => ?_)
    rw [if_neg h0, S8_isHour, ob_s, if_bi0 _ _ h1, r8]
theorem fst_c {p q : Nat → Bool} {n : Nat} (h : ∀ k, k < n → p k = q k) : fst p n = fst q n := by
  unfold fst
  refine forN_c (fun i b hi => ?_)
  rw [h _ (by omega)]
theorem fst_ext (p : Nat → Bool) (n : Nat) : ∀ m, n ≤ m → (∀ k, n ≤ k → k < m → p k = false) → fst p m = fst p n := by
  intro m hm hp
  obtain ⟨d, rfl⟩ : ∃ d, m = n + d := ⟨m - n, by omega⟩
  unfold fst
  have : ∀ d, (∀ k, n ≤ k → k < n + d → p k = false) → ∀ c, c ≤ d → forN (fun k r => if p (n + d - 1 - k) = true then nI (n + d - 1 - k) else r) c (-1) = -1 := by
    intro d hd c
    induction c with
    | zero => intro _; rfl
    | succ c ih =>
      intro hc
      rw [forN_s, if_neg (by rw [hd _ (by omega) (by omega)]; decide), ih (by omega)]
  have h2 : ∀ c, forN (fun k r => if p (n + d - 1 - k) = true then nI (n + d - 1 - k) else r) (d + c) (-1) = forN (fun k r => if p (n - 1 - k) = true then nI (n - 1 - k) else r) c (-1) ∨ n < c := by
    intro c
    induction c with
    | zero => exact Or.inl (this d hp d (Nat.le_refl d))
    | succ c ih =>
      by_cases hc : n < c + 1
      · exact Or.inr hc
      · rcases ih with ih | ih
        · left
          show forN _ ((d + c) + 1) _ = _
          rw [forN_s, forN_s, ih, show n + d - 1 - (d + c) = n - 1 - c by omega]
        · omega
  rcases h2 n with h3 | h3
  · rw [Nat.add_comm d n] at h3
    exact h3
  · omega
theorem mkN_hi (p : Nat → Bool) (n : Nat) {i : Nat} (h : n ≤ i) : (mkN p n).testBit i = false := by
  refine Nat.testBit_lt_two_pow (Nat.lt_of_lt_of_le (mkN_lt p n) (Nat.pow_le_pow_right (by decide) h))
theorem mkN_128 (p : Nat → Bool) {n : Nat} (h : n ≤ 7) : mkN p n < 128 := Nat.lt_of_lt_of_le (mkN_lt p n) (Nat.pow_le_pow_right (n := 2) (by decide) h)
theorem first_s (x : Int32) (s : Sg) : f_X8_first x s = f_X8_first x (fun _ _ => 0) := rfl
theorem S8_first (p : Nat → Bool) {n : Nat} (h : n ≤ 7) (s : Sg) : f_X8_first (nI (mkN p n)) s = some (fst p n) := by
  rw [first_s, first_all _ (mkN_128 p h)]
  congr 1
  rw [fst_ext (fun i => (mkN p n).testBit i) n 7 h (fun k h1 _ => mkN_hi p n h1)]
  exact fst_c (fun k hk => mkN_bit p n k hk)
theorem OK_letter {s : Sg} (h : REL s) (x y z : Int32) : OKop (f_X7_letter x y z s) (f_X8_letter x y z) := by
  obtain ⟨⟨ns, ne, nr, np, hT⟩, _, _, _, ⟨hw, _⟩, hx⟩ := id h
  have hV := hT.1
  have hns := hV.2.1.1
  unfold f_X7_letter f_X8_letter
  rw [S7_isStreet hT, ob_s]
  by_cases h0 : 0 ≤ x ∧ x < nI ns
  · rw [if_bi' _ _ h0, S_isHour, ob_s]
    by_cases h1 : 0 ≤ y ∧ y < nI 24
    · rw [if_bi' _ _ h1, S_isHour, ob_s]
      by_cases h2 : 0 ≤ z ∧ z < nI 24
      · rw [if_bi' _ _ h2]
        obtain ⟨i, hi, rfl⟩ := rngB (by omega) h0
        obtain ⟨a, ha, rfl⟩ := rngB (by decide) h1
        obtain ⟨b, hb, rfl⟩ := rngB (by decide) h2
        rw [ifle _ _ (by omega) (by omega)]
        by_cases hab : a ≤ b
        · rw [if_pos hab]
          refine OK_ro h (if fst (eqB (s 71) ns ne b (NM (s 71) ns ne a i)) ns = -1 then nI 2 else if fst (eqB (s 71) ns ne b (NM (s 71) ns ne a i)) ns = nI i then nI 0 else nI 1) ?_ ?_
          · obtain ⟨s2, e1, e2, e3⟩ := S_write2 hT T1 hw hx
            refine ⟨s2, ?_, e3.ro hw⟩
            rw [e1, ob_s, S_at e2 hns hi ha, ob_s, S_firstHaving e2 hns _ hb, ob_s]
            split
            · rfl
            · split <;> rfl
          · intro s1 hr
            obtain ⟨s2, e1, e2, e3, _, _⟩ := S8_runAll (s := s1) hr.n hV
            refine ⟨s2, ?_, e2.ro hr.nx⟩
            rw [S8_isStreet hr.n hV, ob_s, if_bi' _ _ h0, S8_isHour, ob_s, if_bi' _ _ h1, S8_isHour, ob_s, if_bi' _ _ h2, ifle _ _ (by omega) (by omega), if_pos hab, e1, ob_s, e3.2 a i ha hi, ob_s, S8_whichIn e3 hV _ hb, ob_s, S8_first _ hns, ob_s]
            split
            · rfl
            · split <;> rfl
        · rw [if_neg hab]
          refine OK_bad h (-2) (r7 s) (fun s1 h3 => ?_)
          rw [S8_isStreet (n8 h3) hV, ob_s, if_bi' _ _ h0, S8_isHour, ob_s, if_bi' _ _ h1, S8_isHour, ob_s, if_bi' _ _ h2, ifle _ _ (by omega) (by omega), if_neg hab, r8]
      · rw [if_bi0 _ _ h2]
        refine OK_bad h (-2) (r7 s) (fun s1 h3 => ?_)
        rw [S8_isStreet (n8 h3) hV, ob_s, if_bi' _ _ h0, S8_isHour, ob_s, if_bi' _ _ h1, S8_isHour, ob_s, if_bi0 _ _ h2, r8]
    · rw [if_bi0 _ _ h1]
      refine OK_bad h (-2) (r7 s) (fun s1 h3 => ?_)
      rw [S8_isStreet (n8 h3) hV, ob_s, if_bi' _ _ h0, S8_isHour, ob_s, if_bi0 _ _ h1, r8]
  · rw [if_bi0 _ _ h0]
    refine OK_bad h (-2) (r7 s) (fun s1 h3 => ?_)
    rw [S8_isStreet (n8 h3) hV, ob_s, if_bi0 _ _ h0, r8]
theorem cabT : ∀ a, a < 24 → ∀ b, b < 24 → (if nI 0 < (nI a - nI b) then (nI a - nI b) else nI 0) = nI (a - b) := by decide +kernel
theorem OK_cab {s : Sg} (h : REL s) (x y z : Int32) : OKop (f_X7_cab x y z s) (f_X8_cab x y z) := by
  obtain ⟨⟨ns, ne, nr, np, hT⟩, _, _, _, ⟨hw, _⟩, hx⟩ := id h
  have hV := hT.1
  have hns := hV.2.1.1
  have h23 : ∀ s : Sg, f_X8_in (Int32.toInt64 z) (0 : Int64) (23 : Int64) s = some (bi (0 ≤ z ∧ z < nI 24)) := fun s => S8_inB z (by decide) _ (by decide) s
  unfold f_X7_cab f_X8_cab
  rw [S7_isStreet hT, ob_s]
  by_cases h0 : 0 ≤ x ∧ x < nI ns
  · rw [if_bi' _ _ h0, S_isHour, ob_s]
    by_cases h1 : 0 ≤ y ∧ y < nI 24
    · rw [if_bi' _ _ h1, S_isHour, ob_s]
      by_cases h2 : 0 ≤ z ∧ z < nI 24
      · rw [if_bi' _ _ h2]
        obtain ⟨i, hi, rfl⟩ := rngB (by omega) h0
        obtain ⟨a, ha, rfl⟩ := rngB (by decide) h1
        obtain ⟨b, hb, rfl⟩ := rngB (by decide) h2
        refine OK_ro h (fst (eqB (s 71) ns ne (a - b) (NM (s 71) ns ne a i)) ns) ?_ ?_
        · obtain ⟨s2, e1, e2, e3⟩ := S_write2 hT T1 hw hx
          refine ⟨s2, ?_, e3.ro hw⟩
          rw [e1, ob_s, S_at e2 hns hi ha, ob_s, nm_eq, cabT a ha b hb, S_firstHaving e2 hns _ (by omega), ob_s]
        · intro s1 hr
          obtain ⟨s2, e1, e2, e3, _, _⟩ := S8_runAll (s := s1) hr.n hV
          refine ⟨s2, ?_, e2.ro hr.nx⟩
          rw [S8_isStreet hr.n hV, ob_s, if_bi' _ _ h0, S8_isHour, ob_s, if_bi' _ _ h1, h23, ob_s, if_bi' _ _ h2, e1, ob_s, e3.2 a i ha hi, ob_s, nm_eq, ifle _ _ (by omega) (by omega)]
          dsimp only
          by_cases hab : b ≤ a
          · rw [if_pos hab, nsub hab, S8_whichIn e3 hV _ (show a - b < 24 by omega), ob_s, S8_first _ hns, ob_s]
          · rw [if_neg hab, show a - b = 0 by omega, S8_whichIn e3 hV _ (show 0 < 24 by omega), ob_s, S8_first _ hns, ob_s]
      · rw [if_bi0 _ _ h2]
        refine OK_bad h (-2) (r7 s) (fun s1 h3 => ?_)
        rw [S8_isStreet (n8 h3) hV, ob_s, if_bi' _ _ h0, S8_isHour, ob_s, if_bi' _ _ h1, h23, ob_s, if_bi0 _ _ h2, r8]
    · rw [if_bi0 _ _ h1]
      refine OK_bad h (-2) (r7 s) (fun s1 h3 => ?_)
      rw [S8_isStreet (n8 h3) hV, ob_s, if_bi' _ _ h0, S8_isHour, ob_s, if_bi0 _ _ h1, r8]
  · rw [if_bi0 _ _ h0]
    refine OK_bad h (-2) (r7 s) (fun s1 h3 => ?_)
    rw [S8_isStreet (n8 h3) hV, ob_s, if_bi0 _ _ h0, r8]
