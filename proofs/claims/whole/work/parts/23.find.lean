/-! find -/
theorem S7_areStreets {s : Sg} {N : Nat → Int32} {ns ne nr np : Nat} (h : TR s 1 N ns ne nr np) (x : Int32) : f_X7_areStreets x s = some (bi (0 ≤ x ∧ x < nI (2 ^ ns))) := by
  have := h.1.2.1.1
  unfold f_X7_areStreets
  rw [S_size, ob_s, h.2.1.1.2, shlN ns (by omega), S_isBelow, ob_s, bi_and]
theorem S8_areStreets {s : Sg} {N : Nat → Int32} {ns ne nr np : Nat} (h : s 71 = N) (hV : VN N ns ne nr np) (x : Int32) : f_X8_areStreets x s = some (bi (0 ≤ x ∧ x < nI (2 ^ ns))) := by
  have := hV.2.1.1
  have h2 : 2 ^ ns < 2147483648 := Nat.lt_of_le_of_lt (Nat.pow_le_pow_right (n := 2) (by decide) this) (by decide)
  unfold f_X8_areStreets
  rw [S8_streets h hV, ob_s, shlN ns (by omega), S8_inB x h2 _ rfl, ob_s, bi_and]
theorem bits_all : ∀ m, m < 256 → f_X8_bits (nI m) (fun _ _ => 0) = some (nI (pc m)) := by decide +kernel
theorem S8_bits {m : Nat} (h : m < 256) (s : Sg) : f_X8_bits (nI m) s = some (nI (pc m)) := bits_all m h
theorem pc_0 (m : Nat) : pc m = 0 ∨ ∃ i, i < 8 ∧ m.testBit i = true := by
  unfold pc
  have : ∀ n, forN (fun i c => if m.testBit i = true then c + 1 else c) n 0 = 0 ∨ ∃ i, i < n ∧ m.testBit i = true := by
    intro n
    induction n with
    | zero => exact Or.inl rfl
    | succ n ih =>
      by_cases q : m.testBit n = true
      · exact Or.inr ⟨n, by omega, q⟩
      · rcases ih with ih | ⟨i, h1, h2⟩
        · left; rw [forN_s, if_neg q, ih]
        · exact Or.inr ⟨i, by omega, h2⟩
  exact this 8
section FIND
variable {s : Sg} {N : Nat → Int32} {ns ne nr np : Nat}
noncomputable def alk (N : Nat → Int32) (ns ne m H i : Nat) : Nat := pc (m &&& mkN (eqB N ns ne H (NM N ns ne H i)) ns)
noncomputable def alC (N : Nat → Int32) (ns ne m H n : Nat) : Nat := forN (fun i b => if m.testBit i = true then (if b < alk N ns ne m H i then alk N ns ne m H i else b) else b) n 0
noncomputable def alR (N : Nat → Int32) (ns ne m H n : Nat) : Nat := forN (fun i b => if alk N ns ne m H i ≤ b then b else alk N ns ne m H i) n 0
theorem alk_same (m H : Nat) {i j : Nat} (h : NM N ns ne H i = NM N ns ne H j) : alk N ns ne m H i = alk N ns ne m H j := by
  unfold alk; rw [h]
theorem alC_ge (m H : Nat) {j : Nat} (hj : m.testBit j = true) : ∀ n, j < n → alk N ns ne m H j ≤ alC N ns ne m H n := by
  intro n
  induction n with
  | zero => intro h; omega
  | succ n ih =>
    intro h
    unfold alC
    rw [forN_s]
    change _ ≤ if m.testBit n = true then (if alC N ns ne m H n < alk N ns ne m H n then alk N ns ne m H n else alC N ns ne m H n) else alC N ns ne m H n
    by_cases e : j = n
    · subst e
      rw [if_pos hj]
      split <;> omega
    · have := ih (by omega)
      split
      · split <;> omega
      · exact this
theorem alC_le (m H : Nat) : ∀ n, alC N ns ne m H n ≤ alR N ns ne m H n := by
  intro n
  induction n with
  | zero => exact Nat.le_refl _
  | succ n ih =>
    unfold alC alR
    rw [forN_s, forN_s]
    change (if m.testBit n = true then (if alC N ns ne m H n < alk N ns ne m H n then alk N ns ne m H n else alC N ns ne m H n) else alC N ns ne m H n) ≤ (if alk N ns ne m H n ≤ alR N ns ne m H n then alR N ns ne m H n else alk N ns ne m H n)
    split
    · split <;> split <;> omega
    · split <;> omega
theorem alR_is (m H : Nat) : ∀ n, alR N ns ne m H n = 0 ∨ ∃ i, i < n ∧ alR N ns ne m H n = alk N ns ne m H i := by
  intro n
  induction n with
  | zero => exact Or.inl rfl
  | succ n ih =>
    unfold alR
    rw [forN_s]
    change (if alk N ns ne m H n ≤ alR N ns ne m H n then alR N ns ne m H n else alk N ns ne m H n) = 0 ∨ ∃ i, i < n + 1 ∧ (if alk N ns ne m H n ≤ alR N ns ne m H n then alR N ns ne m H n else alk N ns ne m H n) = alk N ns ne m H i
    split
    · rcases ih with ih | ⟨i, h1, h2⟩
      · exact Or.inl ih
      · exact Or.inr ⟨i, by omega, h2⟩
    · exact Or.inr ⟨n, by omega, rfl⟩
theorem al_eq (m H : Nat) : alR N ns ne m H ns = alC N ns ne m H ns := by
  refine Nat.le_antisymm ?_ (alC_le m H ns)
  rcases alR_is (N := N) (ns := ns) (ne := ne) m H ns with h | ⟨i, hi, h⟩
  · rw [h]; exact Nat.zero_le _
  · rw [h]
    rcases pc_0 (m &&& mkN (eqB N ns ne H (NM N ns ne H i)) ns) with h2 | ⟨j, hj, h2⟩
    · have : alk N ns ne m H i = 0 := h2
      rw [this]; exact Nat.zero_le _
    · rw [Nat.testBit_and] at h2
      have h3 : m.testBit j = true := by
        cases q : m.testBit j with
        | true => rfl
        | false => rw [q, Bool.false_and] at h2; exact absurd h2 (by decide)
      have h4 : (mkN (eqB N ns ne H (NM N ns ne H i)) ns).testBit j = true := by
        rw [h3] at h2
        simpa using h2
      have h5 : j < ns := by
        rcases Nat.lt_or_ge j ns with q | q
        · exact q
        · rw [mkN_hi _ _ q] at h4
          exact absurd h4 (by decide)
      rw [mkN_bit _ _ _ h5] at h4
      have h6 : NM N ns ne H j = NM N ns ne H i := of_decide_eq_true h4
      rw [← alk_same m H h6]
      exact alC_ge m H h3 ns h5
theorem and_256 {m : Nat} (h : m < 256) (k : Nat) : m &&& k < 256 := Nat.lt_of_le_of_lt Nat.and_le_left h
theorem alk_le {m : Nat} (h : m < 256) (H i : Nat) : alk N ns ne m H i ≤ 8 := pc_le _ (and_256 h _)
theorem alC_8 {m : Nat} (h : m < 256) (H : Nat) : ∀ n, alC N ns ne m H n ≤ 8 := by
  intro n
  induction n with
  | zero => exact Nat.zero_le _
  | succ n ih =>
    have := alk_le (N := N) (ns := ns) (ne := ne) h H n
    unfold alC
    rw [forN_s]
    change (if m.testBit n = true then (if alC N ns ne m H n < alk N ns ne m H n then alk N ns ne m H n else alC N ns ne m H n) else alC N ns ne m H n) ≤ 8
    split
    · split <;> omega
    · exact ih
theorem alR_8 {m : Nat} (h : m < 256) (H : Nat) : ∀ n, alR N ns ne m H n ≤ 8 := by
  intro n
  rcases alR_is (N := N) (ns := ns) (ne := ne) m H n with q | ⟨i, _, q⟩
  · omega
  · rw [q]; exact alk_le h H i
theorem S_mostAlike (h : NMW s N ns ne) (hns : ns ≤ 7) {m H : Nat} (hm : m < 128) (hH : H < 24) : f_X1_mostAlike (nI m) (nI H) s = some (nI (alC N ns ne m H ns)) := by
  refine lp2_ax (fun o => o = some (nI (alC N ns ne m H ns))) (fun i acc => acc = nI (alC N ns ne m H i)) 0 ns (by omega) ?_ ?_ (by omega) _ rfl
  · rintro self i acc - h6 rfl
    right
    have h8 := alC_8 (N := N) (ns := ns) (ne := ne) (show m < 256 by omega) H i
    have h9 := alk_le (N := N) (ns := ns) (ne := ne) (show m < 256 by omega) H i
    refine ⟨_, ?_, rfl⟩
    unfold b_X1_mostAlike_5 f_X0_streets
    rw [ob_s, h.1, ifle _ _ (by omega) (by omega), if_neg (by omega), S_holds, ob_s, hb_bit m (by omega) i (by omega), nm_eq]
    rw [show alC N ns ne m H (i + 1) = if m.testBit i = true then (if alC N ns ne m H i < alk N ns ne m H i then alk N ns ne m H i else alC N ns ne m H i) else alC N ns ne m H i from rfl]
    by_cases q : m.testBit i = true
    · rw [if_bi' _ _ q, if_pos q, S_at h hns h6 hH, ob_s, S_having h hns _ hH, ob_s, nand, S_bitCount (and_256 (by omega) _), ob_s, nm_eq]
      rw [show pc (m &&& mkN (eqB N ns ne H (NM N ns ne H i)) ns) = alk N ns ne m H i from rfl, ifl _ _ (by omega) (by omega), nadd]
      split <;> rfl
    · rw [if_bi0 _ _ q, if_neg q, nadd]
  · rintro self acc rfl
    unfold b_X1_mostAlike_5 f_X0_streets
    rw [ob_s, h.1, ifle _ _ (by omega) (by omega), if_pos (by omega)]
noncomputable def hmn (N : Nat → Int32) (ns ne m c : Nat) : Nat := forN (fun k b => if alC N ns ne m (k + 1) ns < alC N ns ne m b ns then k + 1 else b) c 0
theorem hmn_s (m c : Nat) : hmn N ns ne m (c + 1) = if alC N ns ne m (c + 1) ns < alC N ns ne m (hmn N ns ne m c) ns then c + 1 else hmn N ns ne m c := rfl
theorem hmn_le (m : Nat) : ∀ c, hmn N ns ne m c ≤ c := by
  intro c
  induction c with
  | zero => exact Nat.le_refl _
  | succ c ih =>
    rw [hmn_s]
    split <;> omega
end FIND
theorem OK_find {s : Sg} (h : REL s) (x y : Int32) : OKop (f_X7_find x y s) (f_X8_find x y) := by
  obtain ⟨⟨ns, ne, nr, np, hT⟩, _, _, _, ⟨hw, _⟩, hx⟩ := id h
  have hV := hT.1
  have hns := hV.2.1.1
  have h2n : 2 ^ ns ≤ 128 := Nat.pow_le_pow_right (n := 2) (by decide) hns
  have h01 : ∀ s : Sg, f_X8_in (Int32.toInt64 y) (0 : Int64) (1 : Int64) s = some (bi (0 ≤ y ∧ y < nI 2)) := fun s => S8_inB y (by decide) _ (by decide) s
  unfold f_X7_find f_X8_find
  rw [S7_areStreets hT, ob_s]
  by_cases h0 : 0 ≤ x ∧ x < nI (2 ^ ns)
  · rw [if_bi' _ _ h0, S_isBelow, ob_s]
    by_cases h1 : 0 ≤ y ∧ y < nI 2
    · rw [if_bi' _ _ h1]
      obtain ⟨m, hm, rfl⟩ := rngB (by omega) h0
      have hle : ∀ c, c < 24 → hmn (s 71) ns ne m c < 24 := fun c hc => by have := hmn_le (N := s 71) (ns := ns) (ne := ne) m c; omega
      have h8 : ∀ H, alC (s 71) ns ne m H ns ≤ 8 := fun H => alC_8 (by omega) H ns
      refine OK_ro h (if y = 0 then nI (hmn (s 71) ns ne m 23) else nI (alC (s 71) ns ne m (hmn (s 71) ns ne m 23) ns)) ?_ ?_
      · obtain ⟨s2, e1, e2, e3⟩ := S_write2 hT T1 hw hx
        refine ⟨s2, ?_, e3.ro hw⟩
        rw [e1, ob_s, nm_eq]
        refine lp2_ax (fun o => o = some (if y = 0 then nI (hmn (s 71) ns ne m 23) else nI (alC (s 71) ns ne m (hmn (s 71) ns ne m 23) ns), s2)) (fun i acc => acc = nI (hmn (s 71) ns ne m (i - 1))) 1 24 (by omega) ?_ ?_ (by omega) _ rfl
        · rintro self i acc h5 h6 rfl
          right
          refine ⟨_, ?_, rfl⟩
          unfold b_X7_find_37
          rw [ifle _ _ (by omega) (by omega), if_neg (by omega), S_mostAlike e2 hns (by omega) h6, ob_s, S_mostAlike e2 hns (by omega) (hle _ (by omega)), ob_s, nm_eq, ifle _ _ (by have := h8 (hmn (s 71) ns ne m (i - 1)); omega) (by have := h8 i; omega)]
          rw [show i + 1 - 1 = (i - 1) + 1 by omega, hmn_s, show i - 1 + 1 = i by omega]
          by_cases q : alC (s 71) ns ne m (hmn (s 71) ns ne m (i - 1)) ns ≤ alC (s 71) ns ne m i ns
          · rw [if_pos q, if_neg (by omega), nadd]
          · rw [if_neg q, if_pos (by omega), nadd]
        · rintro self acc rfl
          unfold b_X7_find_37
          rw [ifle _ _ (by omega) (by omega), if_pos (by omega)]
          dsimp only
          by_cases q : y = 0
          · rw [if_pos q, if_pos q]
          · rw [if_neg q, if_neg q, S_mostAlike e2 hns (by omega) (hle _ (by omega)), ob_s]
      · intro s1 hr
        obtain ⟨s2, e1, e2, e3, _, _⟩ := S8_runAll (s := s1) hr.n hV
        refine ⟨s2, ?_, e2.ro hr.nx⟩
        rw [S8_areStreets hr.n hV, ob_s, if_bi' _ _ h0, h01, ob_s, if_bi' _ _ h1, e1, ob_s, nm_eq]
        have inner : ∀ (j : Int32 → Option (Int32 × Sg)) (H : Nat), H < 24 → lp2_ (b_X8_find_51 s2 j (nI H) (nI m)) fu (nI 0) (nI 0) = j (nI (alC (s 71) ns ne m H ns)) := by
          intro j H hH
          rw [← al_eq]
          refine lp2_ax (fun o => o = j (nI (alR (s 71) ns ne m H ns))) (fun i acc => acc = nI (alR (s 71) ns ne m H i)) 0 ns (by omega) ?_ ?_ (by omega) _ rfl
          · rintro self i acc - h6 rfl
            right
            have h8 := alR_8 (N := s 71) (ns := ns) (ne := ne) (show m < 256 by omega) H i
            have h9 := alk_le (N := s 71) (ns := ns) (ne := ne) (show m < 256 by omega) H i
            refine ⟨_, ?_, rfl⟩
            unfold b_X8_find_51
            rw [S8_streets e3.1 hV, ob_s, ifle _ _ (by omega) (by omega), if_neg (by omega), e3.2 H i hH h6, ob_s, S8_whichIn e3 hV _ hH, ob_s, nand, Nat.and_comm, S8_bits (and_256 (by omega) _), ob_s, nm_eq]
            rw [show alR (s 71) ns ne m H (i + 1) = if alk (s 71) ns ne m H i ≤ alR (s 71) ns ne m H i then alR (s 71) ns ne m H i else alk (s 71) ns ne m H i from rfl]
            rw [show pc (m &&& mkN (eqB (s 71) ns ne H (NM (s 71) ns ne H i)) ns) = alk (s 71) ns ne m H i from rfl, ifle _ _ (by omega) (by omega), nadd]
            split <;> rfl
          · rintro self acc rfl
            unfold b_X8_find_51
            rw [S8_streets e3.1 hV, ob_s, ifle _ _ (by omega) (by omega), if_pos (by omega)]
        refine lp3_bx (fun o => o = some (if y = 0 then nI (hmn (s 71) ns ne m 23) else nI (alC (s 71) ns ne m (hmn (s 71) ns ne m 23) ns), s2)) (fun i u st => u = nI (hmn (s 71) ns ne m (i - 1)) ∧ st = if i = 0 then nI 1000000 else nI (alC (s 71) ns ne m (hmn (s 71) ns ne m (i - 1)) ns)) 0 24 (by omega) ?_ ?_ (by omega) _ _ ⟨rfl, rfl⟩
        · rintro self i u st h5 h6 ⟨rfl, rfl⟩
          right
          refine ⟨_, _, ?_, rfl, rfl⟩
          unfold b_X8_find_38
          rw [ifle _ _ (by omega) (by omega), if_neg (by omega), nm_eq, inner _ i h6, nm_eq, if_neg (show ¬ i + 1 = 0 by omega)]
          by_cases q0 : i = 0
          · subst q0
            rw [if_pos rfl, ifle _ _ (by omega) (by have := h8 0; omega), if_neg (by have := h8 0; omega)]
            dsimp only
            rw [nm_eq, ifle _ _ (by omega) (by have := h8 0; omega), if_neg (by have := h8 0; omega), nadd]
            rfl
          · rw [if_neg q0, ifle _ _ (by have := h8 (hmn (s 71) ns ne m (i - 1)); omega) (by have := h8 i; omega)]
            rw [show i + 1 - 1 = (i - 1) + 1 by omega, hmn_s, show i - 1 + 1 = i by omega]
            by_cases q : alC (s 71) ns ne m (hmn (s 71) ns ne m (i - 1)) ns ≤ alC (s 71) ns ne m i ns
            · rw [if_pos q]
              dsimp only
              rw [nm_eq, ifle _ _ (by have := h8 (hmn (s 71) ns ne m (i - 1)); omega) (by have := h8 i; omega), if_pos q, if_neg (by omega), nadd]
            · rw [if_neg q]
              dsimp only
              rw [nm_eq, ifle _ _ (by have := h8 (hmn (s 71) ns ne m (i - 1)); omega) (by have := h8 i; omega), if_neg q, if_pos (by omega), nadd]
        · rintro self u st ⟨rfl, rfl⟩
          unfold b_X8_find_38
          rw [ifle _ _ (by omega) (by omega), if_pos (by omega), if_neg (show ¬ 24 = 0 by decide)]
          dsimp only
          split <;> rfl
    · rw [if_bi0 _ _ h1]
      refine OK_bad h (-2) (r7 s) (fun s1 h3 => ?_)
      rw [S8_areStreets (n8 h3) hV, ob_s, if_bi' _ _ h0, h01, ob_s, if_bi0 _ _ h1, r8]
  · rw [if_bi0 _ _ h0]
    refine OK_bad h (-2) (r7 s) (fun s1 h3 => ?_)
    rw [S8_areStreets (n8 h3) hV, ob_s, if_bi0 _ _ h0, r8]
