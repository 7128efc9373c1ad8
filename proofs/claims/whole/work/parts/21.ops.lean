/-! CALLS THAT READ: name, changes, which, letter, cab -/
theorem RO.n {s s2 : Sg} (h : RO s s2) : s2 71 = s 71 := h.2.2.2.2.2.2.1 71 (by decide) (by decide)
theorem RO.nx {s s2 : Sg} (h : RO s s2) : NX s2 := h.2.2.2.2.1
theorem RO.rf {s : Sg} (h : NX s) : RO s s := ⟨fun _ _ => rfl, rfl, rfl, rfl, h, rfl, fun _ _ _ => rfl, rfl⟩
theorem rngB {x : Int32} {n : Nat} (hn : n < 2147483648) (h : 0 ≤ x ∧ x < nI n) : rng x n := by
  rcases i32c x n hn with ⟨k, hk, e⟩ | h2 | h2
  · exact ⟨k, hk, e⟩
  · exact absurd h2 (Int32.not_lt.mpr h.1)
  · exact absurd h.2 (Int32.not_lt.mpr h2)
theorem Brng {x : Int32} {n : Nat} (hn : n < 2147483648) (h : rng x n) : 0 ≤ x ∧ x < nI n := by
  obtain ⟨k, hk, rfl⟩ := h
  rw [isB (by omega) hn]
  exact hk
theorem if_bi' {p : Prop} [Decidable p] {α : Type} (x y : α) (h : p) : (if bi p = 0 then x else y) = y := by rw [if_bi, if_pos h]
theorem if_bi0 {p : Prop} [Decidable p] {α : Type} (x y : α) (h : ¬ p) : (if bi p = 0 then x else y) = x := by rw [if_bi, if_neg h]
theorem r7 (s : Sg) : (ob2 (f_X7_refuseBad s) fun (v : Int32) (s2 : Sg) => some (v, s2)) = some (-2, sts s 0 11 (s 0 11 + nI 1)) := rfl
theorem r8 (x : Int32) (s : Sg) : (ob2 (f_X8_bad x s) fun (v : Int32) (s2 : Sg) => some (v, s2)) = f_X8_bad x s := ob2_eta _
theorem T1 : isT 1 := Or.inl rfl
theorem S7_isStreet {s : Sg} {N : Nat → Int32} {ns ne nr np : Nat} (h : TR s 1 N ns ne nr np) (x : Int32) : f_X7_isStreet x s = some (bi (0 ≤ x ∧ x < nI ns)) := by
  unfold f_X7_isStreet
  rw [S_size, ob_s, h.2.1.1.2, S_isBelow, ob_s, bi_and]
theorem n8 {s1 s : Sg} (h : ∀ c, c ≠ 0 → s1 c = s c) : s1 71 = s 71 := h 71 (by decide)
theorem OK_name {s : Sg} (h : REL s) (x y : Int32) : OKop (f_X7_name x y s) (f_X8_name x y) := by
  obtain ⟨⟨ns, ne, nr, np, hT⟩, _, _, _, ⟨hw, _⟩, hx⟩ := id h
  have hV := hT.1
  have hns := hV.2.1.1
  unfold f_X7_name f_X8_name
  rw [S7_isStreet hT, ob_s]
  by_cases h1 : 0 ≤ x ∧ x < nI ns
  · rw [if_bi' _ _ h1, S_isHour, ob_s]
    by_cases h2 : 0 ≤ y ∧ y < nI 24
    · obtain ⟨i, hi, rfl⟩ := rngB (by omega) h1
      obtain ⟨H, hH, rfl⟩ := rngB (by decide) h2
      rw [if_bi' _ _ h2]
      refine OK_ro h (NM (s 71) ns ne H i) ?_ ?_
      · obtain ⟨s2, e1, e2, e3⟩ := S_write2 hT T1 hw hx
        refine ⟨s2, ?_, e3.ro hw⟩
        rw [e1, ob_s, S_at e2 hns hi hH, ob_s]
      · intro s1 hr
        obtain ⟨s2, e1, e2, e3, _⟩ := S8_runAll (s := s1) hr.n hV
        refine ⟨s2, ?_, e2.ro hr.nx⟩
        rw [S8_isStreet hr.n hV, ob_s, if_bi' _ _ h1, S8_isHour, ob_s, if_bi' _ _ h2, e1, ob_s, e3.2 H i hH hi, ob_s]
    · rw [if_bi0 _ _ h2]
      refine OK_bad h (-2) (r7 s) (fun s1 h3 => ?_)
      rw [S8_isStreet (n8 h3) hV, ob_s, if_bi' _ _ h1, S8_isHour, ob_s, if_bi0 _ _ h2, r8]
  · rw [if_bi0 _ _ h1]
    refine OK_bad h (-2) (r7 s) (fun s1 h3 => ?_)
    rw [S8_isStreet (n8 h3) hV, ob_s, if_bi0 _ _ h1, r8]
/-- a plan, as a step that only writes beside -/
theorem S_plan2 {s : Sg} {t : Nat} {N : Nat → Int32} {ns ne nr np : Nat} (h : TR s t N ns ne nr np) (hT : isT t) (hw : s 53 0 = nI 6) (hx : NX s) : ∃ s2, f_X0_plan t s = some s2 ∧ PL s2 (bkT (evL N ns ne) 24) N ns ∧ SC s s2 := by
  obtain ⟨s2, e1, e2, e3, e4⟩ := S_plan h hT hw
  rw [plL_bk N ns ne h.1.hrs] at e2
  obtain ⟨b, hb, hb2⟩ := hx
  exact ⟨s2, e1, e2, fun c hc => e3 c (by omega) (by omega) (by omega) (by omega) (by omega), e2.1.1.1, ⟨b, hb, e4.trans hb2⟩⟩
theorem LV.sc {s s2 : Sg} {i : Nat} (h : LV s s2 i) (hn : NX s2) (hw : s 53 0 = nI 6) : SC s s2 :=
  ⟨fun c hc => h.1 c (by omega) (by omega) (by omega) (by omega) (by omega), by rw [h.1 53 (by decide) (by decide) (by decide) (by decide) (by decide)]; exact hw, hn⟩
theorem flt_all (L : List Hap) (h : ∀ x ∈ L, ¬ (x 5 &&& (-1 : Int32)) = 0) : flt (-1) L = L := by
  unfold flt
  rw [List.filter_eq_self]
  intro x hx
  exact decide_eq_true (h x hx)
/-! loops that count -/
theorem lp2_ix {α γ : Type} {B : (Int32 → α → Option γ) → Int32 → α → Option γ} (Post : Option γ → Prop) (P : Nat → α → Prop) (a n : Nat) (hn : n < 900000)
    (step : ∀ (self : Int32 → α → Option γ) (i : Nat) (st : α), a ≤ i → i < n → P i st → Post (B self (nI i) st) ∨ ∃ st2, B self (nI i) st = self (nI (i + 1)) st2 ∧ P (i + 1) st2)
    (fin : ∀ (self : Int32 → α → Option γ) (st : α), P n st → Post (B self (nI n) st)) (han : a ≤ n) (st : α) (h0 : P a st) : Post (lp2_ B fu (nI a) st) := by
  refine lp2_po Post (fun d j s => ∃ i, i + d = n ∧ a ≤ i ∧ j = nI i ∧ P i s) ?_ fu (n - a) _ _ (fu_ge (by omega)) ⟨a, by omega, Nat.le_refl a, rfl, h0⟩
  rintro self d j s ⟨i, e1, e2, rfl, hp⟩
  by_cases hd : i = n
  · subst hd
    exact Or.inl (fin self s hp)
  · rcases step self i s e2 (by omega) hp with q | ⟨st2, q1, q2⟩
    · exact Or.inl q
    · exact Or.inr ⟨d - 1, _, _, by omega, q1, i + 1, by omega, by omega, rfl, q2⟩
theorem lp2_ax {α γ : Type} {B : (α → Int32 → Option γ) → α → Int32 → Option γ} (Post : Option γ → Prop) (P : Nat → α → Prop) (a n : Nat) (hn : n < 900000)
    (step : ∀ (self : α → Int32 → Option γ) (i : Nat) (st : α), a ≤ i → i < n → P i st → Post (B self st (nI i)) ∨ ∃ st2, B self st (nI i) = self st2 (nI (i + 1)) ∧ P (i + 1) st2)
    (fin : ∀ (self : α → Int32 → Option γ) (st : α), P n st → Post (B self st (nI n))) (han : a ≤ n) (st : α) (h0 : P a st) : Post (lp2_ B fu st (nI a)) := by
  refine lp2_po Post (fun d s j => ∃ i, i + d = n ∧ a ≤ i ∧ j = nI i ∧ P i s) ?_ fu (n - a) _ _ (fu_ge (by omega)) ⟨a, by omega, Nat.le_refl a, rfl, h0⟩
  rintro self d s j ⟨i, e1, e2, rfl, hp⟩
  by_cases hd : i = n
  · subst hd
    exact Or.inl (fin self s hp)
  · rcases step self i s e2 (by omega) hp with q | ⟨st2, q1, q2⟩
    · exact Or.inl q
    · exact Or.inr ⟨d - 1, _, _, by omega, q1, i + 1, by omega, by omega, rfl, q2⟩
theorem lp3_bx {α β γ : Type} {B : (α → β → Int32 → Option γ) → α → β → Int32 → Option γ} (Post : Option γ → Prop) (P : Nat → α → β → Prop) (a n : Nat) (hn : n < 900000)
    (step : ∀ (self : α → β → Int32 → Option γ) (i : Nat) (u : α) (st : β), a ≤ i → i < n → P i u st → Post (B self u st (nI i)) ∨ ∃ u2 st2, B self u st (nI i) = self u2 st2 (nI (i + 1)) ∧ P (i + 1) u2 st2)
    (fin : ∀ (self : α → β → Int32 → Option γ) (u : α) (st : β), P n u st → Post (B self u st (nI n))) (han : a ≤ n) (u : α) (st : β) (h0 : P a u st) : Post (lp3_ B fu u st (nI a)) := by
  refine lp3_po Post (fun d v s j => ∃ i, i + d = n ∧ a ≤ i ∧ j = nI i ∧ P i v s) ?_ fu (n - a) _ _ _ (fu_ge (by omega)) ⟨a, by omega, Nat.le_refl a, rfl, h0⟩
  rintro self d v s j ⟨i, e1, e2, rfl, hp⟩
  by_cases hd : i = n
  · subst hd
    exact Or.inl (fin self v s hp)
  · rcases step self i v s e2 (by omega) hp with q | ⟨u2, st2, q1, q2⟩
    · exact Or.inl q
    · exact Or.inr ⟨d - 1, _, _, _, by omega, q1, i + 1, by omega, by omega, rfl, q2⟩
theorem lp3_ax {α β γ : Type} {B : (α → Int32 → β → Option γ) → α → Int32 → β → Option γ} (Post : Option γ → Prop) (P : Nat → α → β → Prop) (a n : Nat) (hn : n < 900000)
    (step : ∀ (self : α → Int32 → β → Option γ) (i : Nat) (u : α) (st : β), a ≤ i → i < n → P i u st → Post (B self u (nI i) st) ∨ ∃ u2 st2, B self u (nI i) st = self u2 (nI (i + 1)) st2 ∧ P (i + 1) u2 st2)
    (fin : ∀ (self : α → Int32 → β → Option γ) (u : α) (st : β), P n u st → Post (B self u (nI n) st)) (han : a ≤ n) (u : α) (st : β) (h0 : P a u st) : Post (lp3_ B fu u (nI a) st) := by
  refine lp3_po Post (fun d v j s => ∃ i, i + d = n ∧ a ≤ i ∧ j = nI i ∧ P i v s) ?_ fu (n - a) _ _ _ (fu_ge (by omega)) ⟨a, by omega, Nat.le_refl a, rfl, h0⟩
  rintro self d v j s ⟨i, e1, e2, rfl, hp⟩
  by_cases hd : i = n
  · subst hd
    exact Or.inl (fin self v s hp)
  · rcases step self i v s e2 (by omega) hp with q | ⟨u2, st2, q1, q2⟩
    · exact Or.inl q
    · exact Or.inr ⟨d - 1, _, _, _, by omega, q1, i + 1, by omega, by omega, rfl, q2⟩
theorem lp4_ax {α δ β γ : Type} {B : (α → δ → Int32 → β → Option γ) → α → δ → Int32 → β → Option γ} (Post : Option γ → Prop) (P : Nat → α → δ → β → Prop) (a n : Nat) (hn : n < 900000)
    (step : ∀ (self : α → δ → Int32 → β → Option γ) (i : Nat) (u : α) (w : δ) (st : β), a ≤ i → i < n → P i u w st → Post (B self u w (nI i) st) ∨ ∃ u2 w2 st2, B self u w (nI i) st = self u2 w2 (nI (i + 1)) st2 ∧ P (i + 1) u2 w2 st2)
    (fin : ∀ (self : α → δ → Int32 → β → Option γ) (u : α) (w : δ) (st : β), P n u w st → Post (B self u w (nI n) st)) (han : a ≤ n) (u : α) (w : δ) (st : β) (h0 : P a u w st) : Post (lp4_ B fu u w (nI a) st) := by
  refine lp4_po Post (fun d v w j s => ∃ i, i + d = n ∧ a ≤ i ∧ j = nI i ∧ P i v w s) ?_ fu (n - a) _ _ _ _ (fu_ge (by omega)) ⟨a, by omega, Nat.le_refl a, rfl, h0⟩
  rintro self d v w j s ⟨i, e1, e2, rfl, hp⟩
  by_cases hd : i = n
  · subst hd
    exact Or.inl (fin self v w s hp)
  · rcases step self i v w s e2 (by omega) hp with q | ⟨u2, w2, st2, q1, q2⟩
    · exact Or.inl q
    · exact Or.inr ⟨d - 1, _, _, _, _, by omega, q1, i + 1, by omega, by omega, rfl, q2⟩
/-! words of a street by a list -/
def WD (N : Nat → Int32) (E : List Hap) (i H : Nat) : Int32 := (trk (N 2) i (bkT E (H + 1)) (N (5 + 4 * i + 3))).1
def CT (N : Nat → Int32) (E : List Hap) (i : Nat) : Nat := cnt1 (N 2) i (bkT E 24) (beg N i)
theorem m1_hb : ∀ k, k < 8 → hb (-1) k = true := by decide +kernel
theorem evL_m1 (N : Nat → Int32) (ns : Nat) {ne : Nat} (h : ne ≤ 8) : flt (-1) (evL N ns ne) = evL N ns ne := by
  rw [flt_ev N ns _ ne h, evS_all N ns _ ne (fun k hk => m1_hb k (by omega))]
theorem gS_m1 (g : Stg) : flt (-1) (gS g) = gS g := by
  unfold flt gS
  rw [List.filter_eq_self]
  intro x hx
  obtain ⟨q, _, rfl⟩ := List.mem_map.mp hx
  show decide (¬ (nI 256 &&& (-1 : Int32)) = 0) = true
  decide
theorem E_m1 (N : Nat → Int32) (ns : Nat) {ne : Nat} (h : ne ≤ 8) (g : Stg) : flt (-1) (evL N ns ne ++ gS g) = evL N ns ne ++ gS g := by
  rw [flt_app, evL_m1 N ns h, gS_m1]
section WORDS
variable {s : Sg} {N : Nat → Int32} {ns ne nr np : Nat} {E : List Hap}
theorem S_word (hP : PL s (bkT E 24) N ns) (hns : ns ≤ 7) {i H : Nat} (hi : i < ns) (hH : H < 24) (hp : Int32) : ∃ s2, f_X0_wordIn (nI i) (nI H) hp s = some (WD N (flt hp E) i H, s2) ∧ LV s s2 i ∧ NX s2 := by
  obtain ⟨s2, e1, e2, e3⟩ := S_wordIn hP hns hi (nI H) hp
  refine ⟨s2, ?_, e2, e3⟩
  rw [e1, take_bk E hH, flt_bk]
  rfl
theorem S_count (hP : PL s (bkT E 24) N ns) (hns : ns ≤ 7) {i : Nat} (hi : i < ns) (hp : Int32) : ∃ s2, f_X0_renamings (nI i) hp s = some (nI (CT N (flt hp E) i), s2) ∧ LV s s2 i ∧ NX s2 := by
  obtain ⟨s2, e1, e2, e3⟩ := S_renamings hP hns hi hp
  refine ⟨s2, ?_, e2, e3⟩
  rw [e1, take_bk E (show 23 < 24 by decide), flt_bk]
  rfl
theorem S8_words (h : s 71 = N) (hV : VN N ns ne nr np) {g : Stg} (hg : SGd s g ns) (x : Int32) : ∃ s2, f_X8_run x s = some s2 ∧ RG s s2 ∧
    (∀ H i, H < 24 → i < ns → s2 75 (7 * H + i) = WD N (evS N ns x ne ++ gS g) i H) ∧ ∀ i, i < ns → s2 81 i = nI (CT N (evS N ns x ne ++ gS g) i) := by
  obtain ⟨s2, e1, e2, e3, e4⟩ := S8_run h hV hg x
  refine ⟨s2, e1, e2, fun H i hH hi => ?_, fun i hi => ?_⟩
  · have a2 := (foldB_i (N 2) ns hi (bkT (evS N ns x ne ++ gS g) (H + 1)) (V0B N)).1
    rw [(e4 H i hH hi).1, allH_bk]
    show (tr3 (foldB (N 2) ns (bkT (evS N ns x ne ++ gS g) (H + 1)) (V0B N)).1 i).1 = _
    rw [a2]
    rfl
  · have a1 := e3.2 i hi
    have a2 := (foldB_i (N 2) ns hi (bkT (evS N ns x ne ++ gS g) 24) (V0B N)).2
    rw [show s2 81 i = (vecR s2).2 i from rfl, a1, allH_bk, a2]
    show nI 0 + nI _ = nI _
    rw [nadd, Nat.zero_add]
    rfl
theorem evA (N : Nat → Int32) (ns : Nat) {ne : Nat} (h : ne ≤ 8) : evS N ns (nI (2 ^ ne) - nI 1) ne = evL N ns ne := evS_all N ns _ ne (all1 ne h)
end WORDS
theorem OK_changes {s : Sg} (h : REL s) (x : Int32) : OKop (f_X7_changes x s) (f_X8_changes x) := by
  obtain ⟨⟨ns, ne, nr, np, hT⟩, _, _, _, ⟨hw, _⟩, hx⟩ := id h
  have hV := hT.1
  have hns := hV.2.1.1
  unfold f_X7_changes f_X8_changes
  rw [S7_isStreet hT, ob_s]
  by_cases h1 : 0 ≤ x ∧ x < nI ns
  · rw [if_bi' _ _ h1]
    obtain ⟨i, hi, rfl⟩ := rngB (by omega) h1
    refine OK_ro h (nI (CT (s 71) (evL (s 71) ns ne) i)) ?_ ?_
    · obtain ⟨s2, e1, e2, e3⟩ := S_plan2 hT T1 hw hx
      obtain ⟨s3, f1, f2, f3⟩ := S_count e2 hns hi (-1)
      rw [e1, ob_s, f1, ob2_some, evL_m1 _ _ hV.2.1.2.1]
      exact ⟨s3, rfl, (e3.tr (f2.sc f3 e3.2.1)).ro hw⟩
    · intro s1 hr
      obtain ⟨s2, e1, e2, _, _, e3⟩ := S8_runAll (s := s1) hr.n hV
      refine ⟨s2, ?_, e2.ro hr.nx⟩
      rw [S8_isStreet hr.n hV, ob_s, if_bi' _ _ h1, e1, ob_s, ag _ 81 (show i < 7 by omega) (by omega), ob_s, e3 i hi]
      rfl
  · rw [if_bi0 _ _ h1]
    refine OK_bad h (-2) (r7 s) (fun s1 h3 => ?_)
    rw [S8_isStreet (n8 h3) hV, ob_s, if_bi0 _ _ h1, r8]
