/-! landlords -/
theorem nm_if {α β : Type} {p : Prop} [Decidable p] (K : α → β) (a b : α) : nm_ K (fun j => if p then j a else j b) = K (if p then a else b) := by
  rw [nm_eq]
  split <;> rfl
theorem nm_ite {β : Type} {p : Prop} [Decidable p] (K : Sg → Option β) (a b : Sg) (o : Option (Int32 × Sg)) (v : Int32) (h : o = some (v, b)) : nm_ K (fun j => if p then j a else ob2 o fun (_ : Int32) (s : Sg) => j s) = K (if p then a else b) := by
  rw [nm_eq, h, ob2_some]
  split <;> rfl
theorem nm_ite8 {β : Type} {p : Prop} [Decidable p] (K : Sg → Option β) (a b : Sg) (F : Sg → Sg) (o : Option Sg) (h : o = some b) : nm_ K (fun j => if p then o.bind (fun s => nm_ (F s) fun s2 => j s2) else j a) = K (if p then F b else a) := by
  rw [nm_eq, h, ob_s, nm_eq]
  split <;> rfl
theorem nm_itf {β : Type} {p : Prop} [Decidable p] (K : Sg → Option β) (a b : Sg) (F : Sg → Sg) (o : Option Sg) (h : o = some b) : nm_ K (fun j => if p then j a else o.bind (fun s => nm_ (F s) fun s2 => j s2)) = K (if p then a else F b) := by
  rw [nm_eq, h, ob_s, nm_eq]
  split <;> rfl
section LORDS
variable {s : Sg} {N : Nat → Int32} {t ns ne nr np : Nat}
def dwN (N : Nat → Int32) (c : Nat) : Nat := forN (fun k b => if N (81 + (k + 1)) ≤ N (81 + b) then b else k + 1) c 0
theorem dwN_s (c : Nat) : dwN N (c + 1) = if N (81 + (c + 1)) ≤ N (81 + dwN N c) then dwN N c else c + 1 := rfl
theorem dwN_le : ∀ c, dwN N c ≤ c := by
  intro c
  induction c with
  | zero => exact Nat.le_refl _
  | succ c ih => rw [dwN_s]; split <;> omega
theorem S_dearest (h : TR s t N ns ne nr np) (hT : isT t) : f_X5_dearestWord t s = some (nI (dwN N 15)) := by
  have ha := hT.k.2.2.2.2.1
  refine lp2_ax (fun o => o = some (nI (dwN N 15))) (fun k a => a = nI (dwN N (k - 1))) 1 16 (by omega) ?_ ?_ (by omega) _ rfl
  · rintro self k a h5 h6 rfl
    right
    have h7 := dwN_le (N := N) (k - 1)
    refine ⟨_, ?_, rfl⟩
    unfold b_X5_dearestWord_4
    rw [ifle _ _ (by omega) (by omega), if_neg (by omega), ag _ _ (by omega) (by omega), ob_s, ag _ _ (by omega) (by omega), ob_s, nm_if, h.2.2.2.2.2.2.1 k h6, h.2.2.2.2.2.2.1 _ (by omega), nadd, show k + 1 - 1 = (k - 1) + 1 by omega, dwN_s, show k - 1 + 1 = k by omega]
    split <;> rfl
  · rintro self a rfl
    unfold b_X5_dearestWord_4
    rw [ifle _ _ (by omega) (by omega), if_pos (by omega)]
theorem S8_dearest (h : s 71 = N) : f_X8_dearest s = some (nI (dwN N 15)) := by
  refine lp2_ax (fun o => o = some (nI (dwN N 15))) (fun k a => a = nI (dwN N (k - 1))) 1 16 (by omega) ?_ ?_ (by omega) _ rfl
  · rintro self k a h5 h6 rfl
    right
    have h7 := dwN_le (N := N) (k - 1)
    refine ⟨_, ?_, rfl⟩
    unfold b_X8_dearest_4
    rw [ifle _ _ (by omega) (by omega), if_neg (by omega), nadd, ag _ 71 (show 81 + k < 515 by omega) (by omega), ob_s, nadd, ag _ 71 (show 81 + dwN N (k - 1) < 515 by omega) (by omega), ob_s, nm_if, h, nadd, show k + 1 - 1 = (k - 1) + 1 by omega, dwN_s, show k - 1 + 1 = k by omega]
    split <;> rfl
  · rintro self a rfl
    unfold b_X8_dearest_4
    rw [ifle _ _ (by omega) (by omega), if_pos (by omega)]
/-- who stages in round k -/
def gA (i H : Nat) (w : Int32) (k : Nat) : Stg := if k % 2 = 0 then [] else [(i, nI H, w)]
def gL (i j H : Nat) (w : Int32) (k : Nat) : Stg := if k < 2 then gA i H w k else gA i H w k ++ [(j, nI H, w)]
noncomputable def lA (N : Nat → Int32) (ns ne i j H : Nat) (w c : Int32) (k : Nat) : Int32 := rentR N (EG N ns ne (gL i j H w k)) i - (if k % 2 = 0 then nI 0 else c)
noncomputable def lB (N : Nat → Int32) (ns ne i j H : Nat) (w c : Int32) (k : Nat) : Int32 := rentR N (EG N ns ne (gL i j H w k)) j - (if k < 2 then nI 0 else c)
theorem b1_4 : ∀ k, k < 4 → ((nI k &&& nI 1 = 0) ↔ k % 2 = 0) ∧ ((nI k &&& nI 2 = 0) ↔ k < 2) ∧ ((nI k &&& nI 1 = nI 1) ↔ ¬ k % 2 = 0) ∧ ((nI k ≤ nI 1) ↔ k < 2) ∧ nI k ^^^ nI 1 = nI (k ^^^ 1) ∧ nI k ^^^ nI 2 = nI (k ^^^ 2) ∧ k ^^^ 1 < 4 ∧ k ^^^ 2 < 4 := by decide +kernel
theorem if_iff {p q : Prop} [Decidable p] [Decidable q] {α : Type} (h : p ↔ q) (a b : α) : (if p then a else b) = if q then a else b := by
  by_cases hp : p
  · rw [if_pos hp, if_pos (h.mp hp)]
  · rw [if_neg hp, if_neg (fun z => hp (h.mpr z))]
theorem S_add3 {g : Stg} (hP : PL s (bkT (EG N ns ne g) 24) N ns) (hl : (bkT (EG N ns ne g) 24).length < 10) (hx : NX s) {i H : Nat} (hH : H < 24) (w : Int32) : ∃ v s2, f_X0_addStaged (nI i) w (nI H) s = some (v, s2) ∧ PL s2 (bkT (EG N ns ne (g ++ [(i, nI H, w)])) 24) N ns ∧ (bkT (EG N ns ne (g ++ [(i, nI H, w)])) 24).length = (bkT (EG N ns ne g) 24).length + 1 ∧ SC s s2 ∧ s2 64 = s 64 ∧ s2 65 = s 65 := by
  obtain ⟨s2, e1, e2, e3⟩ := S_addStaged hP.1 hl (i := i) w (nI H)
  rw [ins_bk _ _ (show rng (hapS i w (nI H) 0) 24 from rng.mk hH), EG_add] at e2
  have hl2 := bk_add_len (EG N ns ne g) (hapS i w (nI H)) (rng.mk hH)
  rw [EG_add] at hl2
  obtain ⟨b, hb, hb2⟩ := hx
  exact ⟨_, s2, e1, ⟨e2, by rw [e3 52 (by decide) (by decide) (by decide)]; exact hP.2.1, by rw [e3 52 (by decide) (by decide) (by decide)]; exact hP.2.2.1, fun i hi => by rw [e3 56 (by decide) (by decide) (by decide)]; exact hP.2.2.2 i hi⟩, hl2,
    ⟨fun c hc => e3 c (by omega) (by omega) (by omega), e2.1.1, ⟨b, hb, by rw [e3 52 (by decide) (by decide) (by decide)]; exact hb2⟩⟩, e3 64 (by decide) (by decide) (by decide), e3 65 (by decide) (by decide) (by decide)⟩
theorem E16_EG (hV : VN N ns ne nr np) {g : Stg} (hg : ∀ q ∈ g, rng q.2.2 16) : E16 (EG N ns ne g) := by
  intro x hx
  rcases List.mem_append.mp hx with h | h
  · exact evL_16 hV x h
  · obtain ⟨q, h1, rfl⟩ := List.mem_map.mp h
    exact hg q h1
theorem gL_16 {i j H k : Nat} {w : Int32} (hw : rng w 16) : ∀ q ∈ gL i j H w k, rng q.2.2 16 := by
  intro q hq
  unfold gL gA at hq
  split at hq
  · split at hq
    · exact absurd hq (by simp)
    · rw [List.mem_singleton] at hq; subst hq; exact hw
  · rcases List.mem_append.mp hq with h | h
    · split at h
      · exact absurd h (by simp)
      · rw [List.mem_singleton] at h; subst h; exact hw
    · rw [List.mem_singleton] at h; subst h; exact hw
theorem PL.s6 {L : List Hap} (h : PL s L N ns) {c : Nat} (hc : 60 < c) (k : Nat) (v : Int32) : PL (sts s c k v) L N ns :=
  ⟨h.1.fr (sts_n _ _ _ (by omega)) (sts_n _ _ _ (by omega)), by rw [sts_n _ _ _ (by omega)]; exact h.2.1, by rw [sts_n _ _ _ (by omega)]; exact h.2.2.1, fun i hi => by rw [sts_n _ _ _ (by omega)]; exact h.2.2.2 i hi⟩
theorem SC.s6 {s2 : Sg} (h : SC s s2) {c : Nat} (h1 : 60 < c) (h2 : c < 70) (k : Nat) (v : Int32) : SC s (sts s2 c k v) :=
  ⟨fun d hd => by rw [sts_n _ _ _ (by omega)]; exact h.1 d hd, by rw [sts_n _ _ _ (by omega)]; exact h.2.1, by
    obtain ⟨b, h3, h4⟩ := h.2.2
    exact ⟨b, h3, by rw [sts_n _ _ _ (by omega)]; exact h4⟩⟩
theorem S_weigh (h0 : TR s 1 N ns ne nr np) (hw : s 53 0 = nI 6) (hx : NX s) {i j H : Nat} (hi : i < ns) (hj : j < ns) (hH : H < 24) (c : Int32) :
    ∃ s2, f_X3_weighPairs (nI i) (nI j) (nI H) c 1 s = some s2 ∧ SC s s2 ∧ ∀ k, k < 4 → s2 64 k = lA N ns ne i j H (nI (dwN N 15)) c k ∧ s2 65 k = lB N ns ne i j H (nI (dwN N 15)) c k := by
  have hV := h0.1
  have hns := hV.2.1.1
  have hne := hV.2.1.2.1
  have hl := EG_len hV
  have hd : dwN N 15 < 16 := by have := dwN_le (N := N) 15; omega
  generalize hww : nI (dwN N 15) = w
  have hw16 : rng w 16 := by rw [← hww]; exact rng.mk hd
  unfold f_X3_weighPairs
  rw [S_dearest h0 T1, ob_s, hww]
  refine lp2_ix (fun o => ∃ s2, o = some s2 ∧ SC s s2 ∧ ∀ k, k < 4 → s2 64 k = lA N ns ne i j H w c k ∧ s2 65 k = lB N ns ne i j H w c k) (fun m st => SC s st ∧ ∀ k, k < m → st 64 k = lA N ns ne i j H w c k ∧ st 65 k = lB N ns ne i j H w c k) 0 4 (by omega) ?_ ?_ (by omega) _ ⟨⟨fun _ _ => rfl, hw, hx⟩, fun k hk => absurd hk (by omega)⟩
  · rintro self m st - h6 ⟨h7, h8⟩
    right
    have hT := h7.tt T1 h0
    obtain ⟨B1, B2, -, -, -, -, -, -⟩ := b1_4 m h6
    obtain ⟨s5, a1, a2, a3, a4⟩ := S_plan hT T1 h7.2.1
    rw [plL_bk N ns ne hV.hrs, ← EG_0] at a2
    have a5 : SC st s5 := ⟨fun c hc => a3 c (by omega) (by omega) (by omega) (by omega) (by omega), a2.1.1.1, by
      obtain ⟨b, hb, hb2⟩ := h7.2.2
      exact ⟨b, hb, a4.trans hb2⟩⟩
    have f5 : s5 64 = st 64 ∧ s5 65 = st 65 := ⟨a3 64 (by decide) (by decide) (by decide) (by decide) (by decide), a3 65 (by decide) (by decide) (by decide) (by decide) (by decide)⟩
    obtain ⟨v6, s23, b1, b2, b3, b4, b5⟩ := S_add3 (i := i) a2 (by omega) a5.2.2 hH w
    unfold b_X3_weighPairs_10
    rw [ifle _ _ (by omega) (by omega), if_neg (by omega), a1, ob_s, nm_ite _ _ _ _ _ b1]
    obtain ⟨z, hz⟩ : ∃ z, z = (if nI m &&& nI 1 = 0 then s5 else s23) := ⟨_, rfl⟩
    rw [← hz]
    have z1 : PL z (bkT (EG N ns ne (gA i H w m)) 24) N ns ∧ (bkT (EG N ns ne (gA i H w m)) 24).length < 10 ∧ SC st z ∧ z 64 = st 64 ∧ z 65 = st 65 := by
      unfold gA
      by_cases q : m % 2 = 0
      · rw [hz, if_pos (B1.mpr q), if_pos q]
        exact ⟨a2, by omega, a5, f5.1, f5.2⟩
      · rw [hz, if_neg (fun z => q (B1.mp z)), if_neg q]
        exact ⟨b2, by simp only [List.nil_append] at b3; omega, a5.tr b4, b5.1.trans f5.1, b5.2.trans f5.2⟩
    clear hz
    obtain ⟨v7, s21, c1, c2, c3, c4, c5⟩ := S_add3 (i := j) z1.1 z1.2.1 z1.2.2.1.2.2 hH w
    rw [nm_ite _ _ _ _ _ c1]
    obtain ⟨y, hy⟩ : ∃ y, y = (if nI m &&& nI 2 = 0 then z else s21) := ⟨_, rfl⟩
    rw [← hy]
    have y1 : PL y (bkT (EG N ns ne (gL i j H w m)) 24) N ns ∧ SC st y ∧ y 64 = st 64 ∧ y 65 = st 65 := by
      unfold gL
      by_cases q : m < 2
      · rw [hy, if_pos (B2.mpr q), if_pos q]
        exact ⟨z1.1, z1.2.2.1, z1.2.2.2.1, z1.2.2.2.2⟩
      · rw [hy, if_neg (fun z => q (B2.mp z)), if_neg q]
        exact ⟨c2, z1.2.2.1.tr c4, c5.1.trans z1.2.2.2.1, c5.2.trans z1.2.2.2.2⟩
    clear hy
    obtain ⟨y1, y2, y3, y4⟩ := y1
    have hE16 := E16_EG hV (gL_16 (i := i) (j := j) (H := H) (k := m) hw16)
    have hEm := E_m1 N ns hne (gL i j H w m)
    obtain ⟨s11, d1, d2, d3⟩ := S_rent ((h7.tr y2).tt T1 h0) T1 y1 hE16 hEm hi
    have d4 := y2.tr (d2.sc d3 y2.2.1)
    have f11 : s11 64 = st 64 ∧ s11 65 = st 65 := ⟨(d2.1 64 (by decide) (by decide) (by decide) (by decide) (by decide)).trans y3, (d2.1 65 (by decide) (by decide) (by decide) (by decide) (by decide)).trans y4⟩
    rw [d1, ob2_some, nm_if, if_iff B1, as _ 64 _ (show m < 4 from h6), ob_s]
    have d5 := d4.s6 (c := 64) (by decide) (by decide) m (rentR N (EG N ns ne (gL i j H w m)) i - if m % 2 = 0 then nI 0 else c)
    have d6 := (d2.pl y1).s6 (c := 64) (by decide) m (rentR N (EG N ns ne (gL i j H w m)) i - if m % 2 = 0 then nI 0 else c)
    obtain ⟨s16, e1, e2, e3⟩ := S_rent ((h7.tr d5).tt T1 h0) T1 d6 hE16 hEm hj
    have e4 := d5.tr (e2.sc e3 d5.2.1)
    rw [e1, ob2_some, nm_if, if_iff B2, as _ 65 _ (show m < 4 from h6), ob_s, nadd]
    have g64 : s16 64 = upd (st 64) m (lA N ns ne i j H w c m) := by
      rw [e2.1 64 (by decide) (by decide) (by decide) (by decide) (by decide), sts_c, f11.1]; rfl
    have g65 : s16 65 = st 65 := by
      rw [e2.1 65 (by decide) (by decide) (by decide) (by decide) (by decide), sts_n _ _ _ (by decide), f11.2]
    refine ⟨_, rfl, (h7.tr e4).s6 (by decide) (by decide) _ _, fun k hk => ?_⟩
    rw [sts_n _ _ _ (by decide), sts_c, g64, g65]
    by_cases q : k = m
    · subst q
      rw [upd_s, upd_s]
      exact ⟨rfl, rfl⟩
    · rw [upd_n _ _ q, upd_n _ _ q]
      exact h8 k (by omega)
  · rintro self st ⟨h7, h8⟩
    unfold b_X3_weighPairs_10
    rw [ifle _ _ (by omega) (by omega), if_pos (by omega)]
    exact ⟨st, rfl, h7, h8⟩
/-- the pairs that rest -/
noncomputable def rsN (A B : Nat → Int32) (c : Nat) : Int32 := forN (fun k b => @ite _ (A k < A (k ^^^ 1) ∨ B k < B (k ^^^ 2)) (Classical.propDecidable _) b (b ||| sh1 k)) c (nI 0)
theorem rsN_s (A B : Nat → Int32) (c : Nat) : rsN A B (c + 1) = @ite _ (A c < A (c ^^^ 1) ∨ B c < B (c ^^^ 2)) (Classical.propDecidable _) (rsN A B c) (rsN A B c ||| sh1 c) := rfl
theorem S_rest {A B : Nat → Int32} (h : ∀ k, k < 4 → s 64 k = A k ∧ s 65 k = B k) : f_X3_pairsThatRest s = some (rsN A B 4) := by
  refine lp2_ax (fun o => o = some (rsN A B 4)) (fun k a => a = rsN A B k) 0 4 (by omega) ?_ ?_ (by omega) _ rfl
  · rintro self k a - h6 rfl
    right
    obtain ⟨-, -, -, -, B5, B6, B7, B8⟩ := b1_4 k h6
    refine ⟨_, ?_, rfl⟩
    unfold b_X3_pairsThatRest_4
    rw [ifle _ _ (by omega) (by omega), if_neg (by omega), B5, B6, ag _ 64 (show k < 4 from h6) (by omega), ob_s, ag _ 64 (show k ^^^ 1 < 4 from B7) (by omega), ob_s, nm_eq, nadd, ag _ 65 (show k < 4 from h6) (by omega), ob_s, ag _ 65 (show k ^^^ 2 < 4 from B8) (by omega), ob_s, (h k h6).1, (h k h6).2, (h _ B7).1, (h _ B8).2, nm_eq, rsN_s]
    by_cases q1 : A k < A (k ^^^ 1)
    · rw [if_pos q1, if_pos (Or.inl q1)]
    · rw [if_neg q1]
      by_cases q2 : B k < B (k ^^^ 2)
      · rw [if_pos q2, if_pos (Or.inr q2)]
      · rw [if_neg q2, if_neg (fun z => z.elim q1 q2)]
        rfl
  · rintro self a rfl
    unfold b_X3_pairsThatRest_4
    rw [ifle _ _ (by omega) (by omega), if_pos (by omega)]
theorem S8_rest {A B : Nat → Int32} (h : ∀ k, k < 4 → s 85 k = A k ∧ s 86 k = B k) : lp2_ (b_X8_landlords_63 s) fu (nI 0) (nI 0) = some (rsN A B 4, s) := by
  refine lp2_ax (fun o => o = some (rsN A B 4, s)) (fun k a => a = rsN A B k) 0 4 (by omega) ?_ ?_ (by omega) _ rfl
  · rintro self k a - h6 rfl
    right
    obtain ⟨-, -, -, -, B5, B6, B7, B8⟩ := b1_4 k h6
    refine ⟨_, ?_, rfl⟩
    unfold b_X8_landlords_63
    rw [ifle _ _ (by omega) (by omega), if_neg (by omega), B5, B6, ag _ 85 (show k < 4 from h6) (by omega), ob_s, ag _ 85 (show k ^^^ 1 < 4 from B7) (by omega), ob_s, nm_eq, nm_eq, nadd, ag _ 86 (show k < 4 from h6) (by omega), ob_s, ag _ 86 (show k ^^^ 2 < 4 from B8) (by omega), ob_s, (h k h6).1, (h k h6).2, (h _ B7).1, (h _ B8).2, rsN_s]
    by_cases q1 : A k < A (k ^^^ 1)
    · rw [if_pos q1, if_pos (Or.inl q1)]
      dsimp only
      rw [nm_eq, if_pos (show nI 0 = 0 from rfl)]
      dsimp only
      rw [nm_eq, or0]
    · rw [if_neg q1]
      by_cases q2 : B k < B (k ^^^ 2)
      · rw [if_pos q2, if_pos (Or.inr q2)]
        dsimp only
        rw [nm_eq, if_pos (show nI 0 = 0 from rfl)]
        dsimp only
        rw [nm_eq, or0]
      · rw [if_neg q2, if_neg (fun z => z.elim q1 q2)]
        dsimp only
        rw [nm_eq, if_neg (by decide)]
        dsimp only
        rw [nm_eq]
        rfl
  · rintro self a rfl
    unfold b_X8_landlords_63
    rw [ifle _ _ (by omega) (by omega), if_pos (by omega)]
end LORDS
