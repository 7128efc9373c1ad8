/-! BOTH SIDES: what holds between calls -/
def WID (s : Sg) : Prop := s 53 0 = nI 6 ∧ ∀ t, (t = 13 ∨ t = 25 ∨ t = 37) → s (t + 1) 0 = nI 4 ∧ s (t + 3) 0 = nI 6 ∧ s (t + 5) 0 = nI 3 ∧ s (t + 7) 0 = nI 50
def TXT (s : Sg) : Prop := ∃ len, len ≤ 150 ∧ s 49 2 = nI len ∧ s 70 22 = nI len ∧ ∀ i, i < len → s 50 i = s 88 i ∧ rng (s 88 i) 128
def IMG (s : Sg) : Prop := ∃ b0 b1, b0 ≤ 1 ∧ b1 ≤ 1 ∧ s 0 10 = nI (b0 + 2 * b1) ∧ s 73 0 = nI b0 ∧ s 73 1 = nI b1 ∧ (b0 = 1 → ∃ ns ne nr np, TR s 25 (s 72) ns ne nr np) ∧ (b1 = 1 → ∃ ns ne nr np, TR s 37 (fun k => s 72 (515 + k)) ns ne nr np)
def REL (s : Sg) : Prop := (∃ ns ne nr np, TR s 1 (s 71) ns ne nr np) ∧ (s 0 11 = s 74 0 ∧ s 0 12 = s 74 1 ∧ s 0 13 = s 74 2) ∧ TXT s ∧ IMG s ∧ WID s ∧ NX s
/-- what both sides keep is as it was -/
def RO (s s2 : Sg) : Prop := (∀ c, c < 49 → s2 c = s c) ∧ s2 49 2 = s 49 2 ∧ s2 50 = s 50 ∧ s2 53 0 = s 53 0 ∧ NX s2 ∧ s2 70 22 = s 70 22 ∧ (∀ c, 71 ≤ c → c < 75 → s2 c = s c) ∧ s2 88 = s 88
theorem RO.tr {s s2 s3 : Sg} (h : RO s s2) (h' : RO s2 s3) : RO s s3 := by
  obtain ⟨a1, a2, a3, a4, a5, a6, a7, a8⟩ := h
  obtain ⟨b1, b2, b3, b4, b5, b6, b7, b8⟩ := h'
  exact ⟨fun c hc => (b1 c hc).trans (a1 c hc), b2.trans a2, b3.trans a3, b4.trans a4, b5, b6.trans a6, fun c h1 h2 => (b7 c h1 h2).trans (a7 c h1 h2), b8.trans a8⟩
theorem REL.ro {s s2 : Sg} (h : REL s) (hr : RO s s2) : REL s2 := by
  obtain ⟨⟨ns, ne, nr, np, hT⟩, hS, ⟨len, l1, l2, l3, l4⟩, ⟨b0, b1, i1, i2, i3, i4, i5, i6, i7⟩, ⟨w1, w2⟩, hN⟩ := h
  obtain ⟨a1, a2, a3, a4, a5, a6, a7, a8⟩ := hr
  have e71 := a7 71 (by decide) (by decide)
  have e72 := a7 72 (by decide) (by decide)
  have e73 := a7 73 (by decide) (by decide)
  have e74 := a7 74 (by decide) (by decide)
  have e0 := a1 0 (by decide)
  refine ⟨⟨ns, ne, nr, np, ?_⟩, ?_, ⟨len, l1, ?_, ?_, ?_⟩, ⟨b0, b1, i1, i2, ?_, ?_, ?_, ?_, ?_⟩, ⟨?_, ?_⟩, a5⟩
  · rw [e71]; exact hT.fr (fun c h1 h2 => a1 c (by omega))
  · rw [e0, e74]; exact hS
  · rw [a2]; exact l2
  · rw [a6]; exact l3
  · rw [a3, a8]; exact l4
  · rw [e0]; exact i3
  · rw [e73]; exact i4
  · rw [e73]; exact i5
  · intro z
    obtain ⟨x1, x2, x3, x4, h5⟩ := i6 z
    exact ⟨x1, x2, x3, x4, by rw [e72]; exact h5.fr (fun c h1 h2 => a1 c (by omega))⟩
  · intro z
    obtain ⟨x1, x2, x3, x4, h5⟩ := i7 z
    exact ⟨x1, x2, x3, x4, by rw [e72]; exact h5.fr (fun c h1 h2 => a1 c (by omega))⟩
  · rw [a4]; exact w1
  · intro t ht
    have h5 := w2 t ht
    rw [a1 (t + 1) (by omega), a1 (t + 3) (by omega), a1 (t + 5) (by omega), a1 (t + 7) (by omega)]
    exact h5
theorem SC.ro {s s2 : Sg} (h : SC s s2) (hw : s 53 0 = nI 6) : RO s s2 :=
  ⟨fun c hc => h.1 c (by omega), by rw [h.1 49 (by decide)], h.1 50 (by decide), h.2.1.trans hw.symm, h.2.2, by rw [h.1 70 (by decide)], fun c h1 h2 => h.1 c (by omega), h.1 88 (by decide)⟩
/-- the reference's own: the rest stays -/
def R8 (s s2 : Sg) : Prop := (∀ c, c < 75 → c ≠ 70 → s2 c = s c) ∧ s2 70 22 = s 70 22 ∧ s2 88 = s 88
theorem R8.rf (s : Sg) : R8 s s := ⟨fun _ _ _ => rfl, rfl, rfl⟩
theorem R8.tr {s s2 s3 : Sg} (h : R8 s s2) (h' : R8 s2 s3) : R8 s s3 := ⟨fun c a b => (h'.1 c a b).trans (h.1 c a b), h'.2.1.trans h.2.1, h'.2.2.trans h.2.2⟩
theorem R8.ro {s s2 : Sg} (h : R8 s s2) (hn : NX s) : RO s s2 := by
  obtain ⟨b, hb, hb2⟩ := hn
  exact ⟨fun c hc => h.1 c (by omega) (by omega), by rw [h.1 49 (by decide) (by decide)], h.1 50 (by decide) (by decide), by rw [h.1 53 (by decide) (by decide)], ⟨b, hb, by rw [h.1 52 (by decide) (by decide)]; exact hb2⟩, h.2.1, fun c h1 h2 => h.1 c (by omega) (by omega), h.2.2⟩
theorem RG.r8 {s s2 : Sg} (h : RG s s2) : R8 s s2 :=
  ⟨fun c h1 h2 => h c (by omega) (by omega) (by omega) (by omega) (by omega) (by omega) (by omega), by rw [h 70 (by decide) (by decide) (by decide) (by decide) (by decide) (by decide) (by decide)], h 88 (by decide) (by decide) (by decide) (by decide) (by decide) (by decide) (by decide)⟩
theorem R8.st (s : Sg) {k : Nat} (v : Int32) (hk : k ≠ 22) : R8 s (sts s 70 k v) := ⟨fun c _ h2 => sts_n _ _ _ h2, sts_j _ _ _ (fun z => hk z.symm), sts_n _ _ _ (by decide)⟩
theorem R8.hi (s : Sg) {c : Nat} (k : Nat) (v : Int32) (h1 : 75 ≤ c) (h2 : c ≠ 88) : R8 s (sts s c k v) := ⟨fun d h _ => sts_n _ _ _ (by omega), by rw [sts_n _ _ _ (by omega)], sts_n _ _ _ (fun z => h2 z.symm)⟩
def OKop (a : Option (Int32 × Sg)) (b : Sg → Option (Int32 × Sg)) : Prop := ∃ r s1 s2, a = some (r, s1) ∧ b s1 = some (r, s2) ∧ REL s2
theorem ob2_eta {α β : Type} (x : Option (α × β)) : ob2 x (fun v s => some (v, s)) = x := by
  cases x with
  | none => rfl
  | some q => rfl
theorem OK_ro {s : Sg} (h : REL s) {a : Option (Int32 × Sg)} {b : Sg → Option (Int32 × Sg)} (r : Int32) (ha : ∃ s1, a = some (r, s1) ∧ RO s s1) (hb : ∀ s1, RO s s1 → ∃ s2, b s1 = some (r, s2) ∧ RO s1 s2) : OKop a b := by
  obtain ⟨s1, e1, e2⟩ := ha
  obtain ⟨s2, e3, e4⟩ := hb s1 e2
  exact ⟨r, s1, s2, e1, e3, (h.ro e2).ro e4⟩
theorem S8_bad (x : Int32) (s : Sg) : f_X8_bad x s = some (x, sts s 74 0 (s 74 0 + nI 1)) := by
  unfold f_X8_bad
  rw [ag _ 74 (by decide) (by decide), ob_s, as _ 74 _ (by decide), ob_s]
theorem S8_no (s : Sg) : f_X8_no s = some (-3, sts s 74 1 (s 74 1 + nI 1)) := by
  unfold f_X8_no
  rw [ag _ 74 (by decide) (by decide), ob_s, as _ 74 _ (by decide), ob_s]
theorem S8_full (s : Sg) : f_X8_full s = some (-4, sts s 74 2 (s 74 2 + nI 1)) := by
  unfold f_X8_full
  rw [ag _ 74 (by decide) (by decide), ob_s, as _ 74 _ (by decide), ob_s]
/-- a refusal counted on both sides -/
theorem REL.ref {s : Sg} (h : REL s) {k : Nat} (hk : k < 3) : REL (sts (sts s 0 (11 + k) (s 0 (11 + k) + nI 1)) 74 k (s 74 k + nI 1)) := by
  obtain ⟨⟨ns, ne, nr, np, hT⟩, hS, ⟨len, l1, l2, l3, l4⟩, ⟨b0, b1, i1, i2, i3, i4, i5, i6, i7⟩, ⟨w1, w2⟩, ⟨nb, n1, n2⟩⟩ := h
  have e : ∀ c, c ≠ 0 → c ≠ 74 → sts (sts s 0 (11 + k) (s 0 (11 + k) + nI 1)) 74 k (s 74 k + nI 1) c = s c := fun c h1 h2 => by rw [sts_n _ _ _ h2, sts_n _ _ _ h1]
  refine ⟨⟨ns, ne, nr, np, ?_⟩, ?_, ⟨len, l1, ?_, ?_, ?_⟩, ⟨b0, b1, i1, i2, ?_, ?_, ?_, ?_, ?_⟩, ⟨?_, ?_⟩, ⟨nb, n1, ?_⟩⟩
  · rw [e 71 (by decide) (by decide)]; exact hT.fr (fun c h1 h2 => e c (by omega) (by omega))
  · rw [sts_n _ _ _ (show 0 ≠ 74 by decide)]
    match k, hk with
    | 0, _ => exact ⟨by rw [sts_s, sts_s, hS.1], by rw [sts_j _ _ _ (by decide), sts_j _ _ _ (by decide), sts_n _ _ _ (by decide)]; exact hS.2.1, by rw [sts_j _ _ _ (by decide), sts_j _ _ _ (by decide), sts_n _ _ _ (by decide)]; exact hS.2.2⟩
    | 1, _ => exact ⟨by rw [sts_j _ _ _ (by decide), sts_j _ _ _ (by decide), sts_n _ _ _ (by decide)]; exact hS.1, by rw [sts_s, sts_s, hS.2.1], by rw [sts_j _ _ _ (by decide), sts_j _ _ _ (by decide), sts_n _ _ _ (by decide)]; exact hS.2.2⟩
    | 2, _ => exact ⟨by rw [sts_j _ _ _ (by decide), sts_j _ _ _ (by decide), sts_n _ _ _ (by decide)]; exact hS.1, by rw [sts_j _ _ _ (by decide), sts_j _ _ _ (by decide), sts_n _ _ _ (by decide)]; exact hS.2.1, by rw [sts_s, sts_s, hS.2.2]⟩
  · rw [e 49 (by decide) (by decide)]; exact l2
  · rw [e 70 (by decide) (by decide)]; exact l3
  · rw [e 50 (by decide) (by decide), e 88 (by decide) (by decide)]; exact l4
  · rw [sts_n _ _ _ (by decide), sts_j _ _ _ (by omega)]; exact i3
  · rw [e 73 (by decide) (by decide)]; exact i4
  · rw [e 73 (by decide) (by decide)]; exact i5
  · intro z
    obtain ⟨x1, x2, x3, x4, h5⟩ := i6 z
    exact ⟨x1, x2, x3, x4, by rw [e 72 (by decide) (by decide)]; exact h5.fr (fun c h1 h2 => e c (by omega) (by omega))⟩
  · intro z
    obtain ⟨x1, x2, x3, x4, h5⟩ := i7 z
    exact ⟨x1, x2, x3, x4, by rw [e 72 (by decide) (by decide)]; exact h5.fr (fun c h1 h2 => e c (by omega) (by omega))⟩
  · rw [e 53 (by decide) (by decide)]; exact w1
  · intro t ht
    have h5 := w2 t ht
    rw [e (t + 1) (by omega) (by omega), e (t + 3) (by omega) (by omega), e (t + 5) (by omega) (by omega), e (t + 7) (by omega) (by omega)]
    exact h5
  · rw [e 52 (by decide) (by decide)]; exact n2
theorem S7_bad (s : Sg) : f_X7_refuseBad s = some (-2, sts s 0 11 (s 0 11 + nI 1)) := rfl
theorem S7_no (s : Sg) : f_X7_refuseNo s = some (-3, sts s 0 12 (s 0 12 + nI 1)) := rfl
theorem S7_full (s : Sg) : f_X7_refuseFull s = some (-4, sts s 0 13 (s 0 13 + nI 1)) := rfl
theorem OK_ref {s : Sg} (h : REL s) {a : Option (Int32 × Sg)} {b : Sg → Option (Int32 × Sg)} (k : Nat) (hk : k < 3) (r : Int32) (ha : a = some (r, sts s 0 (11 + k) (s 0 (11 + k) + nI 1))) (hb : ∀ s1, (∀ c, c ≠ 0 → s1 c = s c) → b s1 = some (r, sts s1 74 k (s1 74 k + nI 1))) : OKop a b := by
  refine ⟨r, _, _, ha, hb _ (fun c hc => sts_n _ _ _ hc), ?_⟩
  rw [sts_n _ _ _ (show 74 ≠ 0 by decide)]
  exact h.ref hk
/-- BAD on both sides -/
theorem OK_bad {s : Sg} (h : REL s) {a : Option (Int32 × Sg)} {b : Sg → Option (Int32 × Sg)} (r : Int32) (ha : a = some (r, sts s 0 11 (s 0 11 + nI 1))) (hb : ∀ s1, (∀ c, c ≠ 0 → s1 c = s c) → b s1 = f_X8_bad r s1) : OKop a b :=
  OK_ref h 0 (by decide) r ha (fun s1 h1 => by rw [hb s1 h1, S8_bad])
/-! the names of a town, on both sides -/
noncomputable def NM (N : Nat → Int32) (ns ne H i : Nat) : Int32 := nmV (foldA (N 2) ns (bkT (evL N ns ne) (H + 1)) (V0 N)) i
section SIDES
variable {s : Sg} {N : Nat → Int32} {t ns ne nr np : Nat}
theorem VN.hrs (hV : VN N ns ne nr np) : ∀ k, k < ne → rng (N (33 + 6 * k + 2)) 24 := fun k hk => (hV.2.2.2.2.1 k hk).2.2.1
theorem nmA_NM (hV : VN N ns ne nr np) {H : Nat} (hH : H < 24) (i : Nat) : nmA N ns (plL N ns ne) H i = NM N ns ne H i := by
  unfold nmA NM
  rw [plL_bk N ns ne hV.hrs, take_bk _ hH]
def NMW (s : Sg) (N : Nat → Int32) (ns ne : Nat) : Prop := s 52 7 = nI ns ∧ ∀ H i, H < 24 → i < ns → s 62 (7 * H + i) = NM N ns ne H i
theorem S_write2 (h : TR s t N ns ne nr np) (hT : isT t) (hw : s 53 0 = nI 6) (hx : NX s) : ∃ s2, f_X1_write t s = some s2 ∧ NMW s2 N ns ne ∧ SC s s2 := by
  obtain ⟨s2, e1, e2, e3⟩ := S_write h hT hw hx
  exact ⟨s2, e1, ⟨e2.1, fun H i hH hi => (e2.2 H i hH hi).trans (nmA_NM h.1 hH i)⟩, e3⟩
theorem S_at (h : NMW s N ns ne) (hns : ns ≤ 7) {i H : Nat} (hi : i < ns) (hH : H < 24) : f_X1_at (nI i) (nI H) s = some (NM N ns ne H i) := by
  unfold f_X1_at
  rw [S_isBelow, ob_s, bi_B (by omega) (by decide), if_bi, if_pos (by omega), S_isHour, ob_s, bi_B (by omega) (by decide), if_bi, if_pos hH, nmul, nadd, ag _ 62 (show H * 7 + i < 168 by omega) (by omega), ob_s, show H * 7 + i = 7 * H + i by omega, h.2 H i hH hi]
noncomputable def eqB (N : Nat → Int32) (ns ne H : Nat) (x : Int32) : Nat → Bool := fun i => decide (NM N ns ne H i = x)
theorem S_having (h : NMW s N ns ne) (hns : ns ≤ 7) (x : Int32) {H : Nat} (hH : H < 24) : f_X1_having x (nI H) s = some (nI (mkN (eqB N ns ne H x) ns)) := by
  rw [← orB _ ns (by omega)]
  refine lp2_po (fun o => o = some (forN (fun i b => b ||| (if eqB N ns ne H x i = true then sh1 i else nI 0)) ns (nI 0))) (fun d a j => ∃ i, i + d = ns ∧ j = nI i ∧ a = forN (fun i b => b ||| (if eqB N ns ne H x i = true then sh1 i else nI 0)) i (nI 0)) ?_ fu ns _ _ (fu_ge (by omega)) ⟨0, by omega, rfl, rfl⟩
  rintro self d a j ⟨i, e1, rfl, rfl⟩
  unfold b_X1_having_5 f_X0_streets
  rw [ob_s, h.1, ifle _ _ (by omega) (by omega)]
  by_cases hd : ns ≤ i
  · left
    rw [if_pos hd, show i = ns by omega]
  · right
    rw [if_neg hd, S_at h hns (by omega) hH, ob_s, nm_eq]
    refine ⟨d - 1, _, nI (i + 1), by omega, ?_, i + 1, by omega, rfl, rfl⟩
    rw [forN_s]
    unfold eqB
    by_cases q : NM N ns ne H i = x
    · rw [if_pos q, if_pos (decide_eq_true q), nm_eq]
      dsimp only
      rw [nadd]
      rfl
    · rw [if_neg q, if_neg (by rw [decide_eq_false q]; decide), or0]
      dsimp only
      rw [nadd]
/-- the first of some -/
def fst (p : Nat → Bool) (n : Nat) : Int32 := forN (fun k r => if p (n - 1 - k) = true then nI (n - 1 - k) else r) n (-1)
theorem fst_gen (p : Nat → Bool) : ∀ n m : Nat, (∀ k, k < m → p k = false) → m ≤ n → (m < n → p m = true → forN (fun k r => if p (n - 1 - k) = true then nI (n - 1 - k) else r) (n - m) (-1) = nI m) := by
  intro n m _ hm hmn hp
  rw [show n - m = (n - m - 1) + 1 by omega, forN_s, show n - 1 - (n - m - 1) = m by omega, if_pos hp]
theorem fst_skip (p : Nat → Bool) (n m : Nat) (hm : m < n) (hp : p m = false) : forN (fun k r => if p (n - 1 - k) = true then nI (n - 1 - k) else r) (n - m) (-1) = forN (fun k r => if p (n - 1 - k) = true then nI (n - 1 - k) else r) (n - (m + 1)) (-1) := by
  rw [show n - m = (n - (m + 1)) + 1 by omega, forN_s, show n - 1 - (n - (m + 1)) = m by omega, if_neg (by rw [hp]; decide)]
theorem S_firstHaving (h : NMW s N ns ne) (hns : ns ≤ 7) (x : Int32) {H : Nat} (hH : H < 24) : f_X1_firstHaving x (nI H) s = some (fst (eqB N ns ne H x) ns) := by
  refine lp1_po (fun o => o = some (fst (eqB N ns ne H x) ns)) (fun d j => ∃ i, i + d = ns ∧ j = nI i ∧ fst (eqB N ns ne H x) ns = forN (fun k r => if eqB N ns ne H x (ns - 1 - k) = true then nI (ns - 1 - k) else r) (ns - i) (-1)) ?_ fu ns _ (fu_ge (by omega)) ⟨0, by omega, rfl, rfl⟩
  rintro self d j ⟨i, e1, rfl, e2⟩
  unfold b_X1_firstHaving_2 f_X0_streets
  rw [ob_s, h.1, ifle _ _ (by omega) (by omega)]
  by_cases hd : ns ≤ i
  · left
    rw [if_pos hd, e2, show ns - i = 0 by omega]
    rfl
  · rw [if_neg hd, S_at h hns (by omega) hH, ob_s]
    by_cases q : NM N ns ne H i = x
    · left
      rw [if_pos q, e2, show ns - i = (ns - i - 1) + 1 by omega, forN_s, show ns - 1 - (ns - i - 1) = i by omega, if_pos (show eqB N ns ne H x i = true from decide_eq_true q)]
    · right
      rw [if_neg q, nadd]
      refine ⟨d - 1, nI (i + 1), by omega, rfl, i + 1, by omega, rfl, ?_⟩
      rw [e2, fst_skip _ _ _ (by omega) (show eqB N ns ne H x i = false from decide_eq_false q)]
/-! the reference's names -/
theorem all1 : ∀ ne, ne ≤ 8 → ∀ k, k < ne → hb (nI (2 ^ ne) - nI 1) k = true := by decide +kernel
theorem shlN : ∀ n, n < 31 → nI 1 <<< (nI n &&& 31) = nI (2 ^ n) := by decide +kernel
theorem S8_allEvents (h : s 71 = N) (hV : VN N ns ne nr np) : f_X8_allEvents s = some (nI (2 ^ ne) - nI 1) := by
  unfold f_X8_allEvents
  rw [S8_events h hV, ob_s, shlN ne (by have := hV.2.1.2.1; omega)]
def NM8 (s : Sg) (N : Nat → Int32) (ns ne : Nat) : Prop := s 71 = N ∧ ∀ H i, H < 24 → i < ns → f_X8_nameIn (nI i) (nI H) s = some (NM N ns ne H i)
theorem SGd.no (s : Sg) (ns : Nat) (h : s 70 11 = nI 0) : SGd s [] ns := ⟨h, Nat.zero_le _, fun k q hq => by simp at hq⟩
theorem S8_runAll (h : s 71 = N) (hV : VN N ns ne nr np) : ∃ s2, f_X8_runAll s = some s2 ∧ R8 s s2 ∧ NM8 s2 N ns ne ∧
    (∀ H i, H < 24 → i < ns → s2 75 (7 * H + i) = (trk (N 2) i (bkT (evL N ns ne) (H + 1)) (N (5 + 4 * i + 3))).1) ∧ ∀ i, i < ns → s2 81 i = nI (cnt1 (N 2) i (bkT (evL N ns ne) 24) (beg N i)) := by
  have hns := hV.2.1.1
  have hne := hV.2.1.2.1
  unfold f_X8_runAll
  rw [nm_eq, S8_allEvents (s := sts s 70 11 (nI 0)) (by rw [sts_n _ _ _ (by decide)]; exact h) hV, ob_s]
  obtain ⟨s2, e1, e2, e3, e4⟩ := S8_run (s := sts s 70 11 (nI 0)) (by rw [sts_n _ _ _ (by decide)]; exact h) hV (SGd.no _ ns (sts_s _ _ _ _)) (nI (2 ^ ne) - nI 1)
  rw [e1, ob_s]
  have hL : ∀ H, allH N ns ne (nI (2 ^ ne) - nI 1) [] H = bkT (evL N ns ne) H := by
    intro H
    rw [allH_bk, evS_all N ns _ ne (all1 ne hne)]
    show bkT (evL N ns ne ++ []) H = _
    rw [List.append_nil]
  refine ⟨s2, rfl, (R8.st s _ (by decide)).tr e2.r8, ⟨(e2.n (by rw [sts_n _ _ _ (by decide)]; exact h)), fun H i hH hi => ?_⟩, fun H i hH hi => ?_, fun i hi => ?_⟩
  · obtain ⟨a1, a2⟩ := e4 H i hH hi
    unfold f_X8_nameIn
    rw [nmul, nadd, ag _ 76 (show 7 * H + i < 168 by omega) (by omega), ob_s, ag _ 75 (show 7 * H + i < 168 by omega) (by omega), ob_s, a1, a2, hL, foldB_1]
    rfl
  · have a1 := (e4 H i hH hi).1
    have a2 := (foldB_i (N 2) ns hi (bkT (evL N ns ne) (H + 1)) (V0B N)).1
    rw [a1, hL]
    show (tr3 (foldB (N 2) ns (bkT (evL N ns ne) (H + 1)) (V0B N)).1 i).1 = _
    rw [a2]
    rfl
  · have a1 := e3.2 i hi
    have a2 := (foldB_i (N 2) ns hi (bkT (evL N ns ne) 24) (V0B N)).2
    rw [show s2 81 i = (vecR s2).2 i from rfl, a1, hL, a2]
    show nI 0 + nI _ = nI _
    rw [nadd, Nat.zero_add]
    rfl
theorem S8_whichIn (h : NM8 s N ns ne) (hV : VN N ns ne nr np) (x : Int32) {H : Nat} (hH : H < 24) : f_X8_whichIn x (nI H) s = some (nI (mkN (eqB N ns ne H x) ns)) := by
  have hns := hV.2.1.1
  rw [← orB _ ns (by omega)]
  refine lp2_po (fun o => o = some (forN (fun i b => b ||| (if eqB N ns ne H x i = true then sh1 i else nI 0)) ns (nI 0))) (fun d a j => ∃ i, i + d = ns ∧ j = nI i ∧ a = forN (fun i b => b ||| (if eqB N ns ne H x i = true then sh1 i else nI 0)) i (nI 0)) ?_ fu ns _ _ (fu_ge (by omega)) ⟨0, by omega, rfl, rfl⟩
  rintro self d a j ⟨i, e1, rfl, rfl⟩
  unfold b_X8_whichIn_5
  rw [S8_streets h.1 hV, ob_s, ifle _ _ (by omega) (by omega)]
  by_cases hd : ns ≤ i
  · left
    rw [if_pos hd, show i = ns by omega]
  · right
    rw [if_neg hd, h.2 H i hH (by omega), ob_s, nm_eq]
    refine ⟨d - 1, _, nI (i + 1), by omega, ?_, i + 1, by omega, rfl, rfl⟩
    rw [forN_s]
    unfold eqB
    by_cases q : NM N ns ne H i = x
    · rw [if_pos q, if_pos (decide_eq_true q)]
      dsimp only
      rw [nm_eq, nadd]
      rfl
    · rw [if_neg q, if_neg (by rw [decide_eq_false q]; decide)]
      dsimp only
      rw [nm_eq, nadd]
theorem first_all : ∀ m, m < 128 → f_X8_first (nI m) (fun _ _ => 0) = some (fst (fun i => m.testBit i) 7) := by decide +kernel
end SIDES
