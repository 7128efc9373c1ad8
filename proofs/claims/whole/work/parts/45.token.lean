/-! READ: the words of a text -/
def skp (f : Nat → Bool) (len : Nat) : Nat → Nat → Nat
  | 0, p => p
  | n + 1, p => if p < len ∧ f p = true then skp f len n (p + 1) else p
/-- the first place from p on, where f ends -/
def scn (f : Nat → Bool) (len p : Nat) : Nat := skp f len (len - p) p
theorem scn_s {f : Nat → Bool} {len p : Nat} (h : p < len) (hf : f p = true) : scn f len p = scn f len (p + 1) := by
  unfold scn
  rw [show len - p = (len - (p + 1)) + 1 by omega]
  exact if_pos ⟨h, hf⟩
theorem scn_e {f : Nat → Bool} {len p : Nat} (h : ¬ (p < len ∧ f p = true)) : scn f len p = p := by
  unfold scn
  cases len - p with
  | zero => rfl
  | succ n => exact if_neg h
theorem scn_b {f : Nat → Bool} {len : Nat} : ∀ n p, len - p = n → p ≤ len → p ≤ scn f len p ∧ scn f len p ≤ len ∧ ∀ i, p ≤ i → i < scn f len p → f i = true
  | 0, p, h, hp => by
    rw [scn_e (by omega)]
    exact ⟨Nat.le_refl _, hp, fun i h1 h2 => absurd h2 (by omega)⟩
  | n + 1, p, h, hp => by
    by_cases g : p < len ∧ f p = true
    · rw [scn_s g.1 g.2]
      obtain ⟨a, b, c⟩ := scn_b (f := f) (len := len) n (p + 1) (by omega) (by omega)
      refine ⟨by omega, b, fun i h1 h2 => ?_⟩
      by_cases e : i = p
      · subst e; exact g.2
      · exact c i (by omega) h2
    · rw [scn_e g]
      exact ⟨Nat.le_refl _, hp, fun i h1 h2 => absurd h2 (by omega)⟩
theorem scn_le {f : Nat → Bool} {len p : Nat} (hp : p ≤ len) : p ≤ scn f len p ∧ scn f len p ≤ len := ⟨(scn_b _ p rfl hp).1, (scn_b _ p rfl hp).2.1⟩
section TOKEN
variable (T : Nat → Nat) (len : Nat)
def spB : Nat → Bool := fun i => decide (T i = 32)
def ltB : Nat → Bool := fun i => decide (97 ≤ T i ∧ T i ≤ 122)
def fgB : Nat → Bool := fun i => decide (48 ≤ T i ∧ T i ≤ 57)
/-- a word's start, end and kind: 0 none, 1 letters, 2 figures, 3 a semicolon, 4 another -/
def tS (p : Nat) : Nat := scn (spB T) len p
def tE (p : Nat) : Nat := if len ≤ tS T len p then tS T len p else if ltB T (tS T len p) = true then scn (ltB T) len (tS T len p) else if fgB T (tS T len p) = true then scn (fgB T) len (tS T len p) else tS T len p + 1
def tK (p : Nat) : Nat := if len ≤ tS T len p then 0 else if ltB T (tS T len p) = true then 1 else if fgB T (tS T len p) = true then (if scn (fgB T) len (tS T len p) - tS T len p ≤ 2 then 2 else 4) else if T (tS T len p) = 59 then 3 else 4
/-- the value of figures -/
def dgV (a n : Nat) : Int32 := forN (fun i v => nI 10 * v + nI (T (a + i)) - nI 48) n (nI 0)
def tV (p : Nat) : Int32 := dgV T (tS T len p) (tE T len p - tS T len p)
end TOKEN
section TOKEN2
variable {T : Nat → Nat} {len p : Nat}
theorem tS_le (hp : p ≤ len) : p ≤ tS T len p ∧ tS T len p ≤ len := scn_le hp
theorem tE_le (hp : p ≤ len) : tS T len p ≤ tE T len p ∧ tE T len p ≤ len := by
  obtain ⟨a, b⟩ := tS_le (T := T) hp
  unfold tE
  by_cases h1 : len ≤ tS T len p
  · rw [if_pos h1]; omega
  rw [if_neg h1]
  by_cases h2 : ltB T (tS T len p) = true
  · rw [if_pos h2]; exact scn_le b
  rw [if_neg h2]
  by_cases h3 : fgB T (tS T len p) = true
  · rw [if_pos h3]; exact scn_le b
  rw [if_neg h3]
  omega
theorem scn_gt {f : Nat → Bool} {a : Nat} (h : a < len) (hf : f a = true) : a < scn f len a := by
  rw [scn_s h hf]
  have := (scn_le (f := f) (len := len) (p := a + 1) (by omega)).1
  omega
theorem tE_gt (hp : p ≤ len) (hk : tK T len p ≠ 0) : p < tE T len p := by
  obtain ⟨a, b⟩ := tS_le (T := T) hp
  by_cases h1 : len ≤ tS T len p
  · unfold tK at hk
    rw [if_pos h1] at hk
    exact absurd rfl hk
  · unfold tE
    rw [if_neg h1]
    by_cases h2 : ltB T (tS T len p) = true
    · rw [if_pos h2]
      have := scn_gt (len := len) (by omega) h2
      omega
    rw [if_neg h2]
    by_cases h3 : fgB T (tS T len p) = true
    · rw [if_pos h3]
      have := scn_gt (len := len) (by omega) h3
      omega
    rw [if_neg h3]
    omega
theorem tK_lt : tK T len p < 5 := by
  unfold tK
  repeat' split
  all_goals omega
theorem fg_not_lt {i : Nat} (h : fgB T i = true) : ¬ ltB T i = true := by
  intro h2
  have a := of_decide_eq_true h
  have b := of_decide_eq_true h2
  omega
end TOKEN2
/-! the class's words -/
section CLASSTOK
variable {s : Sg} {T : Nat → Nat} {len p : Nat}
def TX (s : Sg) (T : Nat → Nat) (len : Nat) : Prop := len ≤ 150 ∧ s 49 2 = nI len ∧ ∀ i, i < len → s 50 i = nI (T i) ∧ T i < 128
def K4 (s s2 : Sg) : Prop := (∀ c, c ≠ 49 → s2 c = s c) ∧ s2 49 2 = s 49 2
theorem K4.rf (s : Sg) : K4 s s := ⟨fun _ _ => rfl, rfl⟩
theorem K4.tr {s s2 s3 : Sg} (h : K4 s s2) (h' : K4 s2 s3) : K4 s s3 := ⟨fun c hc => (h'.1 c hc).trans (h.1 c hc), h'.2.trans h.2⟩
theorem K4.st (s : Sg) {k : Nat} (v : Int32) (hk : k ≠ 2) : K4 s (sts s 49 k v) := ⟨fun c hc => sts_n _ _ _ hc, sts_j _ _ _ (fun z => hk z.symm)⟩
theorem TX.k {s2 : Sg} (h : TX s T len) (hk : K4 s s2) : TX s2 T len := ⟨h.1, hk.2.trans h.2.1, fun i hi => by rw [hk.1 50 (by decide)]; exact h.2.2 i hi⟩
theorem S_byte (h : TX s T len) (hp : p < len) : f_X4_byteAt (nI p) s = some (nI (T p)) := by
  have := h.1
  unfold f_X4_byteAt
  rw [h.2.1, S_isBelow, ob_s, bi_B (by omega) (by omega), if_bi, if_pos hp, ag _ 50 (show p < 150 by omega) (by omega), ob_s, (h.2.2 p hp).1]
theorem S_byteN (h : TX s T len) (hp : len ≤ p) (hp2 : p < 2147483648) : f_X4_byteAt (nI p) s = some (-1) := by
  have := h.1
  unfold f_X4_byteAt
  rw [h.2.1, S_isBelow, ob_s, bi_B (by omega) (by omega), if_bi, if_neg (by omega)]
theorem bi_e {P Q : Prop} [Decidable P] [Decidable Q] (h : P ↔ Q) : bi P = bi Q := by
  unfold bi
  by_cases g : P
  · rw [if_pos g, if_pos (h.mp g)]
  · rw [if_neg g, if_neg (fun z => g (h.mpr z))]
theorem S_isLetter (h : TX s T len) (hp2 : p < 2147483648) : f_X4_isLetter (nI p) s = some (bi (p < len ∧ ltB T p = true)) := by
  unfold f_X4_isLetter
  by_cases hp : p < len
  · have := (h.2.2 p hp).2
    rw [S_byte h hp, ob_s, ob_s, ifl _ _ (by omega) (by decide), ifl _ _ (by decide) (by omega)]
    by_cases g : T p < 97
    · rw [if_pos g, bi_f (fun z => by have := of_decide_eq_true z.2; omega)]
    · rw [if_neg g]
      by_cases g2 : 122 < T p
      · rw [if_pos g2, bi_f (fun z => by have := of_decide_eq_true z.2; omega)]
      · rw [if_neg g2, bi_t ⟨hp, decide_eq_true (by omega)⟩]
  · rw [S_byteN h (by omega) hp2, ob_s, if_pos (by decide), bi_f (fun z => hp z.1)]
theorem S_isFigure (h : TX s T len) (hp2 : p < 2147483648) : f_X4_isFigure (nI p) s = some (bi (p < len ∧ fgB T p = true)) := by
  unfold f_X4_isFigure
  by_cases hp : p < len
  · have := (h.2.2 p hp).2
    rw [S_byte h hp, ob_s, ob_s, ifl _ _ (by omega) (by decide), ifl _ _ (by decide) (by omega)]
    by_cases g : T p < 48
    · rw [if_pos g, bi_f (fun z => by have := of_decide_eq_true z.2; omega)]
    · rw [if_neg g]
      by_cases g2 : 57 < T p
      · rw [if_pos g2, bi_f (fun z => by have := of_decide_eq_true z.2; omega)]
      · rw [if_neg g2, bi_t ⟨hp, decide_eq_true (by omega)⟩]
  · rw [S_byteN h (by omega) hp2, ob_s, if_pos (by decide), bi_f (fun z => hp z.1)]
theorem S_skip (h : TX s T len) (hp : p ≤ len) (h3 : s 49 3 = nI p) (j : Sg → Option Sg) : ∃ s2, lp1_ (b_X4_findToken_0 j) fu s = j s2 ∧ K4 s s2 ∧ s2 49 3 = nI (tS T len p) := by
  refine lp1_po (fun o => ∃ s2, o = j s2 ∧ K4 s s2 ∧ s2 49 3 = nI (tS T len p)) (fun d (st : Sg) => ∃ q, q + d = len ∧ K4 s st ∧ st 49 3 = nI q ∧ tS T len p = scn (spB T) len q) ?_ fu (len - p) s (fu_ge (by have := h.1; omega)) ⟨p, by omega, K4.rf s, h3, rfl⟩
  rintro self d st ⟨q, e1, e2, e3, e4⟩
  have hx := h.k e2
  have hl := h.1
  unfold b_X4_findToken_0
  rw [hx.2.1, e3, ifle _ _ (by omega) (by omega)]
  by_cases g : len ≤ q
  · left
    rw [if_pos g]
    exact ⟨st, rfl, e2, by rw [e3, e4, scn_e (by omega)]⟩
  · rw [if_neg g, S_byte hx (by omega), ob_s, ife _ _ (by have := (h.2.2 q (by omega)).2; omega) (by decide)]
    by_cases g2 : T q = 32
    · right
      rw [if_pos g2, nm_eq, nadd]
      exact ⟨d - 1, _, by omega, rfl, q + 1, by omega, e2.tr (K4.st _ _ (by decide)), sts_s _ _ _ _, by rw [e4, scn_s (by omega) (decide_eq_true g2)]⟩
    · left
      rw [if_neg g2]
      exact ⟨st, rfl, e2, by rw [e3, e4, scn_e (fun z => g2 (of_decide_eq_true z.2))]⟩
theorem S_letters (h : TX s T len) (hp : p ≤ len) (h3 : s 49 3 = nI p) : ∃ s2, lp1_ b_X4_findToken_56 fu s = some s2 ∧ K4 s s2 ∧ s2 49 3 = nI (scn (ltB T) len p) ∧ s2 49 4 = nI 1 ∧ s2 49 5 = s 49 5 := by
  refine lp1_po (fun o => ∃ s2, o = some s2 ∧ K4 s s2 ∧ s2 49 3 = nI (scn (ltB T) len p) ∧ s2 49 4 = nI 1 ∧ s2 49 5 = s 49 5) (fun d (st : Sg) => ∃ q, q + d = len ∧ K4 s st ∧ st 49 3 = nI q ∧ st 49 5 = s 49 5 ∧ scn (ltB T) len p = scn (ltB T) len q) ?_ fu (len - p) s (fu_ge (by have := h.1; omega)) ⟨p, by omega, K4.rf s, h3, rfl, rfl⟩
  rintro self d st ⟨q, e1, e2, e3, e5, e4⟩
  have hx := h.k e2
  have hl := h.1
  unfold b_X4_findToken_56
  rw [hx.2.1, e3, ifle _ _ (by omega) (by omega)]
  by_cases g : len ≤ q
  · left
    rw [if_pos g, nm_eq]
    exact ⟨_, rfl, e2.tr (K4.st _ _ (by decide)), by rw [sts_j _ _ _ (by decide), e3, e4, scn_e (by omega)], sts_s _ _ _ _, by rw [sts_j _ _ _ (by decide), e5]⟩
  · rw [if_neg g, S_isLetter hx (by omega), ob_s]
    by_cases g2 : q < len ∧ ltB T q = true
    · right
      rw [if_bi' _ _ g2, nm_eq, nadd]
      exact ⟨d - 1, _, by omega, rfl, q + 1, by omega, e2.tr (K4.st _ _ (by decide)), sts_s _ _ _ _, by rw [sts_j _ _ _ (by decide), e5], by rw [e4, scn_s g2.1 g2.2]⟩
    · left
      rw [if_bi0 _ _ g2, nm_eq]
      exact ⟨_, rfl, e2.tr (K4.st _ _ (by decide)), by rw [sts_j _ _ _ (by decide), e3, e4, scn_e g2], sts_s _ _ _ _, by rw [sts_j _ _ _ (by decide), e5]⟩
theorem S_figures (h : TX s T len) (hp : p ≤ len) (h3 : s 49 3 = nI p) (j : Sg → Option Sg) : ∃ s2, lp1_ (b_X4_findToken_110 j) fu s = j s2 ∧ K4 s s2 ∧ s2 49 3 = nI (scn (fgB T) len p) ∧ s2 49 5 = s 49 5 := by
  refine lp1_po (fun o => ∃ s2, o = j s2 ∧ K4 s s2 ∧ s2 49 3 = nI (scn (fgB T) len p) ∧ s2 49 5 = s 49 5) (fun d (st : Sg) => ∃ q, q + d = len ∧ K4 s st ∧ st 49 3 = nI q ∧ st 49 5 = s 49 5 ∧ scn (fgB T) len p = scn (fgB T) len q) ?_ fu (len - p) s (fu_ge (by have := h.1; omega)) ⟨p, by omega, K4.rf s, h3, rfl, rfl⟩
  rintro self d st ⟨q, e1, e2, e3, e5, e4⟩
  have hx := h.k e2
  have hl := h.1
  unfold b_X4_findToken_110
  rw [hx.2.1, e3, ifle _ _ (by omega) (by omega)]
  by_cases g : len ≤ q
  · left
    rw [if_pos g]
    exact ⟨st, rfl, e2, by rw [e3, e4, scn_e (by omega)], e5⟩
  · rw [if_neg g, S_isFigure hx (by omega), ob_s]
    by_cases g2 : q < len ∧ fgB T q = true
    · right
      rw [if_bi' _ _ g2, nm_eq, nadd]
      exact ⟨d - 1, _, by omega, rfl, q + 1, by omega, e2.tr (K4.st _ _ (by decide)), sts_s _ _ _ _, by rw [sts_j _ _ _ (by decide), e5], by rw [e4, scn_s g2.1 g2.2]⟩
    · left
      rw [if_bi0 _ _ g2]
      exact ⟨st, rfl, e2, by rw [e3, e4, scn_e g2], e5⟩
theorem S_find (h : TX s T len) (hp : p ≤ len) (h3 : s 49 3 = nI p) : ∃ s2, f_X4_findToken s = some s2 ∧ K4 s s2 ∧ s2 49 3 = nI (tE T len p) ∧ s2 49 4 = nI (tK T len p) ∧ s2 49 5 = nI (tS T len p) := by
  have hl := h.1
  obtain ⟨b1, b2⟩ := tS_le (T := T) hp
  unfold f_X4_findToken
  rw [nm_eq]
  obtain ⟨s1, e1, e2, e3⟩ := S_skip h hp h3 (fun (s1 : Sg) => nm_ (sts s1 49 5 (s1 49 3)) fun s3 => (f_X4_isLetter (s3 49 3) s3).bind fun v4 => if v4 = 0 then (f_X4_isFigure (s3 49 3) s3).bind fun v5 => if v5 = 0 then if (s3 49 3) < (s3 49 2) then (f_X4_byteAt (s3 49 3) s3).bind fun v6 => nm_ (fun (a7 : Int32) => nm_ (sts s3 49 4 a7) fun s9 => nm_ (sts s9 49 3 ((s9 49 3) + (nI 1))) fun s10 => some s10) fun j8 => if v6 = (nI 59) then j8 (nI 3) else j8 (nI 4) else nm_ (sts s3 49 4 (nI 0)) fun s11 => some s11 else nm_ (fun (s12 : Sg) => if (nI 2) < ((s12 49 3) - (s12 49 5)) then nm_ (sts s12 49 4 (nI 4)) fun s14 => some s14 else nm_ (sts s12 49 4 (nI 2)) fun s15 => some s15) fun j13 => lp1_ (b_X4_findToken_110 j13) fu s3 else lp1_ (b_X4_findToken_56) fu s3)
  rw [e1, nm_eq]
  have k3 : K4 s (sts s1 49 5 (s1 49 3)) := e2.tr (K4.st _ _ (by decide))
  have z3 : sts s1 49 5 (s1 49 3) 49 3 = nI (tS T len p) := by rw [sts_j _ _ _ (by decide), e3]
  have z5 : sts s1 49 5 (s1 49 3) 49 5 = nI (tS T len p) := by rw [sts_s, e3]
  generalize sts s1 49 5 (s1 49 3) = st at k3 z3 z5
  have hx := h.k k3
  rw [z3, S_isLetter hx (by omega), ob_s]
  unfold tE tK
  by_cases g0 : len ≤ tS T len p
  · rw [if_pos g0, if_pos g0, if_bi0 _ _ (by omega), S_isFigure hx (by omega), ob_s, if_bi0 _ _ (by omega), hx.2.1, ifl _ _ (by omega) (by omega), if_neg (by omega), nm_eq]
    exact ⟨_, rfl, k3.tr (K4.st _ _ (by decide)), by rw [sts_j _ _ _ (by decide), z3], sts_s _ _ _ _, by rw [sts_j _ _ _ (by decide), z5]⟩
  rw [if_neg g0, if_neg g0]
  by_cases g1 : ltB T (tS T len p) = true
  · rw [if_pos g1, if_pos g1, if_bi' _ _ ⟨by omega, g1⟩]
    obtain ⟨s4, f1, f2, f3, f4, f5⟩ := S_letters hx b2 z3
    exact ⟨s4, f1, k3.tr f2, f3, f4, f5.trans z5⟩
  rw [if_neg g1, if_neg g1, if_bi0 _ _ (fun z => g1 z.2), S_isFigure hx (by omega), ob_s]
  by_cases g2 : fgB T (tS T len p) = true
  · rw [if_pos g2, if_pos g2, if_bi' _ _ ⟨by omega, g2⟩, nm_eq]
    obtain ⟨s4, f1, f2, f3, f5⟩ := S_figures hx b2 z3 (fun (s12 : Sg) => if (nI 2) < ((s12 49 3) - (s12 49 5)) then nm_ (sts s12 49 4 (nI 4)) fun s14 => some s14 else nm_ (sts s12 49 4 (nI 2)) fun s15 => some s15)
    obtain ⟨c1, c2⟩ := scn_le (f := fgB T) b2
    rw [f1, f3, f5, z5, nsub c1, ifl _ _ (by decide) (by omega)]
    by_cases g3 : scn (fgB T) len (tS T len p) - tS T len p ≤ 2
    · rw [if_neg (by omega), if_pos g3, nm_eq]
      exact ⟨_, rfl, (k3.tr f2).tr (K4.st _ _ (by decide)), by rw [sts_j _ _ _ (by decide), f3], sts_s _ _ _ _, by rw [sts_j _ _ _ (by decide), f5, z5]⟩
    · rw [if_pos (by omega), if_neg g3, nm_eq]
      exact ⟨_, rfl, (k3.tr f2).tr (K4.st _ _ (by decide)), by rw [sts_j _ _ _ (by decide), f3], sts_s _ _ _ _, by rw [sts_j _ _ _ (by decide), f5, z5]⟩
  rw [if_neg g2, if_neg g2, if_bi0 _ _ (fun z => g2 z.2), hx.2.1, ifl _ _ (by omega) (by omega), if_pos (by omega), S_byte hx (by omega), ob_s, nm_eq, ife _ _ (by have := (h.2.2 (tS T len p) (by omega)).2; omega) (by decide)]
  by_cases g3 : T (tS T len p) = 59
  · rw [if_pos g3, if_pos g3]
    exact ⟨_, rfl, (k3.tr (K4.st _ _ (by decide))).tr (K4.st _ _ (by decide)), by rw [sts_s, sts_j _ _ _ (by decide), z3, nadd], by rw [sts_j _ _ _ (by decide), sts_s], by rw [sts_j _ _ _ (by decide), sts_j _ _ _ (by decide), z5]⟩
  · rw [if_neg g3, if_neg g3]
    exact ⟨_, rfl, (k3.tr (K4.st _ _ (by decide))).tr (K4.st _ _ (by decide)), by rw [sts_s, sts_j _ _ _ (by decide), z3, nadd], by rw [sts_j _ _ _ (by decide), sts_s], by rw [sts_j _ _ _ (by decide), sts_j _ _ _ (by decide), z5]⟩
theorem S_value (h : TX s T len) {a e : Nat} (hae : a ≤ e) (he : e ≤ len) (h3 : s 49 3 = nI e) (h5 : s 49 5 = nI a) : f_X4_value s = some (dgV T a (e - a)) := by
  have hl := h.1
  unfold f_X4_value
  rw [h5, nm_eq]
  refine lp2_ax (fun o => o = some (dgV T a (e - a))) (fun i (v : Int32) => v = dgV T a (i - a)) a e (by omega) ?_ ?_ hae _ (by rw [Nat.sub_self]; rfl)
  · rintro self i v h6 h7 rfl
    right
    unfold b_X4_value_7
    rw [h3, ifle _ _ (by omega) (by omega), if_neg (by omega), S_byte h (by omega), ob_s, nm_eq, nadd]
    refine ⟨_, rfl, ?_⟩
    unfold dgV
    rw [show i + 1 - a = (i - a) + 1 by omega, forN_s, show a + (i - a) = i by omega]
  · rintro self v rfl
    unfold b_X4_value_7
    rw [h3, ifle _ _ (by omega) (by omega), if_pos (by omega)]
end CLASSTOK
