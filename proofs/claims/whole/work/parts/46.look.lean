/-! READ: the reference's words -/
section REFTOK
variable {u : Sg} {T : Nat → Nat} {len p : Nat}
def RX (u : Sg) (T : Nat → Nat) (len : Nat) : Prop := len ≤ 150 ∧ u 70 22 = nI len ∧ ∀ i, i < len → u 88 i = nI (T i) ∧ T i < 128
def K7 (s s2 : Sg) : Prop := (∀ c, c ≠ 70 → s2 c = s c) ∧ s2 70 22 = s 70 22
theorem K7.rf (s : Sg) : K7 s s := ⟨fun _ _ => rfl, rfl⟩
theorem K7.tr {s s2 s3 : Sg} (h : K7 s s2) (h' : K7 s2 s3) : K7 s s3 := ⟨fun c hc => (h'.1 c hc).trans (h.1 c hc), h'.2.trans h.2⟩
theorem K7.st (s : Sg) {k : Nat} (v : Int32) (hk : k ≠ 22) : K7 s (sts s 70 k v) := ⟨fun c hc => sts_n _ _ _ hc, sts_j _ _ _ (fun z => hk z.symm)⟩
theorem RX.k {s2 : Sg} (h : RX u T len) (hk : K7 u s2) : RX s2 T len := ⟨h.1, hk.2.trans h.2.1, fun i hi => by rw [hk.1 88 (by decide)]; exact h.2.2 i hi⟩
/-- the word at p is what it looks at -/
def RS (u : Sg) (T : Nat → Nat) (len p : Nat) : Prop := u 70 23 = nI (tS T len p) ∧ u 70 24 = nI (tE T len p - tS T len p) ∧ u 70 25 = nI (tK T len p) ∧ (tK T len p = 2 → u 70 26 = tV T len p)
theorem S8_small {t : Nat} (ht : t < 128) (s : Sg) : f_X8_isSmall (nI t) s = some (bi (97 ≤ t ∧ t ≤ 122)) := by
  unfold f_X8_isSmall
  rw [S8_in (nI t) (nI 97) (nI 122) _ _ (by decide) (by decide), ob_s, bi_and]
  exact congrArg some (bi_e (by rw [nle (by decide) (by omega), nle (by omega) (by decide)]))
theorem S8_fig {t : Nat} (ht : t < 128) (s : Sg) : f_X8_isFigure (nI t) s = some (bi (48 ≤ t ∧ t ≤ 57)) := by
  unfold f_X8_isFigure
  rw [S8_in (nI t) (nI 48) (nI 57) _ _ (by decide) (by decide), ob_s, bi_and]
  exact congrArg some (bi_e (by rw [nle (by decide) (by omega), nle (by omega) (by decide)]))
theorem S8_skip (h : RX u T len) (hp : p ≤ len) (h3 : u 70 23 = nI p) (j : Sg → Option Sg) : ∃ s2, lp1_ (b_X8_look_5 j) fu u = j s2 ∧ K7 u s2 ∧ s2 70 23 = nI (tS T len p) := by
  refine lp1_po (fun o => ∃ s2, o = j s2 ∧ K7 u s2 ∧ s2 70 23 = nI (tS T len p)) (fun d (st : Sg) => ∃ q, q + d = len ∧ K7 u st ∧ st 70 23 = nI q ∧ tS T len p = scn (spB T) len q) ?_ fu (len - p) u (fu_ge (by have := h.1; omega)) ⟨p, by omega, K7.rf u, h3, rfl⟩
  rintro self d st ⟨q, e1, e2, e3, e4⟩
  have hx := h.k e2
  have hl := h.1
  unfold b_X8_look_5
  rw [hx.2.1, e3, ifle _ _ (by omega) (by omega)]
  by_cases g : len ≤ q
  · left
    rw [if_pos g]
    exact ⟨st, rfl, e2, by rw [e3, e4, scn_e (by omega)]⟩
  · rw [if_neg g, ag _ 88 (show q < 150 by omega) (by omega), ob_s, (hx.2.2 q (by omega)).1, ife _ _ (by have := (h.2.2 q (by omega)).2; omega) (by decide)]
    by_cases g2 : T q = 32
    · right
      rw [if_pos g2, nm_eq, nadd]
      exact ⟨d - 1, _, by omega, rfl, q + 1, by omega, e2.tr (K7.st _ _ (by decide)), sts_s _ _ _ _, by rw [e4, scn_s (by omega) (decide_eq_true g2)]⟩
    · left
      rw [if_neg g2]
      exact ⟨st, rfl, e2, by rw [e3, e4, scn_e (fun z => g2 (of_decide_eq_true z.2))]⟩
/-- the class of signs of a kind -/
def kdB (T : Nat → Nat) (k : Nat) : Nat → Bool := if k = 1 then ltB T else fgB T
theorem S8_ext (h : RX u T len) {a k : Nat} (ha : a < len) (hk : k = 1 ∨ k = 2) (hf : kdB T k a = true) (h3 : u 70 23 = nI a) (h4 : u 70 24 = nI 1) (h5 : u 70 25 = nI k) (h6 : u 70 26 = nI 0) (j : Sg → Option Sg) : ∃ s2, lp2_ (b_X8_look_136 j) fu (nI 1) u = j s2 ∧ K7 u s2 ∧ s2 70 23 = nI a ∧ s2 70 24 = nI (scn (kdB T k) len a - a) ∧ s2 70 25 = nI k ∧ s2 70 26 = nI 0 := by
  refine lp2_po (fun o => ∃ s2, o = j s2 ∧ K7 u s2 ∧ s2 70 23 = nI a ∧ s2 70 24 = nI (scn (kdB T k) len a - a) ∧ s2 70 25 = nI k ∧ s2 70 26 = nI 0) (fun d (f : Int32) (st : Sg) => ∃ q, a < q ∧ q ≤ len ∧ K7 u st ∧ st 70 23 = nI a ∧ st 70 24 = nI (q - a) ∧ st 70 25 = nI k ∧ st 70 26 = nI 0 ∧ scn (kdB T k) len a = scn (kdB T k) len q ∧ ((f = nI 0 ∧ scn (kdB T k) len q = q) ∨ (f = nI 1 ∧ len - q < d))) ?_ fu (len + 1) (nI 1) u (fu_ge (by have := h.1; omega)) ⟨a + 1, by omega, by omega, K7.rf u, h3, by rw [show a + 1 - a = 1 by omega]; exact h4, h5, h6, scn_s ha hf, Or.inr ⟨rfl, by omega⟩⟩
  rintro self d f st ⟨q, q1, q2, e2, e3, e4, e5, e6, e7, e8⟩
  have hx := h.k e2
  have hl := h.1
  unfold b_X8_look_136
  rcases e8 with ⟨rfl, e8⟩ | ⟨rfl, e8⟩
  · left
    rw [if_pos (show nI 0 = 0 from rfl)]
    exact ⟨st, rfl, e2, e3, by rw [e7, e8]; exact e4, e5, e6⟩
  · rw [if_neg (show ¬ nI 1 = 0 by decide), hx.2.1, e3, e4, nadd, show a + (q - a) = q by omega, ifle _ _ (by omega) (by omega)]
    by_cases g : len ≤ q
    · left
      rw [if_pos g]
      exact ⟨st, rfl, e2, e3, by rw [e7, scn_e (by omega)]; exact e4, e5, e6⟩
    · have hT := (hx.2.2 q (by omega)).2
      right
      rw [if_neg g, ag _ 88 (show q < 150 by omega) (by omega), ob_s, (hx.2.2 q (by omega)).1, nm_eq, e5, ife _ _ (by omega) (by decide)]
      have key : ∀ (P : Prop) [Decidable P], (P ↔ kdB T k q = true) → nm_ (fun (a33 : Int32) => nm_ (sts st 70 24 (nI (q - a) + a33)) fun s35 => self (bi P) s35) (fun j34 => if bi P = 0 then j34 (nI 0) else j34 (nI 1)) = self (bi P) (sts st 70 24 (nI (if kdB T k q = true then q + 1 - a else q - a))) := by
        intro P _ hP
        by_cases z : P
        · rw [nm_eq, if_bi' _ _ z, if_pos (hP.mp z)]
          dsimp only
          rw [nm_eq, nadd, show q - a + 1 = q + 1 - a by omega]
        · rw [nm_eq, if_bi0 _ _ z, if_neg (fun y => z (hP.mpr y))]
          dsimp only
          rw [nm_eq, nadd, Nat.add_zero]
      have fin : ∀ (P : Prop) [Decidable P], (P ↔ kdB T k q = true) → ∃ (e : Nat) (c0 : Int32) (c1 : Sg), e < d ∧ self (bi P) (sts st 70 24 (nI (if kdB T k q = true then q + 1 - a else q - a))) = self c0 c1 ∧ ∃ q, a < q ∧ q ≤ len ∧ K7 u c1 ∧ c1 70 23 = nI a ∧ c1 70 24 = nI (q - a) ∧ c1 70 25 = nI k ∧ c1 70 26 = nI 0 ∧ scn (kdB T k) len a = scn (kdB T k) len q ∧ ((c0 = nI 0 ∧ scn (kdB T k) len q = q) ∨ (c0 = nI 1 ∧ len - q < e)) := by
        intro P _ hP
        by_cases z : P
        · have z2 := hP.mp z
          rw [if_pos z2, bi_t z]
          exact ⟨d - 1, _, _, by omega, rfl, q + 1, by omega, by omega, e2.tr (K7.st _ _ (by decide)), by rw [sts_j _ _ _ (by decide), e3], sts_s _ _ _ _, by rw [sts_j _ _ _ (by decide), e5], by rw [sts_j _ _ _ (by decide), e6], by rw [e7, scn_s (by omega) z2], Or.inr ⟨rfl, by omega⟩⟩
        · have z2 : ¬ kdB T k q = true := fun y => z (hP.mpr y)
          rw [if_neg z2, bi_f z]
          exact ⟨d - 1, _, _, by omega, rfl, q, by omega, by omega, e2.tr (K7.st _ _ (by decide)), by rw [sts_j _ _ _ (by decide), e3], sts_s _ _ _ _, by rw [sts_j _ _ _ (by decide), e5], by rw [sts_j _ _ _ (by decide), e6], e7, Or.inl ⟨rfl, scn_e (fun y => z2 y.2)⟩⟩
      rcases hk with rfl | rfl
      · have hP : (97 ≤ T q ∧ T q ≤ 122) ↔ kdB T 1 q = true := by
          unfold kdB ltB
          rw [if_pos rfl]
          exact (decide_eq_true_iff).symm
        rw [if_pos rfl, S8_small hT, ob_s]
        dsimp only
        rw [key _ hP]
        exact fin _ hP
      · have hP : (48 ≤ T q ∧ T q ≤ 57) ↔ kdB T 2 q = true := by
          unfold kdB fgB
          rw [if_neg (by decide)]
          exact (decide_eq_true_iff).symm
        rw [if_neg (by decide), S8_fig hT, ob_s]
        dsimp only
        rw [key _ hP]
        exact fin _ hP
theorem S8_dig (h : RX u T len) {a n k : Nat} (ha : a + n ≤ len) (hk : k < 5) (h3 : u 70 23 = nI a) (h4 : u 70 24 = nI n) (h5 : u 70 25 = nI k) (h6 : u 70 26 = nI 0) (j : Sg → Option Sg) : ∃ s2, lp2_ (b_X8_look_218 j) fu (nI 0) u = j s2 ∧ K7 u s2 ∧ s2 70 23 = nI a ∧ s2 70 24 = nI n ∧ s2 70 25 = nI k ∧ (k = 2 → n ≤ 2 → s2 70 26 = dgV T a n) := by
  have hl := h.1
  by_cases hk2 : k = 2
  · subst hk2
    refine lp2_ix (fun o => ∃ s2, o = j s2 ∧ K7 u s2 ∧ s2 70 23 = nI a ∧ s2 70 24 = nI n ∧ s2 70 25 = nI 2 ∧ (2 = 2 → n ≤ 2 → s2 70 26 = dgV T a n)) (fun i (st : Sg) => K7 u st ∧ st 70 23 = nI a ∧ st 70 24 = nI n ∧ st 70 25 = nI 2 ∧ st 70 26 = dgV T a i) 0 (min n 2) (by omega) ?_ ?_ (by omega) u ⟨K7.rf u, h3, h4, h5, h6⟩
    · rintro self i st - hi ⟨e2, e3, e4, e5, e6⟩
      right
      have hx := h.k e2
      unfold b_X8_look_218
      rw [e4, ifle _ _ (by omega) (by omega), if_neg (by omega), ifle _ _ (by omega) (by omega), if_neg (by omega), e5, if_pos rfl, e3, nadd, ag _ 88 (show a + i < 150 by omega) (by omega), ob_s, (hx.2.2 (a + i) (by omega)).1, nm_eq, nadd, e6]
      exact ⟨_, rfl, e2.tr (K7.st _ _ (by decide)), by rw [sts_j _ _ _ (by decide), e3], by rw [sts_j _ _ _ (by decide), e4], by rw [sts_j _ _ _ (by decide), e5], sts_s _ _ _ _⟩
    · rintro self st ⟨e2, e3, e4, e5, e6⟩
      unfold b_X8_look_218
      have : (if st 70 24 ≤ nI (min n 2) then j st else if nI 2 ≤ nI (min n 2) then j st else if st 70 25 = nI 2 then (aget st 88 (st 70 23 + nI (min n 2))).bind fun v25 => nm_ (sts st 70 26 (nI 10 * st 70 26 + v25 - nI 48)) fun s26 => self (nI (min n 2) + nI 1) s26 else j st) = j st := by
        rw [e4, ifle _ _ (by omega) (by omega), ifle _ _ (by omega) (by omega)]
        by_cases g : n ≤ min n 2
        · rw [if_pos g]
        · rw [if_neg g, if_pos (by omega)]
      rw [this]
      exact ⟨st, rfl, e2, e3, e4, e5, fun _ hn => by rw [e6, Nat.min_eq_left hn]⟩
  · refine lp2_ix (fun o => ∃ s2, o = j s2 ∧ K7 u s2 ∧ s2 70 23 = nI a ∧ s2 70 24 = nI n ∧ s2 70 25 = nI k ∧ (k = 2 → n ≤ 2 → s2 70 26 = dgV T a n)) (fun i (st : Sg) => st = u) 0 0 (by omega) (fun _ i _ _ hi _ => absurd hi (by omega)) ?_ (by omega) u rfl
    rintro self st rfl
    unfold b_X8_look_218
    refine ⟨st, ?_, K7.rf st, h3, h4, h5, fun z => absurd z hk2⟩
    rw [h4, h5, ifle _ _ (by omega) (by omega), ifle _ _ (by omega) (by omega), if_neg (show ¬ 2 ≤ 0 by omega), ife _ _ (by omega) (by decide), if_neg hk2]
    by_cases g : n ≤ 0
    · rw [if_pos g]
    · rw [if_neg g]
theorem S8_look (h : RX u T len) (hp : p ≤ len) : ∃ s2, f_X8_look (nI p) u = some s2 ∧ K7 u s2 ∧ RS s2 T len p := by
  have hl := h.1
  obtain ⟨b1, b2⟩ := tS_le (T := T) hp
  unfold f_X8_look
  rw [nm_eq, nm_eq]
  have k0 : K7 u (sts u 70 23 (nI p)) := K7.st _ _ (by decide)
  have z0 : sts u 70 23 (nI p) 70 23 = nI p := sts_s _ _ _ _
  generalize sts u 70 23 (nI p) = u0 at k0 z0
  obtain ⟨s1, e1, e2, e3⟩ := S8_skip (h.k k0) hp z0 (fun (s2 : Sg) => nm_ (sts s2 70 24 (nI 0)) fun s4 => nm_ (sts s4 70 25 (nI 0)) fun s5 => nm_ (sts s5 70 26 (nI 0)) fun s6 => if (s6 70 23) = (s6 70 22) then some s6 else (aget s6 88 (s6 70 23)).bind fun v7 => (f_X8_isSmall v7 s6).bind fun v8 => nm_ (fun (a9 : Int32) => nm_ (sts s6 70 25 a9) fun s11 => nm_ (sts s11 70 24 (nI 1)) fun s12 => nm_ (fun (a13 : Int32) => nm_ (fun (s15 : Sg) => nm_ (fun (s17 : Sg) => if (s17 70 25) = (nI 2) then if (s17 70 24) ≤ (nI 2) then nm_ (sts s17 70 25 (s17 70 25)) fun s20 => some s20 else nm_ (sts s17 70 25 (nI 4)) fun s21 => some s21 else nm_ (sts s17 70 25 (s17 70 25)) fun s19 => some s19) fun j18 => lp2_ (b_X8_look_218 j18) fu (nI 0) s15) fun j16 => lp2_ (b_X8_look_136 j16) fu a13 s12) fun j14 => if (nI 3) ≤ (s12 70 25) then j14 (nI 0) else j14 (nI 1)) fun j10 => if v8 = 0 then (f_X8_isFigure v7 s6).bind fun v38 => if v38 = 0 then if v7 = (nI 59) then j10 (nI 3) else j10 (nI 4) else j10 (nI 2) else j10 (nI 1))
  rw [e1, nm_eq, nm_eq, nm_eq]
  have k3 : K7 u (sts (sts (sts s1 70 24 (nI 0)) 70 25 (nI 0)) 70 26 (nI 0)) := (((k0.tr e2).tr (K7.st _ _ (by decide))).tr (K7.st _ _ (by decide))).tr (K7.st _ _ (by decide))
  have z3 : sts (sts (sts s1 70 24 (nI 0)) 70 25 (nI 0)) 70 26 (nI 0) 70 23 = nI (tS T len p) := by rw [sts_j _ _ _ (by decide), sts_j _ _ _ (by decide), sts_j _ _ _ (by decide), e3]
  have z4 : sts (sts (sts s1 70 24 (nI 0)) 70 25 (nI 0)) 70 26 (nI 0) 70 24 = nI 0 := by rw [sts_j _ _ _ (by decide), sts_j _ _ _ (by decide), sts_s]
  have z5 : sts (sts (sts s1 70 24 (nI 0)) 70 25 (nI 0)) 70 26 (nI 0) 70 25 = nI 0 := by rw [sts_j _ _ _ (by decide), sts_s]
  have z6 : sts (sts (sts s1 70 24 (nI 0)) 70 25 (nI 0)) 70 26 (nI 0) 70 26 = nI 0 := sts_s _ _ _ _
  generalize sts (sts (sts s1 70 24 (nI 0)) 70 25 (nI 0)) 70 26 (nI 0) = st at k3 z3 z4 z5 z6
  have hx := h.k k3
  unfold RS tV
  rw [z3, hx.2.1, ife _ _ (by omega) (by omega)]
  by_cases g0 : len ≤ tS T len p
  · rw [if_pos (by omega)]
    unfold tE tK
    rw [if_pos g0, if_pos g0, Nat.sub_self]
    exact ⟨st, rfl, k3, z3, z4, z5, fun z => absurd z (by decide)⟩
  have hT := (h.2.2 (tS T len p) (by omega)).2
  rw [if_neg (by omega), ag _ 88 (show tS T len p < 150 by omega) (by omega), ob_s, (hx.2.2 _ (by omega)).1, S8_small hT, ob_s, nm_eq, S8_fig hT, ob_s]
  -- one way for every kind
  have go : ∀ k, (0 < k ∧ k < 5) → ((k = 1 ∨ k = 2) → kdB T k (tS T len p) = true) → ∃ s2, (nm_ (sts st 70 25 (nI k)) fun s11 => nm_ (sts s11 70 24 (nI 1)) fun s12 => nm_ (fun (a13 : Int32) => nm_ (fun (s15 : Sg) => nm_ (fun (s17 : Sg) => if (s17 70 25) = (nI 2) then if (s17 70 24) ≤ (nI 2) then nm_ (sts s17 70 25 (s17 70 25)) fun s20 => some s20 else nm_ (sts s17 70 25 (nI 4)) fun s21 => some s21 else nm_ (sts s17 70 25 (s17 70 25)) fun s19 => some s19) fun j18 => lp2_ (b_X8_look_218 j18) fu (nI 0) s15) fun j16 => lp2_ (b_X8_look_136 j16) fu a13 s12) fun j14 => if (nI 3) ≤ (s12 70 25) then j14 (nI 0) else j14 (nI 1)) = some s2 ∧ K7 u s2 ∧ s2 70 23 = nI (tS T len p) ∧ s2 70 24 = nI (if k = 1 ∨ k = 2 then scn (kdB T k) len (tS T len p) - tS T len p else 1) ∧ s2 70 25 = nI (if k = 2 then (if scn (kdB T k) len (tS T len p) - tS T len p ≤ 2 then 2 else 4) else k) ∧ (k = 2 → scn (kdB T k) len (tS T len p) - tS T len p ≤ 2 → s2 70 26 = dgV T (tS T len p) (scn (kdB T k) len (tS T len p) - tS T len p)) := by
    intro k hk hf
    rw [nm_eq, nm_eq, nm_eq]
    have k4 : K7 u (sts (sts st 70 25 (nI k)) 70 24 (nI 1)) := (k3.tr (K7.st _ _ (by decide))).tr (K7.st _ _ (by decide))
    have y3 : sts (sts st 70 25 (nI k)) 70 24 (nI 1) 70 23 = nI (tS T len p) := by rw [sts_j _ _ _ (by decide), sts_j _ _ _ (by decide), z3]
    have y4 : sts (sts st 70 25 (nI k)) 70 24 (nI 1) 70 24 = nI 1 := sts_s _ _ _ _
    have y5 : sts (sts st 70 25 (nI k)) 70 24 (nI 1) 70 25 = nI k := by rw [sts_j _ _ _ (by decide), sts_s]
    have y6 : sts (sts st 70 25 (nI k)) 70 24 (nI 1) 70 26 = nI 0 := by rw [sts_j _ _ _ (by decide), sts_j _ _ _ (by decide), z6]
    generalize sts (sts st 70 25 (nI k)) 70 24 (nI 1) = v at k4 y3 y4 y5 y6
    have hv := h.k k4
    rw [y5, ifle _ _ (by decide) (by omega)]
    have tail : ∀ (v2 : Sg) (n : Nat), K7 u v2 → tS T len p + n ≤ len → v2 70 23 = nI (tS T len p) → v2 70 24 = nI n → v2 70 25 = nI k → v2 70 26 = nI 0 → ∃ s2, (nm_ (fun (s17 : Sg) => if (s17 70 25) = (nI 2) then if (s17 70 24) ≤ (nI 2) then nm_ (sts s17 70 25 (s17 70 25)) fun s20 => some s20 else nm_ (sts s17 70 25 (nI 4)) fun s21 => some s21 else nm_ (sts s17 70 25 (s17 70 25)) fun s19 => some s19) fun j18 => lp2_ (b_X8_look_218 j18) fu (nI 0) v2) = some s2 ∧ K7 u s2 ∧ s2 70 23 = nI (tS T len p) ∧ s2 70 24 = nI n ∧ s2 70 25 = nI (if k = 2 then (if n ≤ 2 then 2 else 4) else k) ∧ (k = 2 → n ≤ 2 → s2 70 26 = dgV T (tS T len p) n) := by
      intro v2 n h1 h2 h3 h4 h5 h6
      rw [nm_eq]
      obtain ⟨s5, f1, f2, f3, f4, f5, f6⟩ := S8_dig (h.k h1) h2 hk.2 h3 h4 h5 h6 (fun (s17 : Sg) => if (s17 70 25) = (nI 2) then if (s17 70 24) ≤ (nI 2) then nm_ (sts s17 70 25 (s17 70 25)) fun s20 => some s20 else nm_ (sts s17 70 25 (nI 4)) fun s21 => some s21 else nm_ (sts s17 70 25 (s17 70 25)) fun s19 => some s19)
      rw [f1, f5, f4, ife _ _ (by omega) (by decide), ifle _ _ (by omega) (by decide)]
      by_cases w1 : k = 2
      · rw [if_pos w1, if_pos w1]
        by_cases w2 : n ≤ 2
        · rw [if_pos w2, if_pos w2, nm_eq]
          exact ⟨_, rfl, (h1.tr f2).tr (K7.st _ _ (by decide)), by rw [sts_j _ _ _ (by decide), f3], by rw [sts_j _ _ _ (by decide), f4], by rw [sts_s, w1], fun q1 q2 => by rw [sts_j _ _ _ (by decide)]; exact f6 q1 q2⟩
        · rw [if_neg w2, if_neg w2, nm_eq]
          exact ⟨_, rfl, (h1.tr f2).tr (K7.st _ _ (by decide)), by rw [sts_j _ _ _ (by decide), f3], by rw [sts_j _ _ _ (by decide), f4], sts_s _ _ _ _, fun _ q2 => absurd q2 w2⟩
      · rw [if_neg w1, if_neg w1, nm_eq]
        exact ⟨_, rfl, (h1.tr f2).tr (K7.st _ _ (by decide)), by rw [sts_j _ _ _ (by decide), f3], by rw [sts_j _ _ _ (by decide), f4], sts_s _ _ _ _, fun q1 => absurd q1 w1⟩
    by_cases g : k = 1 ∨ k = 2
    · rw [if_neg (by omega), if_pos g]
      dsimp only
      rw [nm_eq]
      obtain ⟨s4, f1, f2, f3, f4, f5, f6⟩ := S8_ext hv (a := tS T len p) (by omega) g (hf g) y3 y4 y5 y6 (fun (s15 : Sg) => nm_ (fun (s17 : Sg) => if (s17 70 25) = (nI 2) then if (s17 70 24) ≤ (nI 2) then nm_ (sts s17 70 25 (s17 70 25)) fun s20 => some s20 else nm_ (sts s17 70 25 (nI 4)) fun s21 => some s21 else nm_ (sts s17 70 25 (s17 70 25)) fun s19 => some s19) fun j18 => lp2_ (b_X8_look_218 j18) fu (nI 0) s15)
      rw [f1]
      have sl := scn_le (f := kdB T k) b2
      exact tail s4 _ (k4.tr f2) (by omega) f3 f4 f5 f6
    · rw [if_pos (by omega), if_neg g]
      dsimp only
      rw [nm_eq]
      have : lp2_ (b_X8_look_136 (fun (s15 : Sg) => nm_ (fun (s17 : Sg) => if (s17 70 25) = (nI 2) then if (s17 70 24) ≤ (nI 2) then nm_ (sts s17 70 25 (s17 70 25)) fun s20 => some s20 else nm_ (sts s17 70 25 (nI 4)) fun s21 => some s21 else nm_ (sts s17 70 25 (s17 70 25)) fun s19 => some s19) fun j18 => lp2_ (b_X8_look_218 j18) fu (nI 0) s15)) fu (nI 0) v = (nm_ (fun (s17 : Sg) => if (s17 70 25) = (nI 2) then if (s17 70 24) ≤ (nI 2) then nm_ (sts s17 70 25 (s17 70 25)) fun s20 => some s20 else nm_ (sts s17 70 25 (nI 4)) fun s21 => some s21 else nm_ (sts s17 70 25 (s17 70 25)) fun s19 => some s19) fun j18 => lp2_ (b_X8_look_218 j18) fu (nI 0) v) := by
        refine lp2_ix (fun o => o = _) (fun _ (st2 : Sg) => st2 = v) 0 0 (by omega) (fun _ i _ _ hi _ => absurd hi (by omega)) ?_ (by omega) v rfl
        rintro self st2 rfl
        unfold b_X8_look_136
        rw [if_pos (show nI 0 = 0 from rfl)]
      rw [this]
      obtain ⟨s5, f1, f2, f3, f4, f5, f6⟩ := tail v 1 k4 (by omega) y3 y4 y5 y6
      have nk2 : ¬ k = 2 := fun z => g (Or.inr z)
      exact ⟨s5, f1, f2, f3, f4, by rw [f5, if_neg nk2, if_neg nk2], fun z => absurd z nk2⟩
  unfold tE tK
  rw [if_neg g0, if_neg g0]
  by_cases g1 : ltB T (tS T len p) = true
  · rw [if_pos g1, if_pos g1, if_bi' _ _ (of_decide_eq_true g1)]
    obtain ⟨s2, a1, a2, a3, a4, a5, a6⟩ := go 1 (by decide) (fun _ => by unfold kdB; rw [if_pos rfl]; exact g1)
    exact ⟨s2, a1, a2, a3, a4, a5, fun z => absurd z (by decide)⟩
  rw [if_neg g1, if_neg g1, if_bi0 _ _ (fun z => g1 (decide_eq_true z))]
  by_cases g2 : fgB T (tS T len p) = true
  · rw [if_pos g2, if_pos g2, if_bi' _ _ (of_decide_eq_true g2)]
    obtain ⟨s2, a1, a2, a3, a4, a5, a6⟩ := go 2 (by decide) (fun _ => by unfold kdB; rw [if_neg (by decide)]; exact g2)
    refine ⟨s2, a1, a2, a3, a4, a5, fun z => ?_⟩
    by_cases g3 : scn (fgB T) len (tS T len p) - tS T len p ≤ 2
    · exact a6 rfl g3
    · rw [if_neg g3] at z
      exact absurd z (by decide)
  rw [if_neg g2, if_neg g2, if_bi0 _ _ (fun z => g2 (decide_eq_true z)), ife _ _ (by omega) (by decide)]
  by_cases g3 : T (tS T len p) = 59
  · rw [if_pos g3, if_pos g3]
    obtain ⟨s2, a1, a2, a3, a4, a5, a6⟩ := go 3 (by decide) (fun z => absurd z (by decide))
    exact ⟨s2, a1, a2, a3, by rw [a4, show tS T len p + 1 - tS T len p = 1 by omega]; rfl, a5, fun z => absurd z (by decide)⟩
  · rw [if_neg g3, if_neg g3]
    obtain ⟨s2, a1, a2, a3, a4, a5, a6⟩ := go 4 (by decide) (fun z => absurd z (by decide))
    exact ⟨s2, a1, a2, a3, by rw [a4, show tS T len p + 1 - tS T len p = 1 by omega]; rfl, a5, fun z => absurd z (by decide)⟩
theorem S8_goOn (h : RX u T len) (hp : p ≤ len) (hs : RS u T len p) : ∃ s2, f_X8_goOn u = some s2 ∧ K7 u s2 ∧ RS s2 T len (tE T len p) := by
  obtain ⟨b1, b2⟩ := tE_le (T := T) hp
  obtain ⟨s2, e1, e2, e3⟩ := S8_look h b2
  unfold f_X8_goOn
  rw [hs.1, hs.2.1, nadd, show tS T len p + (tE T len p - tS T len p) = tE T len p by omega, e1, ob_s]
  exact ⟨s2, rfl, e2, e3⟩
end REFTOK
