/-! READ: the class's items -/
section WORD
variable {s : Sg} {T : Nat → Nat} {len p : Nat}
def strs (q : Nat) : List Nat := [[116, 111, 119, 110], [115, 116, 114, 101, 101, 116], [101, 118, 101, 110, 116], [114, 101, 110, 116]].getD q []
theorem S_charAt (s : Sg) : ∀ q, q < 4 → ∀ i, i < (strs q).length → f_J0_charAt_5068e q (nI i) s = some (nI ((strs q).getD i 0), s)
  | 0, _, 0, _ => rfl
  | 0, _, 1, _ => rfl
  | 0, _, 2, _ => rfl
  | 0, _, 3, _ => rfl
  | 1, _, 0, _ => rfl
  | 1, _, 1, _ => rfl
  | 1, _, 2, _ => rfl
  | 1, _, 3, _ => rfl
  | 1, _, 4, _ => rfl
  | 1, _, 5, _ => rfl
  | 2, _, 0, _ => rfl
  | 2, _, 1, _ => rfl
  | 2, _, 2, _ => rfl
  | 2, _, 3, _ => rfl
  | 2, _, 4, _ => rfl
  | 3, _, 0, _ => rfl
  | 3, _, 1, _ => rfl
  | 3, _, 2, _ => rfl
  | 3, _, 3, _ => rfl
theorem S_strlen (s : Sg) : ∀ q, q < 4 → f_J0_length_8abf5 q s = some (nI (strs q).length)
  | 0, _ => rfl
  | 1, _ => rfl
  | 2, _ => rfl
  | 3, _ => rfl
theorem strs_le : ∀ q, q < 4 → (strs q).length ≤ 6 ∧ 0 < (strs q).length ∧ ∀ i, i < (strs q).length → (strs q).getD i 0 < 128 := by decide
/-- the word at p is the name l -/
def wdP (T : Nat → Nat) (len : Nat) (l : List Nat) (p : Nat) : Prop := tK T len p = 1 ∧ tE T len p - tS T len p = l.length ∧ ∀ i, i < l.length → T (tS T len p + i) = l.getD i 0
theorem wdP.one {l l2 : List Nat} (h : wdP T len l p) (h2 : wdP T len l2 p) : l.length = l2.length ∧ ∀ i, i < l.length → l.getD i 0 = l2.getD i 0 :=
  ⟨h.2.1.symm.trans h2.2.1, fun i hi => (h.2.2 i hi).symm.trans (h2.2.2 i (by rw [← h2.2.1, h.2.1]; exact hi))⟩
/-- the word at p has been found -/
def TK (s : Sg) (T : Nat → Nat) (len p : Nat) : Prop := s 49 3 = nI (tE T len p) ∧ s 49 4 = nI (tK T len p) ∧ s 49 5 = nI (tS T len p)
theorem S_isWord (h : TX s T len) (hp : p ≤ len) (ht : TK s T len p) {q : Nat} (hq : q < 4) : (wdP T len (strs q) p → f_X4_isWord q s = some (nI 1, s)) ∧ (¬ wdP T len (strs q) p → f_X4_isWord q s = some (nI 0, s)) := by
  obtain ⟨t1, t2, t3⟩ := ht
  have hl := h.1
  obtain ⟨l1, l2, l3⟩ := strs_le q hq
  obtain ⟨b1, b2⟩ := tE_le (T := T) hp
  have b3 := tK_lt (T := T) (len := len) (p := p)
  have loop : tE T len p - tS T len p = (strs q).length → ((∀ i, i < (strs q).length → T (tS T len p + i) = (strs q).getD i 0) → lp2_ (b_X4_isWord_28 q) fu (nI 0) s = some (nI 1, s)) ∧ (¬ (∀ i, i < (strs q).length → T (tS T len p + i) = (strs q).getD i 0) → lp2_ (b_X4_isWord_28 q) fu (nI 0) s = some (nI 0, s)) := by
    intro hlen
    have step : ∀ (self : Int32 → Sg → Option (Int32 × Sg)) (i : Nat), i < (strs q).length → b_X4_isWord_28 q self (nI i) s = if T (tS T len p + i) = (strs q).getD i 0 then self (nI (i + 1)) s else some (nI 0, s) := by
      intro self i hi
      unfold b_X4_isWord_28
      rw [S_strlen s q hq, ob_s, ifle _ _ (by omega) (by omega), if_neg (by omega), t3, nadd, S_byte h (by omega), ob_s, S_charAt s q hq i hi, ob2_some, ife _ _ (by have := (h.2.2 (tS T len p + i) (by omega)).2; omega) (by have := l3 i hi; omega), nadd]
    have fin : ∀ (self : Int32 → Sg → Option (Int32 × Sg)), b_X4_isWord_28 q self (nI (strs q).length) s = some (nI 1, s) := by
      intro self
      unfold b_X4_isWord_28
      rw [S_strlen s q hq, ob_s, if_pos (Int32.le_refl _)]
    constructor
    · intro hm
      refine lp2_ix (fun o => o = some (nI 1, s)) (fun _ (st : Sg) => st = s) 0 (strs q).length (by omega) ?_ ?_ (by omega) s rfl
      · rintro self i st - hi rfl
        right
        rw [step self i hi, if_pos (hm i hi)]
        exact ⟨_, rfl, rfl⟩
      · rintro self st rfl
        exact fin self
    · intro hm
      refine lp2_ix (fun o => o = some (nI 0, s)) (fun i (st : Sg) => st = s ∧ ∀ m, m < i → T (tS T len p + m) = (strs q).getD m 0) 0 (strs q).length (by omega) ?_ ?_ (by omega) s ⟨rfl, fun m hm => absurd hm (by omega)⟩
      · rintro self i st - hi ⟨rfl, h8⟩
        rw [step self i hi]
        by_cases g : T (tS T len p + i) = (strs q).getD i 0
        · right
          rw [if_pos g]
          refine ⟨_, rfl, rfl, fun m hm2 => ?_⟩
          by_cases e : m = i
          · subst e; exact g
          · exact h8 m (by omega)
        · left
          rw [if_neg g]
      · rintro self st ⟨rfl, h8⟩
        exact absurd h8 hm
  unfold f_X4_isWord wdP
  rw [t2, ife _ _ (by omega) (by decide), t1, t3, nsub b1, S_strlen s q hq, ob_s, ife _ _ (by omega) (by omega)]
  by_cases g1 : tK T len p = 1
  · rw [if_pos g1]
    by_cases g2 : tE T len p - tS T len p = (strs q).length
    · rw [if_pos g2]
      obtain ⟨a1, a2⟩ := loop g2
      exact ⟨fun z => a1 z.2.2, fun z => a2 (fun y => z ⟨g1, g2, y⟩)⟩
    · rw [if_neg g2]
      exact ⟨fun z => absurd z.2.1 g2, fun _ => rfl⟩
  · rw [if_neg g1]
    exact ⟨fun z => absurd z.1 g1, fun _ => rfl⟩
/-- the kind that the word at p names; 4: none -/
noncomputable def nkd (T : Nat → Nat) (len p : Nat) : Nat := @ite _ (wdP T len (strs 0) p) (Classical.propDecidable _) 0 (@ite _ (wdP T len (strs 1) p) (Classical.propDecidable _) 1 (@ite _ (wdP T len (strs 2) p) (Classical.propDecidable _) 2 (@ite _ (wdP T len (strs 3) p) (Classical.propDecidable _) 3 4)))
theorem S_itemCalled (h : TX s T len) (hp : p ≤ len) (ht : TK s T len p) : f_X4_itemCalled s = some (if nkd T len p = 4 then -1 else nI (nkd T len p), s) := by
  obtain ⟨a0, b0⟩ := S_isWord h hp ht (q := 0) (by decide)
  obtain ⟨a1, b1⟩ := S_isWord h hp ht (q := 1) (by decide)
  obtain ⟨a2, b2⟩ := S_isWord h hp ht (q := 2) (by decide)
  obtain ⟨a3, b3⟩ := S_isWord h hp ht (q := 3) (by decide)
  have n1 : ¬ nI 1 = 0 := by decide
  have n0 : nI 0 = 0 := rfl
  unfold f_X4_itemCalled nkd
  by_cases w0 : wdP T len (strs 0) p
  · rw [a0 w0, ob2_some, if_neg n1, if_pos w0, if_neg (by decide)]
  rw [b0 w0, ob2_some, if_pos n0, if_neg w0]
  by_cases w1 : wdP T len (strs 1) p
  · rw [a1 w1, ob2_some, if_neg n1, if_pos w1, if_neg (by decide)]
  rw [b1 w1, ob2_some, if_pos n0, if_neg w1]
  by_cases w2 : wdP T len (strs 2) p
  · rw [a2 w2, ob2_some, if_neg n1, if_pos w2, if_neg (by decide)]
  rw [b2 w2, ob2_some, if_pos n0, if_neg w2]
  by_cases w3 : wdP T len (strs 3) p
  · rw [a3 w3, ob2_some, if_neg n1, if_pos w3, if_neg (by decide)]
  rw [b3 w3, ob2_some, if_pos n0, if_neg w3, if_pos rfl]
theorem nkd_le : nkd T len p ≤ 4 := by
  unfold nkd
  repeat' split
  all_goals omega
theorem nkd_K (h : nkd T len p < 4) : tK T len p = 1 := by
  unfold nkd at h
  by_cases w0 : wdP T len (strs 0) p
  · exact w0.1
  rw [if_neg w0] at h
  by_cases w1 : wdP T len (strs 1) p
  · exact w1.1
  rw [if_neg w1] at h
  by_cases w2 : wdP T len (strs 2) p
  · exact w2.1
  rw [if_neg w2] at h
  by_cases w3 : wdP T len (strs 3) p
  · exact w3.1
  rw [if_neg w3] at h
  omega
/-- the numbers of an item, from number k on: the place of a fault, or numbers and the place behind -/
noncomputable def vlS (T : Nat → Nat) (len kd ns : Nat) : Nat → Nat → (Nat → Int32) → Nat → Nat ⊕ ((Nat → Int32) × Nat)
  | 0, _, r, p => .inr (r, p)
  | n + 1, k, r, p => @ite _ (tK T len p = 2 ∧ fitP kd k (upd r k (tV T len p)) ns) (Classical.propDecidable _) (vlS T len kd ns n (k + 1) (upd r k (tV T len p)) (tE T len p)) (.inl (tS T len p))
theorem vlS_s (kd ns n k : Nat) (r : Nat → Int32) (p : Nat) (h : tK T len p = 2 ∧ fitP kd k (upd r k (tV T len p)) ns) : vlS T len kd ns (n + 1) k r p = vlS T len kd ns n (k + 1) (upd r k (tV T len p)) (tE T len p) := if_pos h
theorem vlS_e (kd ns n k : Nat) (r : Nat → Int32) (p : Nat) (h : ¬ (tK T len p = 2 ∧ fitP kd k (upd r k (tV T len p)) ns)) : vlS T len kd ns (n + 1) k r p = .inl (tS T len p) := if_neg h
theorem fitP_c {kd k ns : Nat} {r r2 : Nat → Int32} (hk : r2 k = r k) (h0 : r2 0 = r 0) : fitP kd k r2 ns ↔ fitP kd k r ns := by
  unfold fitP
  rw [hk, h0]
/-- all but the text's own cells stay -/
def KV (s s2 : Sg) : Prop := (∀ c, c ≠ 49 → c ≠ 51 → s2 c = s c) ∧ s2 49 2 = s 49 2
theorem KV.rf (s : Sg) : KV s s := ⟨fun _ _ _ => rfl, rfl⟩
theorem KV.tr {s s2 s3 : Sg} (h : KV s s2) (h' : KV s2 s3) : KV s s3 := ⟨fun c a b => (h'.1 c a b).trans (h.1 c a b), h'.2.trans h.2⟩
theorem K4.kv {s s2 : Sg} (h : K4 s s2) : KV s s2 := ⟨fun c a _ => h.1 c a, h.2⟩
theorem TX.v {s2 : Sg} (h : TX s T len) (hk : KV s s2) : TX s2 T len := ⟨h.1, hk.2.trans h.2.1, fun i hi => by rw [hk.1 50 (by decide) (by decide)]; exact h.2.2 i hi⟩
def PV (s : Sg) (len kd ns p0 : Nat) (j : Sg → Option (Int32 × Sg)) (R : Nat ⊕ ((Nat → Int32) × Nat)) (o : Option (Int32 × Sg)) : Prop := match R with
  | .inl e => ∃ s2, o = some (nI 0, s2) ∧ KV s s2 ∧ s2 49 5 = nI e ∧ e ≤ len
  | .inr (r, q) => ∃ s2, o = j s2 ∧ KV s s2 ∧ s2 49 3 = nI q ∧ q ≤ len ∧ p0 ≤ q ∧ (∀ i, i < cntN kd → s2 51 i = r i) ∧ fitA kd (s2 51) ns
theorem S_vals (h : TX s T len) {p0 kd ns : Nat} (hp : p0 ≤ len) (h3 : s 49 3 = nI p0) (hkd : kd < 4) (hh : s 14 0 = nI 4 ∧ s 14 2 = nI ns) (j : Sg → Option (Int32 × Sg)) : PV s len kd ns p0 j (vlS T len kd ns (cntN kd) 0 (fun _ => nI 0) p0) (lp2_ (b_X4_takeItem_36 (nI kd) j 13) fu (nI 0) s) := by
  obtain ⟨t1, t2⟩ := tab0 kd hkd
  generalize hR : vlS T len kd ns (cntN kd) 0 (fun _ => nI 0) p0 = R
  refine lp2_ix (fun o => PV s len kd ns p0 j R o) (fun k (st : Sg) => ∃ (r : Nat → Int32) (p : Nat), KV s st ∧ st 49 3 = nI p ∧ p ≤ len ∧ p0 ≤ p ∧ (∀ i, i < k → st 51 i = r i ∧ fitP kd i (st 51) ns) ∧ vlS T len kd ns (cntN kd - k) k r p = R) 0 (cntN kd) (by omega) ?_ ?_ (by omega) s ⟨_, p0, KV.rf s, h3, hp, Nat.le_refl _, fun i hi => absurd hi (by omega), hR⟩
  · rintro self k st - hk ⟨r, p, k1, k2, k3, k3', k4, k5⟩
    have hx := h.v k1
    have hl := h.1
    obtain ⟨b1, b2⟩ := tE_le (T := T) k3
    obtain ⟨s2, e1, e2, e3, e4, e5⟩ := S_find hx k3 k2
    have b3 := tK_lt (T := T) (len := len) (p := p)
    unfold b_X4_takeItem_36
    rw [tg 0 (by exact hkd) (by decide), ob_s, t1, ifle _ _ (by omega) (by omega), if_neg (by omega), e1, ob_s, e4, ife _ _ (by omega) (by decide)]
    by_cases g1 : tK T len p = 2
    · rw [if_pos g1, S_value (hx.k e2) b1 b2 e3 e5, ob_s, as _ 51 _ (show k < 6 by omega), ob_s]
      rw [show dgV T (tS T len p) (tE T len p - tS T len p) = tV T len p from rfl]
      have kz : KV s (sts s2 51 k (tV T len p)) := (k1.tr e2.kv).tr ⟨fun c _ hc => sts_n _ _ _ hc, by rw [sts_n _ _ _ (by decide)]⟩
      have z51 : ∀ i, i ≠ k → sts s2 51 k (tV T len p) 51 i = st 51 i := fun i hi => by rw [sts_j _ _ _ hi, e2.1 51 (by decide)]
      have zk : sts s2 51 k (tV T len p) 51 k = tV T len p := sts_s _ _ _ _
      have z3 : sts s2 51 k (tV T len p) 49 3 = nI (tE T len p) := by rw [sts_n _ _ _ (by decide), e3]
      have z5 : sts s2 51 k (tV T len p) 49 5 = nI (tS T len p) := by rw [sts_n _ _ _ (by decide), e5]
      generalize sts s2 51 k (tV T len p) = z at kz z51 zk z3 z5
      have hz14 : RW z (13 + 1) 4 ns := by unfold RW; rw [kz.1 14 (by decide) (by decide)]; exact hh
      obtain ⟨f1, f2⟩ := S_fits (t := 13) hz14 hkd hk (c := 51) rfl
      have fc : fitP kd k (z 51) ns ↔ fitP kd k (upd r k (tV T len p)) ns := by
        refine fitP_c (by rw [zk, upd_s]) ?_
        by_cases e : k = 0
        · subst e; rw [zk, upd_s]
        · rw [z51 0 (fun y => e y.symm), upd_n _ _ (fun y => e y.symm)]; exact (k4 0 (by omega)).1
      by_cases g2 : fitP kd k (z 51) ns
      · right
        rw [f1 g2, ob_s, if_neg (show ¬ nI 1 = 0 by decide), nadd]
        refine ⟨z, rfl, upd r k (tV T len p), tE T len p, kz, z3, b2, by have := (tS_le (T := T) k3).1; omega, fun i hi => ?_, ?_⟩
        · by_cases e : i = k
          · subst e
            exact ⟨by rw [zk, upd_s], g2⟩
          · obtain ⟨y1, y2⟩ := k4 i (by omega)
            refine ⟨by rw [z51 i e, upd_n _ _ e, y1], (fitP_c (z51 i e) ?_).mpr y2⟩
            by_cases e0 : k = 0
            · omega
            · exact z51 0 (fun y => e0 y.symm)
        · rw [← vlS_s kd ns (cntN kd - (k + 1)) k r p ⟨g1, fc.mp g2⟩, show cntN kd - (k + 1) + 1 = cntN kd - k by omega]
          exact k5
      · left
        rw [f2 g2, ob_s, if_pos (show nI 0 = 0 from rfl)]
        have : vlS T len kd ns (cntN kd - k) k r p = .inl (tS T len p) := by
          rw [show cntN kd - k = (cntN kd - (k + 1)) + 1 by omega]
          exact vlS_e _ _ _ _ _ _ (fun y => g2 (fc.mpr y.2))
        rw [← k5, this]
        exact ⟨z, rfl, kz, z5, by omega⟩
    · left
      rw [if_neg g1]
      have : vlS T len kd ns (cntN kd - k) k r p = .inl (tS T len p) := by
        rw [show cntN kd - k = (cntN kd - (k + 1)) + 1 by omega]
        exact vlS_e _ _ _ _ _ _ (fun y => g1 y.1)
      rw [← k5, this]
      exact ⟨s2, rfl, k1.tr e2.kv, e5, by omega⟩
  · rintro self st ⟨r, p, k1, k2, k3, k3', k4, k5⟩
    unfold b_X4_takeItem_36
    rw [tg 0 (by exact hkd) (by decide), ob_s, t1, ifle _ _ (by omega) (by omega), if_pos (by omega)]
    rw [Nat.sub_self] at k5
    rw [← k5]
    exact ⟨st, rfl, k1, k2, k3, k3', fun i hi => (k4 i hi).1, fun k hk => (k4 k hk).2⟩
end WORD
