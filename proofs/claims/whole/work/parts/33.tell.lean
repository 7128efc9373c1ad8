/-! what is told, number by number -/
def cntN (kd : Nat) : Nat := [1, 4, 6, 2].getD kd 0
def limN (kd k : Nat) : Nat := [3, 0, 0, 0, 0, 0, 8, 8, 10, 16, 0, 0, 6, 7, 24, 10, 10, 16, 16, 100, 0, 0, 0, 0].getD (6 * kd + k) 0
theorem tab0 : ∀ kd, kd < 4 → (tabL 0).getD kd 0 = nI (cntN kd) ∧ cntN kd ≤ 6 := by decide +kernel
theorem tab1 : ∀ j, j < 24 → (tabL 1).getD j 0 = nI ([3, 0, 0, 0, 0, 0, 8, 8, 10, 16, 0, 0, 6, 7, 24, 10, 10, 16, 16, 100, 0, 0, 0, 0].getD j 0) ∧ [3, 0, 0, 0, 0, 0, 8, 8, 10, 16, 0, 0, 6, 7, 24, 10, 10, 16, 16, 100, 0, 0, 0, 0].getD j 0 ≤ 100 := by decide +kernel
/-- a number fits -/
def fitP (kd k : Nat) (r : Nat → Int32) (ns : Nat) : Prop :=
  (kd = 1 ∧ k = 1 → r k ≠ r 0) ∧ (kd = 1 ∧ k = 2 → nI 1 ≤ r k) ∧ (kd = 2 ∧ k = 1 → 0 ≤ r k ∧ r k < nI ns) ∧ (¬ (kd = 2 ∧ k = 1) → 0 ≤ r k ∧ r k < nI (limN kd k))
section FITS
variable {s : Sg} {t : Nat} {N : Nat → Int32} {ns ne nr np : Nat}
theorem S_fits (hh : RW s (t + 1) 4 ns) {kd k c : Nat} (hkd : kd < 4) (hk : k < cntN kd) (hc : alen c = 6) : (fitP kd k (s c) ns → f_X5_fits t (nI kd) (nI k) c s = some (nI 1)) ∧ (¬ fitP kd k (s c) ns → f_X5_fits t (nI kd) (nI k) c s = some (nI 0)) := by
  obtain ⟨t1, t2⟩ := tab0 kd hkd
  obtain ⟨t3, t4⟩ := tab1 (6 * kd + k) (by omega)
  have e : f_X5_fits t (nI kd) (nI k) c s = (if kd = 1 ∧ k = 1 ∧ s c k = s c 0 then some (nI 0) else if kd = 1 ∧ k = 2 ∧ ¬ nI 1 ≤ s c k then some (nI 0) else if kd = 2 ∧ k = 1 then some (bi (0 ≤ s c k ∧ s c k < nI ns)) else some (bi (0 ≤ s c k ∧ s c k < nI (limN kd k)))) := by
    have g : (f_X7_isBelow (s c k) (nI (limN kd k)) s).bind (fun v9 => some (v9 &&& 1)) = some (bi (0 ≤ s c k ∧ s c k < nI (limN kd k))) := by rw [S_isBelow, ob_s, bi_and]
    have g2 : (f_X7_isBelow (s c k) (nI ns) s).bind (fun v9 => some (v9 &&& 1)) = some (bi (0 ≤ s c k ∧ s c k < nI ns)) := by rw [S_isBelow, ob_s, bi_and]
    unfold f_X5_fits
    rw [S_isBelow, ob_s, bi_B (by omega) (by decide), if_bi, if_pos hkd, tg 0 (by exact hkd) (by decide), ob_s, t1, S_isBelow, ob_s, bi_B (by omega) (by omega), if_bi, if_pos hk, ag _ _ (by rw [hc]; omega) (by omega), ob_s, nm_eq, nm_eq, nm_eq, nmul, nadd, show kd * 6 + k = 6 * kd + k by omega, tg 1 (show 6 * kd + k < 24 by omega) (by decide), ob_s, t3, S_size, ob_s, hh.2, ag _ _ (by rw [hc]; omega) (by omega), ob_s]
    rw [show [3, 0, 0, 0, 0, 0, 8, 8, 10, 16, 0, 0, 6, 7, 24, 10, 10, 16, 16, 100, 0, 0, 0, 0].getD (6 * kd + k) 0 = limN kd k from rfl, g, g2, ife _ _ (by omega) (by decide), ife _ _ (by omega) (by decide), ife _ _ (by omega) (by decide), ife _ _ (by omega) (by decide), ife _ _ (by omega) (by decide), ife _ _ (by omega) (by decide)]
    by_cases q1 : kd = 1
    · subst q1
      by_cases q2 : k = 1
      · subst q2
        by_cases q3 : s c 1 = s c 0
        · simp [q3]
        · simp [q3]
      · by_cases q4 : k = 2
        · subst q4
          by_cases q5 : nI 1 ≤ s c 2
          · simp [q5]
          · simp [q5]
        · simp [q2, q4]
    · by_cases q1 : kd = 2
      · subst q1
        by_cases q2 : k = 1
        · simp [q2]
        · simp [q2]
      · simp [*]
  rw [e]
  unfold fitP
  constructor
  · rintro ⟨a1, a2, a3, a4⟩
    rw [if_neg (fun z => a1 ⟨z.1, z.2.1⟩ z.2.2), if_neg (fun z => z.2.2 (a2 ⟨z.1, z.2.1⟩))]
    by_cases q : kd = 2 ∧ k = 1
    · rw [if_pos q, bi_t (a3 q)]
    · rw [if_neg q, bi_t (a4 q)]
  · intro h
    by_cases q1 : kd = 1 ∧ k = 1 ∧ s c k = s c 0
    · rw [if_pos q1]
    rw [if_neg q1]
    by_cases q2 : kd = 1 ∧ k = 2 ∧ ¬ nI 1 ≤ s c k
    · rw [if_pos q2]
    rw [if_neg q2]
    by_cases q : kd = 2 ∧ k = 1
    · rw [if_pos q, bi_f]
      intro z
      exact h ⟨fun y e => q1 ⟨y.1, y.2, e⟩, fun y => Classical.byContradiction (fun w => q2 ⟨y.1, y.2, w⟩), fun _ => z, fun y => absurd q y⟩
    · rw [if_neg q, bi_f]
      intro z
      exact h ⟨fun y e => q1 ⟨y.1, y.2, e⟩, fun y => Classical.byContradiction (fun w => q2 ⟨y.1, y.2, w⟩), fun y => absurd y q, fun _ => z⟩
/-- all fit -/
def fitA (kd : Nat) (r : Nat → Int32) (ns : Nat) : Prop := ∀ k, k < cntN kd → fitP kd k r ns
theorem S_tell (hh : RW s 2 4 ns) {kd : Nat} (hkd : kd < 4) : (fitA kd (s 69) ns → f_X7_tell (nI kd) s = (f_X5_hasNoRoomFor 1 (nI kd) s).bind fun v2 => if v2 = 0 then ob2 (f_X5_take 1 (nI kd) 69 s) fun (v3 : Int32) (s4 : Sg) => some (v3, s4) else ob2 (f_X7_refuseFull s) fun (v5 : Int32) (s6 : Sg) => some (v5, s6)) ∧
    (¬ fitA kd (s 69) ns → f_X7_tell (nI kd) s = some (-2, sts s 0 11 (s 0 11 + nI 1))) := by
  obtain ⟨t1, t2⟩ := tab0 kd hkd
  have step : ∀ (j : Unit → Option (Int32 × Sg)) (self : Int32 → Option (Int32 × Sg)) (k : Nat), k < cntN kd → (fitP kd k (s 69) ns → b_X7_tell_2 (nI kd) j s self (nI k) = self (nI (k + 1))) ∧ (¬ fitP kd k (s 69) ns → b_X7_tell_2 (nI kd) j s self (nI k) = some (-2, sts s 0 11 (s 0 11 + nI 1))) := by
    intro j self k hk
    obtain ⟨a, b⟩ := S_fits (t := 1) hh hkd hk (c := 69) rfl
    unfold b_X7_tell_2
    rw [tg 0 (by exact hkd) (by decide), ob_s, t1, ifle _ _ (by omega) (by omega), if_neg (by omega), nadd]
    constructor
    · intro h
      rw [a h, ob_s, if_neg (by decide)]
    · intro h
      rw [b h, ob_s, if_pos (show nI 0 = 0 from rfl)]
      rfl
  have fin : ∀ (j : Unit → Option (Int32 × Sg)) (self : Int32 → Option (Int32 × Sg)), b_X7_tell_2 (nI kd) j s self (nI (cntN kd)) = j () := by
    intro j self
    unfold b_X7_tell_2
    rw [tg 0 (by exact hkd) (by decide), ob_s, t1, ifle _ _ (by omega) (by omega), if_pos (by omega)]
  constructor
  · intro h
    unfold f_X7_tell
    rw [nm_eq]
    refine lp1_po (fun o => o = _) (fun d j => ∃ k, k + d = cntN kd ∧ j = nI k) ?_ fu (cntN kd) _ (fu_ge (by omega)) ⟨0, by omega, rfl⟩
    rintro self d j ⟨k, e1, rfl⟩
    by_cases q : k < cntN kd
    · right
      exact ⟨d - 1, _, by omega, (step _ self k q).1 (h k q), k + 1, by omega, rfl⟩
    · left
      rw [show k = cntN kd by omega, fin]
  · intro h
    unfold f_X7_tell
    rw [nm_eq]
    refine lp1_po (fun o => o = some (-2, sts s 0 11 (s 0 11 + nI 1))) (fun d j => ∃ k, k + d = cntN kd ∧ j = nI k ∧ ∀ m, m < k → fitP kd m (s 69) ns) ?_ fu (cntN kd) _ (fu_ge (by omega)) ⟨0, by omega, rfl, fun m hm => absurd hm (by omega)⟩
    rintro self d j ⟨k, e1, rfl, e2⟩
    by_cases q : k < cntN kd
    · by_cases q2 : fitP kd k (s 69) ns
      · right
        refine ⟨d - 1, _, by omega, (step _ self k q).1 q2, k + 1, by omega, rfl, fun m hm => ?_⟩
        by_cases q3 : m = k
        · subst q3; exact q2
        · exact e2 m (by omega)
      · left
        exact (step _ self k q).2 q2
    · exact absurd (fun m hm => e2 m (by omega)) h
end FITS
