/-! ROUND: the class -/
def M67 (s : Sg) (m : Nat → Nat) : Prop := ∀ k, k < 64 → s 67 k = nI (m k)
def M68 (s : Sg) (e : Nat → Nat) : Prop := ∀ k, k < 1024 → s 68 k = nI (e k)
theorem if_min {a b : Nat} (ha : a < 2147483648) (hb : b < 2147483648) : (if nI a < nI b then nI a else nI b) = nI (min a b) := by
  rw [ifl _ _ ha hb]
  by_cases h : a < b
  · rw [if_pos h, Nat.min_eq_left (by omega)]
  · rw [if_neg h, Nat.min_eq_right (by omega)]
section SHORT
variable {s : Sg} {N : Nat → Int32} {ns ne nr np x : Nat}
theorem S_shorten {m : Nat → Nat} (h : M67 s m) {p q v : Nat} (hp : p < 8) (hq : q < 8) (hv : v < 2147483648) (hm : m (8 * p + q) < 2147483648) : ∃ s2, f_X6_shorten (nI p) (nI q) (nI v) s = some s2 ∧ (∀ c, c ≠ 67 → s2 c = s c) ∧ M67 s2 (updN m (8 * p + q) (min v (m (8 * p + q)))) := by
  unfold f_X6_shorten
  rw [S_isBelow, ob_s, bi_B (by omega) (by decide), if_bi, if_pos hp, S_isBelow, ob_s, bi_B (by omega) (by decide), if_bi, if_pos hq, nmul, nadd, show p * 8 + q = 8 * p + q by omega, ag _ 67 (show 8 * p + q < 64 by omega) (by omega), ob_s, h _ (by omega), if_min hv hm, nm_eq, as _ 67 _ (show 8 * p + q < 64 by omega), ob_s]
  refine ⟨_, rfl, fun c hc => sts_n _ _ _ hc, fun k hk => ?_⟩
  by_cases e : k = 8 * p + q
  · rw [e, sts_s, updN_s]
  · rw [sts_j _ _ _ e, updN_n _ _ e]; exact h k hk
def m0N : Nat → Nat := fun k => if k / 8 = k % 8 then 0 else 1000000
theorem S_meas1 (j : Sg → Option Sg) : ∃ s2, lp2_ (b_X6_measure_2 j) fu (nI 0) s = j s2 ∧ (∀ c, c ≠ 67 → s2 c = s c) ∧ M67 s2 m0N := by
  refine lp2_ix (fun o => ∃ s2 : Sg, o = j s2 ∧ (∀ c, c ≠ 67 → s2 c = s c) ∧ M67 s2 m0N) (fun k (st : Sg) => (∀ c, c ≠ 67 → st c = s c) ∧ ∀ i, i < k → st 67 i = nI (m0N i)) 0 64 (by omega) ?_ ?_ (by omega) s ⟨fun _ _ => rfl, fun i hi => absurd hi (by omega)⟩
  · rintro self k st - hk ⟨h1, h2⟩
    right
    unfold b_X6_measure_2
    rw [show nI (alen 67) = nI 64 from rfl, ifle _ _ (by omega) (by omega), if_neg (by omega), nm_eq, pk_div (by omega) (by decide) (by decide), ← pk_div (a := k) (d := 8) (by omega) (by decide) (by decide), pk_rem (by omega) (by decide) (by decide), pk_div (by omega) (by decide) (by decide), ife _ _ (by omega) (by omega)]
    have : (if k / 8 = k % 8 then (fun (a34 : Int32) => (aset st 67 (nI k) a34).bind fun s36 => self (nI k + nI 1) s36) (nI 0) else (fun (a34 : Int32) => (aset st 67 (nI k) a34).bind fun s36 => self (nI k + nI 1) s36) (nI 1000000)) = self (nI (k + 1)) (sts st 67 k (nI (m0N k))) := by
      unfold m0N
      by_cases g : k / 8 = k % 8
      · rw [if_pos g, if_pos g]
        dsimp only
        rw [as _ 67 _ (show k < 64 from hk), ob_s, nadd]
      · rw [if_neg g, if_neg g]
        dsimp only
        rw [as _ 67 _ (show k < 64 from hk), ob_s, nadd]
    refine ⟨_, this, fun c hc => (sts_n _ _ _ hc).trans (h1 c hc), fun i hi => ?_⟩
    by_cases e : i = k
    · rw [e, sts_s]
    · rw [sts_j _ _ _ e]; exact h2 i (by omega)
  · rintro self st ⟨h1, h2⟩
    unfold b_X6_measure_2
    rw [show nI (alen 67) = nI 64 from rfl, ifle _ _ (by omega) (by omega), if_pos (by omega)]
    exact ⟨st, rfl, h1, h2⟩
theorem DM.m0 : DM N ns x m0N := by
  refine ⟨fun c d hc hd => ?_, fun c hc => ?_, fun c d hc hd => ?_⟩
  · unfold m0N; split <;> omega
  · unfold m0N; rw [if_pos (by omega)]
  · unfold m0N
    by_cases g : c = d
    · subst g; rw [if_pos (by omega)]; exact Or.inr (EXT.z c)
    · rw [if_neg (by omega)]; exact Or.inl rfl
theorem S_meas2 (h : TR s 1 N ns ne nr np) {m : Nat → Nat} (hm : M67 s m) (hd : DM N ns x m) (j : Sg → Option Sg) : ∃ s2 m2, lp2_ (b_X6_measure_42 2 j) fu (nI 0) s = j s2 ∧ (∀ c, c ≠ 67 → s2 c = s c) ∧ M67 s2 m2 ∧ DM N ns x m2 ∧ DA N ns m2 ns := by
  have hV := h.1
  have hns := hV.2.1.1
  refine lp2_ix (fun o => ∃ (s2 : Sg) (m2 : Nat → Nat), o = j s2 ∧ (∀ c, c ≠ 67 → s2 c = s c) ∧ M67 s2 m2 ∧ DM N ns x m2 ∧ DA N ns m2 ns) (fun k (st : Sg) => ∃ m2 : Nat → Nat, (∀ c, c ≠ 67 → st c = s c) ∧ M67 st m2 ∧ DM N ns x m2 ∧ DA N ns m2 k) 0 ns (by omega) ?_ ?_ (by omega) s ⟨m, fun _ _ => rfl, hm, hd, fun i p q hi => absurd hi (by omega)⟩
  · rintro self k st - hk ⟨m2, h1, h2, h3, h4⟩
    right
    obtain ⟨a1, a2, a3, a4, a5, a6⟩ := hV.co hk
    have ht : TR st 1 N ns ne nr np := h.fr (fun c c1 c2 => h1 c (by omega))
    unfold b_X6_measure_42
    have cel : ∀ (st : Sg), TR st 1 N ns ne nr np → ∀ i, i < 4 → f_X2_cell 2 (nI k) (nI i) st = some (N (5 + 4 * k + i)) := fun st ht i hi => T_st ht T1 hk hi
    rw [S_size, ob_s, show st 2 2 = nI ns from ht.2.1.1.2, ifle _ _ (by omega) (by omega), if_neg (by omega), cel st ht 0 (by decide), ob_s, Nat.add_zero, a1, cel st ht 1 (by decide), ob_s, a3, cel st ht 2 (by decide), ob_s, a5]
    obtain ⟨s3, e1, e2, e3⟩ := S_shorten h2 a2 a4 (v := cL N k) (by omega) (by have := h3.1 (cA N k) (cB N k) a2 a4; omega)
    have d3 := h3.upd (p := cA N k) (q := cB N k) (v := cL N k) a2 a4 (Or.inr (EXT.ar ⟨hk, Or.inl ⟨rfl, rfl⟩⟩))
    have g3 := h4.upd (p := cA N k) (q := cB N k) (v := cL N k)
    have k3 : updN m2 (8 * cA N k + cB N k) (min (cL N k) (m2 (8 * cA N k + cB N k))) (8 * cA N k + cB N k) ≤ cL N k := by rw [updN_s]; omega
    generalize updN m2 (8 * cA N k + cB N k) (min (cL N k) (m2 (8 * cA N k + cB N k))) = m3 at e3 d3 g3 k3
    have ht3 : TR s3 1 N ns ne nr np := ht.fr (fun c c1 c2 => e2 c (by omega))
    rw [e1, ob_s, cel s3 ht3 2 (by decide), ob_s, a5]
    obtain ⟨s4, f1, f2, f3⟩ := S_shorten e3 a4 a2 (v := cL N k) (by omega) (by have := d3.1 (cB N k) (cA N k) a4 a2; omega)
    have d4 := d3.upd (p := cB N k) (q := cA N k) (v := cL N k) a4 a2 (Or.inr (EXT.ar ⟨hk, Or.inr ⟨rfl, rfl⟩⟩))
    have g4 := g3.upd (p := cB N k) (q := cA N k) (v := cL N k)
    have k4 : updN m3 (8 * cB N k + cA N k) (min (cL N k) (m3 (8 * cB N k + cA N k))) (8 * cB N k + cA N k) ≤ cL N k := by rw [updN_s]; omega
    have k5 : updN m3 (8 * cB N k + cA N k) (min (cL N k) (m3 (8 * cB N k + cA N k))) (8 * cA N k + cB N k) ≤ cL N k := by
      by_cases e : 8 * cA N k + cB N k = 8 * cB N k + cA N k
      · rw [e]; exact k4
      · rw [updN_n _ _ e]; exact k3
    generalize updN m3 (8 * cB N k + cA N k) (min (cL N k) (m3 (8 * cB N k + cA N k))) = m4 at f3 d4 g4 k4 k5
    rw [f1, ob_s, nadd]
    refine ⟨s4, rfl, m4, fun c hc => (f2 c hc).trans ((e2 c hc).trans (h1 c hc)), f3, d4, fun i p q hi a => ?_⟩
    by_cases g : i = k
    · subst g
      rcases a.2 with ⟨rfl, rfl⟩ | ⟨rfl, rfl⟩
      · exact k5
      · exact k4
    · exact g4 i p q (by omega) a
  · rintro self st ⟨m2, h1, h2, h3, h4⟩
    have ht : TR st 1 N ns ne nr np := h.fr (fun c c1 c2 => h1 c (by omega))
    unfold b_X6_measure_42
    rw [S_size, ob_s, show st 2 2 = nI ns from ht.2.1.1.2, ifle _ _ (by omega) (by omega), if_pos (by omega)]
    exact ⟨st, m2, rfl, h1, h2, h3, h4⟩
theorem FWf_0 (m : Nat → Nat) (k : Nat) : FWf m k 0 = m := by
  funext i
  unfold FWf
  rw [if_neg (by omega)]
theorem S_phase {m : Nat → Nat} (hm : M67 s m) (hd : DM N ns x m) {k : Nat} (hk : k < 8) (j : Sg → Option Sg) : ∃ s2, lp2_ (b_X6_measure_107 j (nI k)) fu (nI 0) s = j s2 ∧ (∀ c, c ≠ 67 → s2 c = s c) ∧ M67 s2 (FWf m k 64) := by
  refine lp2_ix (fun o => ∃ s2 : Sg, o = j s2 ∧ (∀ c, c ≠ 67 → s2 c = s c) ∧ M67 s2 (FWf m k 64)) (fun i (st : Sg) => (∀ c, c ≠ 67 → st c = s c) ∧ M67 st (FWf m k (8 * i))) 0 8 (by omega) ?_ ?_ (by omega) s ⟨fun _ _ => rfl, by rw [FWf_0]; exact hm⟩
  · rintro self i st - hi ⟨h1, h2⟩
    right
    unfold b_X6_measure_107
    rw [ifle _ _ (by omega) (by omega), if_neg (by omega), nm_eq]
    refine lp2_ix (fun o => ∃ st2 : Sg, o = self (nI (i + 1)) st2 ∧ (∀ c, c ≠ 67 → st2 c = s c) ∧ M67 st2 (FWf m k (8 * (i + 1)))) (fun d (st : Sg) => (∀ c, c ≠ 67 → st c = s c) ∧ M67 st (FWf m k (8 * i + d))) 0 8 (by omega) ?_ ?_ (by omega) st ⟨h1, h2⟩
    · rintro self2 d st2 - h6 ⟨h7, h8⟩
      right
      have z := hd.2.1 k hk
      have r1 := FWf_r m (t := 8 * i + d) (c := i) hk z
      have r2 := FWf_c m (k := k) (t := 8 * i + d) h6 z
      have r3 : FWf m k (8 * i + d) (8 * i + d) = m (8 * i + d) := by unfold FWf; rw [if_neg (by omega)]
      have q1 := hd.1 i k hi hk
      have q2 := hd.1 k d hk h6
      have q3 := hd.1 i d hi h6
      obtain ⟨s3, e1, e2, e3⟩ := S_shorten h8 hi h6 (v := m (8 * i + k) + m (8 * k + d)) (by omega) (by rw [r3]; omega)
      unfold b_X6_measure_116
      rw [ifle _ _ (by omega) (by omega), if_neg (by omega), nmul, nadd, nmul, nadd, show i * 8 + k = 8 * i + k by omega, show k * 8 + d = 8 * k + d by omega, ag _ 67 (show 8 * i + k < 64 by omega) (by omega), ob_s, ag _ 67 (show 8 * k + d < 64 by omega) (by omega), ob_s, h8 _ (by omega), h8 _ (by omega), r1, r2, nadd, e1, ob_s, nadd]
      refine ⟨s3, rfl, fun c hc => (e2 c hc).trans (h7 c hc), fun y hy => ?_⟩
      rw [e3 y hy, r3]
      congr 1
      by_cases g : y = 8 * i + d
      · rw [g, updN_s, FWf_in m k h6 (by omega)]
      · rw [updN_n _ _ g]
        unfold FWf
        by_cases g2 : y < 8 * i + d
        · rw [if_pos g2, if_pos (by omega)]
        · rw [if_neg g2, if_neg (by omega)]
    · rintro self2 st2 ⟨h7, h8⟩
      unfold b_X6_measure_116
      rw [ifle _ _ (by omega) (by omega), if_pos (by omega)]
      dsimp only
      rw [nadd]
      exact ⟨st2, rfl, h7, h8⟩
  · rintro self st ⟨h1, h2⟩
    unfold b_X6_measure_107
    rw [ifle _ _ (by omega) (by omega), if_pos (by omega)]
    exact ⟨st, rfl, h1, h2⟩
theorem S_measure (h : TR s 1 N ns ne nr np) (x : Nat) : ∃ s2 m, f_X6_measure 2 s = some s2 ∧ (∀ c, c ≠ 67 → s2 c = s c) ∧ M67 s2 m ∧ DM N ns x m ∧ DA N ns m ns ∧ TI m 8 := by
  have hV := h.1
  unfold f_X6_measure
  rw [nm_eq]
  obtain ⟨s1, e1, e2, e3⟩ := S_meas1 (s := s) (fun s1 => nm_ (fun (s3 : Sg) => lp2_ (b_X6_measure_99) fu (nI 0) s3) fun j4 => lp2_ (b_X6_measure_42 2 j4) fu (nI 0) s1)
  rw [e1, nm_eq]
  obtain ⟨s2, m2, f1, f2, f3, f4, f5⟩ := S_meas2 (s := s1) (x := x) (h.fr (fun c c1 c2 => e2 c (by omega))) e3 DM.m0 (fun (s3 : Sg) => lp2_ (b_X6_measure_99) fu (nI 0) s3)
  rw [f1]
  refine lp2_ix (fun o => ∃ (s2 : Sg) (m : Nat → Nat), o = some s2 ∧ (∀ c, c ≠ 67 → s2 c = s c) ∧ M67 s2 m ∧ DM N ns x m ∧ DA N ns m ns ∧ TI m 8) (fun k (st : Sg) => ∃ m : Nat → Nat, (∀ c, c ≠ 67 → st c = s c) ∧ M67 st m ∧ DM N ns x m ∧ DA N ns m ns ∧ TI m k) 0 8 (by omega) ?_ ?_ (by omega) s2 ⟨m2, fun c hc => (f2 c hc).trans (e2 c hc), f3, f4, f5, fun l hl => absurd hl (by omega)⟩
  · rintro self k st - hk ⟨m, h1, h2, h3, h4, h5⟩
    right
    unfold b_X6_measure_99
    rw [ifle _ _ (by omega) (by omega), if_neg (by omega), nm_eq]
    obtain ⟨s3, g1, g2, g3⟩ := S_phase h2 h3 hk (fun (s8 : Sg) => self (nI k + nI 1) s8)
    rw [g1, nadd]
    exact ⟨s3, rfl, FWf m k 64, fun c hc => (g2 c hc).trans (h1 c hc), g3, h3.fw hk, h4.fw hV, TI.fw h3 hk h5⟩
  · rintro self st ⟨m, h1, h2, h3, h4, h5⟩
    unfold b_X6_measure_99
    rw [ifle _ _ (by omega) (by omega), if_pos (by omega)]
    exact ⟨st, m, rfl, h1, h2, h3, h4, h5⟩
theorem S_soonest {m e : Nat → Nat} (hm : M67 s m) (he : M68 s e) (hd : DM N ns x m) (hE : EE N ns x e) {S p : Nat} (hS : S < 128) (hp : p < 8) : f_X6_soonest (nI S) (nI p) s = some (nI (soN e m S p 8)) := by
  unfold f_X6_soonest
  rw [S_isBelow, ob_s, bi_B (by omega) (by decide), if_bi, if_pos hp]
  refine lp2_ax (fun o => o = some (nI (soN e m S p 8))) (fun k (st : Int32) => st = nI (soN e m S p k)) 0 8 (by omega) ?_ ?_ (by omega) _ rfl
  · rintro self k st - hk rfl
    right
    have b1 := (hE S k hS hk).1
    have b2 := hd.1 k p hk hp
    have b3 := (soN_le (e := e) (m := m) (S := S) (p := p) k).1
    unfold b_X6_soonest_17
    rw [ifle _ _ (by omega) (by omega), if_neg (by omega), nmul, nadd, nmul, nadd, show S * 8 + k = 8 * S + k by omega, show k * 8 + p = 8 * k + p by omega, ag _ 68 (show 8 * S + k < 1024 by omega) (by omega), ob_s, ag _ 67 (show 8 * k + p < 64 by omega) (by omega), ob_s, he _ (by omega), hm _ (by omega), nadd, if_min (by omega) (by omega), nm_eq, nadd]
    exact ⟨_, rfl, rfl⟩
  · rintro self st rfl
    unfold b_X6_soonest_17
    rw [ifle _ _ (by omega) (by omega), if_pos (by omega)]
theorem S_reach {e : Nat → Nat} (he : M68 s e) {S q v : Nat} (hS : S < 128) (hq : q < 8) (hv : v < 2147483648) (hm : e (8 * S + q) < 2147483648) : ∃ s2, f_X6_reach (nI S) (nI q) (nI v) s = some s2 ∧ (∀ c, c ≠ 68 → s2 c = s c) ∧ M68 s2 (updN e (8 * S + q) (min v (e (8 * S + q)))) := by
  unfold f_X6_reach
  rw [S_isBelow, ob_s, bi_B (by omega) (by decide), if_bi, if_pos hq, nmul, nadd, show S * 8 + q = 8 * S + q by omega, nm_eq, ag _ 68 (show 8 * S + q < 1024 by omega) (by omega), ob_s, he _ (by omega), if_min hv hm, nm_eq, as _ 68 _ (show 8 * S + q < 1024 by omega), ob_s]
  refine ⟨_, rfl, fun c hc => sts_n _ _ _ hc, fun k hk => ?_⟩
  by_cases e : k = 8 * S + q
  · rw [e, sts_s, updN_s]
  · rw [sts_j _ _ _ e, updN_n _ _ e]; exact he k hk
theorem not127 : ∀ S, S < 128 → nI 127 &&& (nI S ^^^ -1) = nI (127 - S) := by decide +kernel
theorem not127b : ∀ S, S < 128 → ∀ i, i < 7 → (127 - S).testBit i = !S.testBit i := by decide +kernel
theorem and127 : ∀ T, T < 128 → T &&& 127 = T := by decide +kernel
theorem hb_out {S T i : Nat} (hS : S < 128) (hT : T < 128) (hi : i < 7) : hb (nI T &&& (nI S ^^^ -1)) i = (T.testBit i && !S.testBit i) := by
  rw [show nI T = nI T &&& nI 127 by rw [nand, and127 T hT], Int32.and_assoc, not127 S hS, nand, hb_bit _ (Nat.lt_of_le_of_lt Nat.and_le_left (by omega)) i (by omega), Nat.testBit_and, not127b S hS i hi]
theorem or_gt {S i : Nat} (h : S.testBit i = false) : S < S ||| 2 ^ i := by
  have h1 : S ≤ S ||| 2 ^ i := Nat.left_le_or
  have h2 : S ≠ S ||| 2 ^ i := by
    intro e
    have : (S ||| 2 ^ i).testBit i = true := by rw [Nat.testBit_or, Nat.testBit_two_pow]; simp
    rw [← e, h] at this
    cases this
  omega
end SHORT
