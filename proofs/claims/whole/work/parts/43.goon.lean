/-! ROUND: the class, set by set -/
section GOON
variable {s : Sg} {N : Nat → Int32} {ns ne nr np x : Nat}
/-- from one set all is gone on, by streets below n -/
def CLS (N : Nat → Int32) (ns T : Nat) (e m : Nat → Nat) (S n : Nat) : Prop := ∀ i p q, i < n → T.testBit i = true → S.testBit i = false → AR N ns i p q → e (8 * (S ||| 2 ^ i) + q) ≤ soN e m S p 8 + cL N i
/-- one way over a street -/
theorem S_way {m e : Nat → Nat} (hm : M67 s m) (he : M68 s e) (hd : DM N ns x m) (hE : EE N ns x e) (hV : VN N ns ne nr np) {S i p q : Nat} (hS : S < 128) (hb : S.testBit i = false) (a : AR N ns i p q) : ∃ s2 e2, ((f_X6_soonest (nI S) (nI p) s).bind fun v12 => f_X6_reach (nI (S ||| 2 ^ i)) (nI q) (v12 + nI (cL N i)) s) = some s2 ∧ (∀ c, c ≠ 68 → s2 c = s c) ∧ M68 s2 e2 ∧ EE N ns x e2 ∧ (∀ k, k < 8 * (S + 1) → e2 k = e k) ∧ (∀ k, e2 k ≤ e k) ∧ e2 (8 * (S ||| 2 ^ i) + q) ≤ soN e m S p 8 + cL N i := by
  obtain ⟨b1, b2, b3, b4⟩ := hV.ar a
  have hS2 := or_128 hS b4
  have gt := or_gt hb
  have c1 := (soN_le (e := e) (m := m) (S := S) (p := p) 8).1
  have c2 := (hE (S ||| 2 ^ i) q hS2 b2).1
  rw [S_soonest hm he hd hE hS b1, ob_s, nadd]
  obtain ⟨s2, f1, f2, f3⟩ := S_reach he hS2 b2 (v := soN e m S p 8 + cL N i) (by omega) (by omega)
  refine ⟨s2, _, f1, f2, f3, hE.upd hS2 b2 ?_, fun k hk => updN_n _ _ (by omega), fun k => ?_, ?_⟩
  · by_cases g : 1000000 ≤ soN e m S p 8 + cL N i
    · exact Or.inl g
    · right
      rcases soN_ex hE hd hS b1 8 (Nat.le_refl _) with h | ⟨S2, h1, h2⟩
      · omega
      · exact ⟨S2 ||| 2 ^ i, h1.or _, h2.step a⟩
  · by_cases g : k = 8 * (S ||| 2 ^ i) + q
    · rw [g, updN_s]; omega
    · rw [updN_n _ _ g]; exact Nat.le_refl _
  · rw [updN_s]; omega
theorem S_goOn (h : TR s 1 N ns ne nr np) {m e : Nat → Nat} (hm : M67 s m) (he : M68 s e) (hd : DM N ns x m) (hE : EE N ns x e) {S T : Nat} (hS : S < 128) (hT : T < 128) : ∃ s2 e2, f_X6_goOn 2 (nI S) (nI T) s = some s2 ∧ (∀ c, c ≠ 68 → s2 c = s c) ∧ M68 s2 e2 ∧ EE N ns x e2 ∧ (∀ k, k < 8 * (S + 1) → e2 k = e k) ∧ (∀ k, e2 k ≤ e k) ∧ CLS N ns T e2 m S ns := by
  have hV := h.1
  have hns := hV.2.1.1
  unfold f_X6_goOn
  refine lp2_ix (fun o => ∃ (s2 : Sg) (e2 : Nat → Nat), o = some s2 ∧ (∀ c, c ≠ 68 → s2 c = s c) ∧ M68 s2 e2 ∧ EE N ns x e2 ∧ (∀ k, k < 8 * (S + 1) → e2 k = e k) ∧ (∀ k, e2 k ≤ e k) ∧ CLS N ns T e2 m S ns) (fun n (st : Sg) => ∃ e2 : Nat → Nat, (∀ c, c ≠ 68 → st c = s c) ∧ M68 st e2 ∧ EE N ns x e2 ∧ (∀ k, k < 8 * (S + 1) → e2 k = e k) ∧ (∀ k, e2 k ≤ e k) ∧ CLS N ns T e2 m S n) 0 ns (by omega) ?_ ?_ (by omega) s ⟨e, fun _ _ => rfl, he, hE, fun _ _ => rfl, fun _ => Nat.le_refl _, fun i p q hi => absurd hi (by omega)⟩
  · rintro self n st - hn ⟨e2, h1, h2, h3, h4, h5, h6⟩
    right
    obtain ⟨a1, a2, a3, a4, a5, a6⟩ := hV.co hn
    have tr : ∀ st : Sg, (∀ c, c ≠ 68 → st c = s c) → TR st 1 N ns ne nr np := fun st q => h.fr (fun c c1 c2 => q c (by omega))
    have cel : ∀ (st : Sg), TR st 1 N ns ne nr np → ∀ i, i < 4 → f_X2_cell 2 (nI n) (nI i) st = some (N (5 + 4 * n + i)) := fun st ht i hi => T_st ht T1 hn hi
    have ht := tr st h1
    unfold b_X6_goOn_3
    rw [S_size, ob_s, show st 2 2 = nI ns from ht.2.1.1.2, ifle _ _ (by omega) (by omega), if_neg (by omega), S_holds, ob_s, hb_out hS hT (by omega), nm_eq]
    by_cases g : (T.testBit n && !S.testBit n) = true
    · have gT : T.testBit n = true := by
        cases z : T.testBit n with
        | true => rfl
        | false => rw [z] at g; cases g
      have gS : S.testBit n = false := by
        cases z : S.testBit n with
        | false => rfl
        | true => rw [z, gT] at g; cases g
      rw [if_bi' _ _ g, cel st ht 0 (by decide), ob_s, Nat.add_zero, a1, cel st ht 1 (by decide), ob_s, a3, shlN n (by omega), nor, nm_eq, cel st ht 2 (by decide), ob_s, a5]
      obtain ⟨s3, e3, f1, f2, f3, f4, f5, f6, f7⟩ := S_way (s := st) (m := m) (fun k hk => by rw [h1 67 (by decide)]; exact hm k hk) h2 hd h3 hV hS gS (p := cA N n) (q := cB N n) ⟨hn, Or.inl ⟨rfl, rfl⟩⟩
      obtain ⟨s4, e4, g1, g2, g3, g4, g5, g6, g7⟩ := S_way (s := s3) (m := m) (fun k hk => by rw [f2 67 (by decide), h1 67 (by decide)]; exact hm k hk) f3 hd f4 hV hS gS (p := cB N n) (q := cA N n) ⟨hn, Or.inr ⟨rfl, rfl⟩⟩
      have so1 : ∀ p, soN e3 m S p 8 = soN e2 m S p 8 := fun p => soN_c (fun c hc => f5 _ (by omega))
      have so2 : ∀ p, soN e4 m S p 8 = soN e2 m S p 8 := fun p => (soN_c (fun c hc => g5 _ (by omega))).trans (so1 p)
      refine ⟨s4, ?_, e4, fun c hc => (g2 c hc).trans ((f2 c hc).trans (h1 c hc)), g3, g4, fun k hk => (g5 k hk).trans ((f5 k hk).trans (h4 k hk)), fun k => Nat.le_trans (g6 k) (Nat.le_trans (f6 k) (h5 k)), fun i p q hi hT2 hS2 a => ?_⟩
      · have f1' : ∀ (kk : Sg → Option Sg), ((f_X6_soonest (nI S) (nI (cA N n)) st).bind fun v12 => (f_X6_reach (nI (S ||| 2 ^ n)) (nI (cB N n)) (v12 + nI (cL N n)) st).bind kk) = kk s3 := by
          intro kk
          cases hz : f_X6_soonest (nI S) (nI (cA N n)) st with
          | none => rw [hz] at f1; cases f1
          | some v => rw [hz, ob_s] at f1; rw [ob_s, f1, ob_s]
        have g1' : ∀ (kk : Sg → Option Sg), ((f_X6_soonest (nI S) (nI (cB N n)) s3).bind fun v12 => (f_X6_reach (nI (S ||| 2 ^ n)) (nI (cA N n)) (v12 + nI (cL N n)) s3).bind kk) = kk s4 := by
          intro kk
          cases hz : f_X6_soonest (nI S) (nI (cB N n)) s3 with
          | none => rw [hz] at g1; cases g1
          | some v => rw [hz, ob_s] at g1; rw [ob_s, g1, ob_s]
        rw [f1', g1', nadd]
      · rw [so2]
        by_cases gi : i = n
        · subst gi
          rcases a.2 with ⟨rfl, rfl⟩ | ⟨rfl, rfl⟩
          · exact Nat.le_trans (g6 _) f7
          · rw [← so1]; exact g7
        · exact Nat.le_trans (g6 _) (Nat.le_trans (f6 _) (h6 i p q (by omega) hT2 hS2 a))
    · rw [if_bi0 _ _ g]
      dsimp only
      rw [nadd]
      refine ⟨st, rfl, e2, h1, h2, h3, h4, h5, fun i p q hi hT2 hS2 a => ?_⟩
      by_cases gi : i = n
      · subst gi
        exact absurd (by rw [hT2, hS2]; rfl) g
      · exact h6 i p q (by omega) hT2 hS2 a
  · rintro self st ⟨e2, h1, h2, h3, h4, h5, h6⟩
    have ht : TR st 1 N ns ne nr np := h.fr (fun c c1 c2 => h1 c (by omega))
    unfold b_X6_goOn_3
    rw [S_size, ob_s, show st 2 2 = nI ns from ht.2.1.1.2, ifle _ _ (by omega) (by omega), if_pos (by omega)]
    exact ⟨st, e2, rfl, h1, h2, h3, h4, h5, h6⟩
theorem S_far (j : Sg → Option (Int32 × Sg)) : ∃ s2, lp2_ (b_X6_shortest_29 j) fu (nI 0) s = j s2 ∧ (∀ c, c ≠ 68 → s2 c = s c) ∧ M68 s2 (fun _ => 1000000) := by
  refine lp2_ix (fun o => ∃ s2 : Sg, o = j s2 ∧ (∀ c, c ≠ 68 → s2 c = s c) ∧ M68 s2 (fun _ => 1000000)) (fun k (st : Sg) => (∀ c, c ≠ 68 → st c = s c) ∧ ∀ i, i < k → st 68 i = nI 1000000) 0 1024 (by omega) ?_ ?_ (by omega) s ⟨fun _ _ => rfl, fun i hi => absurd hi (by omega)⟩
  · rintro self k st - hk ⟨h1, h2⟩
    right
    unfold b_X6_shortest_29
    rw [show nI (alen 68) = nI 1024 from rfl, ifle _ _ (by omega) (by omega), if_neg (by omega), as _ 68 _ (show k < 1024 from hk), ob_s, nadd]
    refine ⟨_, rfl, fun c hc => (sts_n _ _ _ hc).trans (h1 c hc), fun i hi => ?_⟩
    by_cases e : i = k
    · rw [e, sts_s]
    · rw [sts_j _ _ _ e]; exact h2 i (by omega)
  · rintro self st ⟨h1, h2⟩
    unfold b_X6_shortest_29
    rw [show nI (alen 68) = nI 1024 from rfl, ifle _ _ (by omega) (by omega), if_pos (by omega)]
    exact ⟨st, rfl, h1, h2⟩
theorem S_shortest (h : TR s 1 N ns ne nr np) {T : Nat} (hx : x < 8) (hT : T < 128) : ∃ s2 V, f_X6_shortest 2 (nI x) (nI T) s = some (if 1000000 ≤ V then -1 else nI V, s2) ∧ (∀ c, c ≠ 67 → c ≠ 68 → s2 c = s c) ∧ SHT N ns x T V := by
  have hV := h.1
  unfold f_X6_shortest
  rw [S_isBelow, ob_s, bi_B (by omega) (by decide), if_bi, if_pos hx, S_isBelow, ob_s, bi_B (by omega) (by decide), if_bi, if_pos hT]
  obtain ⟨s1, m, a1, a2, a3, a4, a5, a6⟩ := S_measure h x
  rw [a1, ob_s, nm_eq]
  obtain ⟨s2, b1, b2, b3⟩ := S_far (s := s1) (fun (s4 : Sg) => (aset s4 68 (nI x) (nI 0)).bind fun s6 => nm_ (fun (s7 : Sg) => nm_ (fun (a9 : Int32) => if (nI 1000000) ≤ a9 then some (-1, s7) else some (a9, s7)) fun j10 => lp2_ (b_X6_shortest_100 j10 s7 (nI T)) fu (nI 1000000) (nI 0)) fun j8 => lp2_ (b_X6_shortest_64 (nI T) j8 2) fu (nI 0) s6)
  rw [b1, as _ 68 _ (show x < 1024 by omega), ob_s, nm_eq]
  have c0 : ∀ c, c ≠ 67 → c ≠ 68 → sts s2 68 x (nI 0) c = s c := fun c c1 c2 => by rw [sts_n _ _ _ c2, b2 c c2, a2 c c1]
  have c1 : M67 (sts s2 68 x (nI 0)) m := fun k hk => by rw [sts_n _ _ _ (by decide), b2 67 (by decide)]; exact a3 k hk
  have c2 : M68 (sts s2 68 x (nI 0)) (updN (fun _ => 1000000) x 0) := fun k hk => by
    by_cases e : k = x
    · rw [e, sts_s, updN_s]
    · rw [sts_j _ _ _ e, updN_n _ _ e]; exact b3 k hk
  have c3 : EE N ns x (updN (fun _ => 1000000) x 0) := by
    have e0 : EE N ns x (fun _ => 1000000) := fun S c _ _ => ⟨Nat.le_refl _, Or.inl rfl⟩
    have := e0.upd (S := 0) (q := x) (v := 0) (by decide) hx (Or.inr ⟨0, SB.rf 0, WK.nil⟩)
    rw [Nat.mul_zero, Nat.zero_add, Nat.zero_min] at this
    exact this
  generalize sts s2 68 x (nI 0) = s3 at c0 c1 c2
  refine lp2_ix (fun o => ∃ (s2 : Sg) (V : Nat), o = some (if 1000000 ≤ V then -1 else nI V, s2) ∧ (∀ c, c ≠ 67 → c ≠ 68 → s2 c = s c) ∧ SHT N ns x T V) (fun t (st : Sg) => ∃ e : Nat → Nat, (∀ c, c ≠ 67 → c ≠ 68 → st c = s c) ∧ M67 st m ∧ M68 st e ∧ EE N ns x e ∧ e x = 0 ∧ CLO N ns T e m t) 0 T (by omega) ?_ ?_ (by omega) s3 ⟨_, c0, c1, c2, c3, updN_s _ _ _, fun S hS => absurd hS (by omega)⟩
  · rintro self t st - ht ⟨e, h1, h2, h3, h4, h5, h6⟩
    right
    unfold b_X6_shortest_64
    rw [ifle _ _ (by omega) (by omega), if_neg (by omega), nm_eq, nand, ife _ _ (Nat.lt_of_le_of_lt Nat.and_le_left (by omega)) (by omega)]
    by_cases g : t &&& T = t
    · rw [if_pos g]
      obtain ⟨s4, e4, f1, f2, f3, f4, f5, f6, f7⟩ := S_goOn (s := st) (h.fr (fun c c1 c2 => h1 c (by omega) (by omega))) h2 h3 a4 h4 (S := t) (T := T) (by omega) hT
      rw [f1, ob_s, nadd]
      refine ⟨s4, rfl, e4, fun c c1 c2 => (f2 c c2).trans (h1 c c1 c2), fun k hk => by rw [f2 67 (by decide)]; exact h2 k hk, f3, f4, (f5 x (by omega)).trans h5, fun S hS hS2 i p q hT2 hS3 a => ?_⟩
      by_cases gi : S = t
      · subst gi
        exact f7 i p q a.1 hT2 hS3 a
      · rw [soN_c (e := e) (fun c hc => f5 _ (by omega))]
        exact Nat.le_trans (f6 _) (h6 S (by omega) hS2 i p q hT2 hS3 a)
    · rw [if_neg g]
      dsimp only
      rw [nadd]
      refine ⟨st, rfl, e, h1, h2, h3, h4, h5, fun S hS hS2 i p q hT2 hS3 a => ?_⟩
      by_cases gi : S = t
      · subst gi; exact absurd hS2 g
      · exact h6 S (by omega) hS2 i p q hT2 hS3 a
  · rintro self st ⟨e, h1, h2, h3, h4, h5, h6⟩
    unfold b_X6_shortest_64
    rw [ifle _ _ (by omega) (by omega), if_pos (by omega)]
    dsimp only
    rw [nm_eq]
    refine lp2_ax (fun o => ∃ (s2 : Sg) (V : Nat), o = some (if 1000000 ≤ V then -1 else nI V, s2) ∧ (∀ c, c ≠ 67 → c ≠ 68 → s2 c = s c) ∧ SHT N ns x T V) (fun k (v : Int32) => v = nI (loN e T k)) 0 8 (by omega) ?_ ?_ (by omega) _ rfl
    · rintro self2 k v - hk rfl
      right
      have q1 := (h4 T k hT hk).1
      have q2 := (loN_le (e := e) (T := T) k).1
      unfold b_X6_shortest_100
      rw [ifle _ _ (by omega) (by omega), if_neg (by omega), nmul, nadd, show T * 8 + k = 8 * T + k by omega, ag _ 68 (show 8 * T + k < 1024 by omega) (by omega), ob_s, h3 _ (by omega), if_min (by omega) (by omega), nm_eq, nadd]
      exact ⟨_, rfl, rfl⟩
    · rintro self2 v rfl
      have q2 := (loN_le (e := e) (T := T) 8).1
      unfold b_X6_shortest_100
      rw [ifle _ _ (by omega) (by omega), if_pos (by omega)]
      dsimp only
      rw [ifle _ _ (by omega) (by omega)]
      refine ⟨st, loN e T 8, ?_, h1, loN_sht hV hx hT a4 a5 a6 h4 h5 h6⟩
      by_cases g : 1000000 ≤ loN e T 8
      · rw [if_pos g, if_pos g]
      · rw [if_neg g, if_neg g]
end GOON
