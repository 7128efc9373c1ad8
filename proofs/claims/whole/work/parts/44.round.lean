/-! ROUND: the reference -/
def M87 (s : Sg) (d : Nat → Nat) : Prop := ∀ k, k < 1024 → s 87 k = nI (d k)
def sumD (d : Nat → Nat) : Nat → Nat
  | 0 => 0
  | n + 1 => sumD d n + d n
theorem sumD_le {d e : Nat → Nat} (h : ∀ k, d k ≤ e k) : ∀ n, sumD d n ≤ sumD e n
  | 0 => Nat.le_refl _
  | n + 1 => Nat.add_le_add (sumD_le h n) (h n)
theorem sumD_lt {d e : Nat → Nat} (h : ∀ k, d k ≤ e k) : ∀ n k, k < n → d k < e k → sumD d n < sumD e n
  | 0, k, hk, _ => absurd hk (by omega)
  | n + 1, k, hk, hl => by
    show sumD d n + d n < sumD e n + e n
    by_cases g : k = n
    · subst g
      exact Nat.add_lt_add_of_le_of_lt (sumD_le h k) hl
    · exact Nat.add_lt_add_of_lt_of_le (sumD_lt h n k (by omega) hl) (h n)
theorem sumD_top {d : Nat → Nat} : ∀ n, n ≤ 1024 → (∀ k, k < n → d k ≤ 1000000) → sumD d n ≤ n * 1000000
  | 0, _, _ => by show 0 ≤ _; omega
  | n + 1, hn, h => by
    have := sumD_top n (by omega) (fun k hk => h k (by omega))
    have := h n (by omega)
    show sumD d n + d n ≤ _
    omega
section ROUND8
variable {s : Sg} {N : Nat → Int32} {ns ne nr np x : Nat}
def EF (N : Nat → Int32) (ns x : Nat) (d : Nat → Nat) : Prop := ∀ c S, c < 8 → S < 128 → d (128 * c + S) ≤ 1000000 ∧ (d (128 * c + S) = 1000000 ∨ WK N ns x c S (d (128 * c + S)))
theorem EF.k {d : Nat → Nat} (h : EF N ns x d) {k : Nat} (hk : k < 1024) : d k ≤ 1000000 := by
  have := (h (k / 128) (k % 128) (by omega) (by omega)).1
  rw [show 128 * (k / 128) + k % 128 = k by omega] at this
  exact this
theorem EF.upd {d : Nat → Nat} (h : EF N ns x d) {q S v : Nat} (hq : q < 8) (hS : S < 128) (hv : 1000000 ≤ v ∨ WK N ns x q S v) : EF N ns x (updN d (128 * q + S) (min v (d (128 * q + S)))) := by
  intro c S1 hc h1
  obtain ⟨a1, a2⟩ := h c S1 hc h1
  by_cases g : 128 * c + S1 = 128 * q + S
  · obtain ⟨rfl, rfl⟩ : c = q ∧ S1 = S := by omega
    rw [updN_s]
    refine ⟨by omega, ?_⟩
    by_cases g2 : v < d (128 * c + S1)
    · rw [Nat.min_eq_left (by omega)]
      rcases hv with hv | hv
      · omega
      · exact Or.inr hv
    · rw [Nat.min_eq_right (by omega)]
      exact a2
  · rw [updN_n _ _ g]
    exact ⟨a1, a2⟩
def CLR (N : Nat → Int32) (d : Nat → Nat) (i p q n : Nat) : Prop := ∀ S, S < n → d (128 * q + (S ||| 2 ^ i)) ≤ d (128 * p + S) + cL N i
/-- what a part of a pass leaves: nothing new, and all is closed; or something less -/
def PAS (C : Prop) (f : Int32) (d d0 : Nat → Nat) : Prop := (f = nI 0 ∧ (∀ k, d k = d0 k) ∧ C) ∨ (f = nI 1 ∧ ∃ k, k < 1024 ∧ d k < d0 k)
theorem S8_along (h71 : s 71 = N) (hV : VN N ns ne nr np) {d : Nat → Nat} (hd : M87 s d) (hE : EF N ns x d) {i p q : Nat} (a : AR N ns i p q) : ∃ f s2 d2, f_X8_goAlong (nI i) (nI p) (nI q) s = some (f, s2) ∧ (∀ c, c ≠ 87 → s2 c = s c) ∧ M87 s2 d2 ∧ EF N ns x d2 ∧ (∀ k, d2 k ≤ d k) ∧ PAS (CLR N d2 i p q 128) f d2 d := by
  obtain ⟨b1, b2, b3, b4⟩ := hV.ar a
  obtain ⟨_, _, _, _, a5, _⟩ := hV.co a.1
  unfold f_X8_goAlong
  refine lp3_ax (fun o => ∃ (f : Int32) (s2 : Sg) (d2 : Nat → Nat), o = some (f, s2) ∧ (∀ c, c ≠ 87 → s2 c = s c) ∧ M87 s2 d2 ∧ EF N ns x d2 ∧ (∀ k, d2 k ≤ d k) ∧ PAS (CLR N d2 i p q 128) f d2 d) (fun S (f : Int32) (st : Sg) => ∃ d2 : Nat → Nat, (∀ c, c ≠ 87 → st c = s c) ∧ M87 st d2 ∧ EF N ns x d2 ∧ (∀ k, d2 k ≤ d k) ∧ PAS (CLR N d2 i p q S) f d2 d) 0 128 (by omega) ?_ ?_ (by omega) (nI 0) s ⟨d, fun _ _ => rfl, hd, hE, fun _ => Nat.le_refl _, Or.inl ⟨rfl, fun _ => rfl, fun S hS => absurd hS (by omega)⟩⟩
  · rintro self S f st - hS ⟨d2, h1, h2, h3, h4, h5⟩
    right
    have hS2 := or_128 hS b4
    have e71 : st 71 = N := (h1 71 (by decide)).trans h71
    have c1 := (h3 p S b1 hS).1
    have c2 := (h3 q (S ||| 2 ^ i) b2 hS2).1
    unfold b_X8_goAlong_6
    rw [ifle _ _ (by omega) (by omega), if_neg (by omega), nmul, nadd, ag _ 87 (show 128 * p + S < 1024 by omega) (by omega), ob_s, h2 _ (by omega), S8_has e71 b4 (show 2 < 4 by decide), ob_s, a5, nadd, nm_eq, shlN i (by omega), nor, nmul, nadd, nm_eq, nm_eq, nm_eq]
    have hA : aget st 87 (nI (128 * q + (S ||| 2 ^ i))) = some (nI (d2 (128 * q + (S ||| 2 ^ i)))) := by rw [ag _ 87 (show 128 * q + (S ||| 2 ^ i) < 1024 by omega) (by omega), h2 _ (by omega)]
    have h10 : ∀ a9 : Int32, ((aget st 87 (nI (128 * q + (S ||| 2 ^ i)))).bind fun v11 => nm_ (fun (a12 : Int32) => (aset st 87 (nI (128 * q + (S ||| 2 ^ i))) a12).bind fun s14 => self a9 (nI S + nI 1) s14) fun j13 => if v11 ≤ nI (d2 (128 * p + S) + cL N i) then (aget st 87 (nI (128 * q + (S ||| 2 ^ i)))).bind fun v15 => j13 v15 else j13 (nI (d2 (128 * p + S) + cL N i))) = self a9 (nI (S + 1)) (sts st 87 (128 * q + (S ||| 2 ^ i)) (nI (min (d2 (128 * p + S) + cL N i) (d2 (128 * q + (S ||| 2 ^ i)))))) := by
      intro a9
      rw [hA, ob_s, nm_eq, ob_s, ifle _ _ (by omega) (by omega)]
      by_cases g : d2 (128 * q + (S ||| 2 ^ i)) ≤ d2 (128 * p + S) + cL N i
      · rw [if_pos g, Nat.min_eq_right (by omega)]
        dsimp only
        rw [as _ 87 _ (show 128 * q + (S ||| 2 ^ i) < 1024 by omega), ob_s, nadd]
      · rw [if_neg g, Nat.min_eq_left (by omega)]
        dsimp only
        rw [as _ 87 _ (show 128 * q + (S ||| 2 ^ i) < 1024 by omega), ob_s, nadd]
    have hM : M87 (sts st 87 (128 * q + (S ||| 2 ^ i)) (nI (min (d2 (128 * p + S) + cL N i) (d2 (128 * q + (S ||| 2 ^ i)))))) (updN d2 (128 * q + (S ||| 2 ^ i)) (min (d2 (128 * p + S) + cL N i) (d2 (128 * q + (S ||| 2 ^ i))))) := by
      intro k hk
      by_cases e : k = 128 * q + (S ||| 2 ^ i)
      · rw [e, sts_s, updN_s]
      · rw [sts_j _ _ _ e, updN_n _ _ e]; exact h2 k hk
    have hF : ∀ c, c ≠ 87 → sts st 87 (128 * q + (S ||| 2 ^ i)) (nI (min (d2 (128 * p + S) + cL N i) (d2 (128 * q + (S ||| 2 ^ i))))) c = s c := fun c hc => (sts_n _ _ _ hc).trans (h1 c hc)
    have hE2 := h3.upd (q := q) (S := S ||| 2 ^ i) (v := d2 (128 * p + S) + cL N i) b2 hS2 (by
      rcases (h3 p S b1 hS).2 with g | g
      · left; omega
      · right; exact g.step a)
    have hle : ∀ k, updN d2 (128 * q + (S ||| 2 ^ i)) (min (d2 (128 * p + S) + cL N i) (d2 (128 * q + (S ||| 2 ^ i)))) k ≤ d2 k := by
      intro k
      by_cases e : k = 128 * q + (S ||| 2 ^ i)
      · rw [e, updN_s]; omega
      · rw [updN_n _ _ e]; exact Nat.le_refl _
    by_cases g : d2 (128 * q + (S ||| 2 ^ i)) ≤ d2 (128 * p + S) + cL N i
    · have same : updN d2 (128 * q + (S ||| 2 ^ i)) (min (d2 (128 * p + S) + cL N i) (d2 (128 * q + (S ||| 2 ^ i)))) = d2 := by
        funext k
        by_cases e : k = 128 * q + (S ||| 2 ^ i)
        · rw [e, updN_s]; omega
        · rw [updN_n _ _ e]
      rw [same] at hM hE2
      rcases h5 with ⟨rfl, f2, f3⟩ | ⟨rfl, k, f2, f3⟩
      · refine ⟨nI 0, _, ?_, d2, hF, hM, hE2, h4, Or.inl ⟨rfl, f2, fun S2 hS3 => ?_⟩⟩
        · rw [if_pos (show nI 0 = 0 from rfl), hA, ob_s, ifle _ _ (by omega) (by omega), if_pos g]
          rw [← hA]
          exact h10 (nI 0)
        · by_cases e : S2 = S
          · subst e; exact g
          · exact f3 S2 (by omega)
      · refine ⟨nI 1, _, ?_, d2, hF, hM, hE2, h4, Or.inr ⟨rfl, k, f2, f3⟩⟩
        rw [if_neg (show ¬ nI 1 = 0 by decide)]
        exact h10 (nI 1)
    · refine ⟨nI 1, _, ?_, _, hF, hM, hE2, fun k => Nat.le_trans (hle k) (h4 k), Or.inr ⟨rfl, 128 * q + (S ||| 2 ^ i), by omega, ?_⟩⟩
      · by_cases gf : f = 0
        · rw [if_pos gf, hA, ob_s, ifle _ _ (by omega) (by omega), if_neg g]
          rw [← hA]
          exact h10 (nI 1)
        · rw [if_neg gf]
          exact h10 (nI 1)
      · have := h4 (128 * q + (S ||| 2 ^ i))
        rw [updN_s]
        omega
  · rintro self f st ⟨d2, h1, h2, h3, h4, h5⟩
    unfold b_X8_goAlong_6
    rw [ifle _ _ (by omega) (by omega), if_pos (by omega)]
    have : f &&& 1 = f := by
      rcases h5 with ⟨rfl, _⟩ | ⟨rfl, _⟩
      · decide
      · decide
    rw [this]
    exact ⟨f, st, d2, rfl, h1, h2, h3, h4, h5⟩
def CLF (N : Nat → Int32) (ns : Nat) (d : Nat → Nat) (n : Nat) : Prop := ∀ i p q, i < n → AR N ns i p q → CLR N d i p q 128
theorem PAS.c {C C2 : Prop} {f : Int32} {d d0 : Nat → Nat} (h : PAS C f d d0) (hc : C → C2) : PAS C2 f d d0 := by
  rcases h with ⟨a, b, c⟩ | h
  · exact Or.inl ⟨a, b, hc c⟩
  · exact Or.inr h
theorem S8_pass (h71 : s 71 = N) (hV : VN N ns ne nr np) {d : Nat → Nat} (hd : M87 s d) (hE : EF N ns x d) (j : Int32 → Sg → Option (Int32 × Sg)) : ∃ f s2 d2, lp3_ (b_X8_round_74 j) fu (nI 0) (nI 0) s = j f s2 ∧ (∀ c, c ≠ 87 → s2 c = s c) ∧ M87 s2 d2 ∧ EF N ns x d2 ∧ (∀ k, d2 k ≤ d k) ∧ PAS (CLF N ns d2 ns) f d2 d := by
  have hns := hV.2.1.1
  refine lp3_ax (fun o => ∃ (f : Int32) (s2 : Sg) (d2 : Nat → Nat), o = j f s2 ∧ (∀ c, c ≠ 87 → s2 c = s c) ∧ M87 s2 d2 ∧ EF N ns x d2 ∧ (∀ k, d2 k ≤ d k) ∧ PAS (CLF N ns d2 ns) f d2 d) (fun n (f : Int32) (st : Sg) => ∃ d2 : Nat → Nat, (∀ c, c ≠ 87 → st c = s c) ∧ M87 st d2 ∧ EF N ns x d2 ∧ (∀ k, d2 k ≤ d k) ∧ PAS (CLF N ns d2 n) f d2 d) 0 ns (by omega) ?_ ?_ (by omega) (nI 0) s ⟨d, fun _ _ => rfl, hd, hE, fun _ => Nat.le_refl _, Or.inl ⟨rfl, fun _ => rfl, fun i p q hi => absurd hi (by omega)⟩⟩
  · rintro self n f st - hn ⟨d2, h1, h2, h3, h4, h5⟩
    right
    have e71 : st 71 = N := (h1 71 (by decide)).trans h71
    obtain ⟨a1, a2, a3, a4, a5, a6⟩ := hV.co hn
    unfold b_X8_round_74
    rw [S8_streets e71 hV, ob_s, ifle _ _ (by omega) (by omega), if_neg (by omega), S8_has e71 (show n < 7 by omega) (show 0 < 4 by decide), ob_s, Nat.add_zero, a1, S8_has e71 (show n < 7 by omega) (show 1 < 4 by decide), ob_s, a3]
    obtain ⟨f3, s3, d3, g1, g2, g3, g4, g5, g6⟩ := S8_along e71 hV h2 h3 (i := n) (p := cA N n) (q := cB N n) ⟨hn, Or.inl ⟨rfl, rfl⟩⟩
    rw [g1, ob2_some, nm_eq, nm_eq]
    have e71' : s3 71 = N := (g2 71 (by decide)).trans e71
    obtain ⟨f4, s4, d4, k1, k2, k3, k4, k5, k6⟩ := S8_along e71' hV g3 g4 (i := n) (p := cB N n) (q := cA N n) ⟨hn, Or.inr ⟨rfl, rfl⟩⟩
    have stp : ∀ a34 : Int32, (a34 = nI 0 ∨ a34 = nI 1) → ((f_X8_has (nI n) (nI 1) s3).bind fun v36 => (f_X8_has (nI n) (nI 0) s3).bind fun v37 => ob2 (f_X8_goAlong (nI n) v36 v37 s3) fun (v38 : Int32) (s39 : Sg) => nm_ (fun (a40 : Int32) => self a40 (nI n + nI 1) s39) fun j41 => nm_ (fun (_ : Unit) => j41 (nI 1)) fun j42 => if v38 = 0 then if a34 = 0 then j41 (nI 0) else j42 () else j42 ()) = self (if f4 = 0 ∧ a34 = 0 then nI 0 else nI 1) (nI (n + 1)) s4 := by
      intro a34 _
      rw [S8_has e71' (show n < 7 by omega) (show 1 < 4 by decide), ob_s, a3, S8_has e71' (show n < 7 by omega) (show 0 < 4 by decide), ob_s, Nat.add_zero, a1, k1, ob2_some, nm_eq, nm_eq, nadd]
      by_cases q1 : f4 = 0
      · by_cases q2 : a34 = 0
        · rw [if_pos q1, if_pos q2, if_pos ⟨q1, q2⟩]
        · rw [if_pos q1, if_neg q2, if_neg (fun z => q2 z.2)]
      · rw [if_neg q1, if_neg (fun z => q1 z.1)]
    have fr : ∀ c, c ≠ 87 → s4 c = s c := fun c hc => (k2 c hc).trans ((g2 c hc).trans (h1 c hc))
    have le4 : ∀ k, d4 k ≤ d k := fun k => Nat.le_trans (k5 k) (Nat.le_trans (g5 k) (h4 k))
    have z01 : ¬ nI 1 = 0 := by decide
    by_cases q1 : f3 = 0 ∧ f = 0
    · have hs : (if f3 = 0 then if f = 0 then (fun (a34 : Int32) => (f_X8_has (nI n) (nI 1) s3).bind fun v36 => (f_X8_has (nI n) (nI 0) s3).bind fun v37 => ob2 (f_X8_goAlong (nI n) v36 v37 s3) fun (v38 : Int32) (s39 : Sg) => nm_ (fun (a40 : Int32) => self a40 (nI n + nI 1) s39) fun j41 => nm_ (fun (_ : Unit) => j41 (nI 1)) fun j42 => if v38 = 0 then if a34 = 0 then j41 (nI 0) else j42 () else j42 ()) (nI 0) else (fun (a34 : Int32) => (f_X8_has (nI n) (nI 1) s3).bind fun v36 => (f_X8_has (nI n) (nI 0) s3).bind fun v37 => ob2 (f_X8_goAlong (nI n) v36 v37 s3) fun (v38 : Int32) (s39 : Sg) => nm_ (fun (a40 : Int32) => self a40 (nI n + nI 1) s39) fun j41 => nm_ (fun (_ : Unit) => j41 (nI 1)) fun j42 => if v38 = 0 then if a34 = 0 then j41 (nI 0) else j42 () else j42 ()) (nI 1) else (fun (a34 : Int32) => (f_X8_has (nI n) (nI 1) s3).bind fun v36 => (f_X8_has (nI n) (nI 0) s3).bind fun v37 => ob2 (f_X8_goAlong (nI n) v36 v37 s3) fun (v38 : Int32) (s39 : Sg) => nm_ (fun (a40 : Int32) => self a40 (nI n + nI 1) s39) fun j41 => nm_ (fun (_ : Unit) => j41 (nI 1)) fun j42 => if v38 = 0 then if a34 = 0 then j41 (nI 0) else j42 () else j42 ()) (nI 1)) = self (if f4 = 0 ∧ nI 0 = 0 then nI 0 else nI 1) (nI (n + 1)) s4 := by
        rw [if_pos q1.1, if_pos q1.2]
        exact stp (nI 0) (Or.inl rfl)
      refine ⟨_, s4, hs, d4, fr, k3, k4, le4, ?_⟩
      rcases k6 with ⟨e1, e2, e3⟩ | ⟨e1, k, e2, e3⟩
      · rw [if_pos ⟨e1, rfl⟩]
        rcases g6 with ⟨_, i2, i3⟩ | ⟨i1, _⟩
        · rcases h5 with ⟨_, o2, o3⟩ | ⟨o1, _⟩
          · refine Or.inl ⟨rfl, fun k => (e2 k).trans ((i2 k).trans (o2 k)), fun i p q hi a => ?_⟩
            have ed : d4 = d3 := funext e2
            have ed2 : d3 = d2 := funext i2
            by_cases gi : i = n
            · subst gi
              rcases a.2 with ⟨rfl, rfl⟩ | ⟨rfl, rfl⟩
              · rw [ed]; exact i3
              · exact e3
            · rw [ed, ed2]; exact o3 i p q (by omega) a
          · exact absurd (o1.symm.trans q1.2) z01
        · exact absurd (i1.symm.trans q1.1) z01
      · rw [if_neg (fun z => z01 (e1.symm.trans z.1))]
        exact Or.inr ⟨rfl, k, e2, Nat.lt_of_lt_of_le e3 (Nat.le_trans (g5 k) (h4 k))⟩
    · have hs : (if f3 = 0 then if f = 0 then (fun (a34 : Int32) => (f_X8_has (nI n) (nI 1) s3).bind fun v36 => (f_X8_has (nI n) (nI 0) s3).bind fun v37 => ob2 (f_X8_goAlong (nI n) v36 v37 s3) fun (v38 : Int32) (s39 : Sg) => nm_ (fun (a40 : Int32) => self a40 (nI n + nI 1) s39) fun j41 => nm_ (fun (_ : Unit) => j41 (nI 1)) fun j42 => if v38 = 0 then if a34 = 0 then j41 (nI 0) else j42 () else j42 ()) (nI 0) else (fun (a34 : Int32) => (f_X8_has (nI n) (nI 1) s3).bind fun v36 => (f_X8_has (nI n) (nI 0) s3).bind fun v37 => ob2 (f_X8_goAlong (nI n) v36 v37 s3) fun (v38 : Int32) (s39 : Sg) => nm_ (fun (a40 : Int32) => self a40 (nI n + nI 1) s39) fun j41 => nm_ (fun (_ : Unit) => j41 (nI 1)) fun j42 => if v38 = 0 then if a34 = 0 then j41 (nI 0) else j42 () else j42 ()) (nI 1) else (fun (a34 : Int32) => (f_X8_has (nI n) (nI 1) s3).bind fun v36 => (f_X8_has (nI n) (nI 0) s3).bind fun v37 => ob2 (f_X8_goAlong (nI n) v36 v37 s3) fun (v38 : Int32) (s39 : Sg) => nm_ (fun (a40 : Int32) => self a40 (nI n + nI 1) s39) fun j41 => nm_ (fun (_ : Unit) => j41 (nI 1)) fun j42 => if v38 = 0 then if a34 = 0 then j41 (nI 0) else j42 () else j42 ()) (nI 1)) = self (if f4 = 0 ∧ nI 1 = 0 then nI 0 else nI 1) (nI (n + 1)) s4 := by
        by_cases q2 : f3 = 0
        · rw [if_pos q2, if_neg (fun z => q1 ⟨q2, z⟩)]
          exact stp (nI 1) (Or.inr rfl)
        · rw [if_neg q2]
          exact stp (nI 1) (Or.inr rfl)
      refine ⟨_, s4, hs, d4, fr, k3, k4, le4, ?_⟩
      rw [if_neg (fun z => z01 z.2)]
      rcases g6 with ⟨i1, i2, i3⟩ | ⟨i1, k, i2, i3⟩
      · rcases h5 with ⟨o1, _⟩ | ⟨_, k, o2, o3⟩
        · exact absurd ⟨i1, o1⟩ q1
        · exact Or.inr ⟨rfl, k, o2, Nat.lt_of_le_of_lt (Nat.le_trans (k5 k) (g5 k)) o3⟩
      · exact Or.inr ⟨rfl, k, i2, Nat.lt_of_lt_of_le (Nat.lt_of_le_of_lt (k5 k) i3) (h4 k)⟩
  · rintro self f st ⟨d2, h1, h2, h3, h4, h5⟩
    have e71 : st 71 = N := (h1 71 (by decide)).trans h71
    unfold b_X8_round_74
    rw [S8_streets e71 hV, ob_s, ifle _ _ (by omega) (by omega), if_pos (by omega)]
    exact ⟨f, st, d2, rfl, h1, h2, h3, h4, h5⟩
theorem S8_relax (h71 : s 71 = N) (hV : VN N ns ne nr np) {d : Nat → Nat} (hd : M87 s d) (hE : EF N ns x d) (j : Sg → Option (Int32 × Sg)) : ∃ s2 d2, lp2_ (b_X8_round_65 j) fu (nI 1) s = j s2 ∧ (∀ c, c ≠ 87 → s2 c = s c) ∧ M87 s2 d2 ∧ EF N ns x d2 ∧ (∀ k, d2 k ≤ d k) ∧ CLF N ns d2 ns := by
  refine lp2_po (fun o => ∃ (s2 : Sg) (d2 : Nat → Nat), o = j s2 ∧ (∀ c, c ≠ 87 → s2 c = s c) ∧ M87 s2 d2 ∧ EF N ns x d2 ∧ (∀ k, d2 k ≤ d k) ∧ CLF N ns d2 ns) (fun m (f : Int32) (st : Sg) => ∃ d2 : Nat → Nat, (∀ c, c ≠ 87 → st c = s c) ∧ M87 st d2 ∧ EF N ns x d2 ∧ (∀ k, d2 k ≤ d k) ∧ ((f = nI 0 ∧ CLF N ns d2 ns) ∨ (f = nI 1 ∧ sumD d2 1024 < m))) ?_ fu (sumD d 1024 + 1) (nI 1) s ?_ ⟨d, fun _ _ => rfl, hd, hE, fun _ => Nat.le_refl _, Or.inr ⟨rfl, by omega⟩⟩
  · rintro self m f st ⟨d2, h1, h2, h3, h4, h5⟩
    have e71 : st 71 = N := (h1 71 (by decide)).trans h71
    unfold b_X8_round_65
    rcases h5 with ⟨rfl, h6⟩ | ⟨rfl, h6⟩
    · left
      rw [if_pos (show nI 0 = 0 from rfl)]
      exact ⟨st, d2, rfl, h1, h2, h3, h4, h6⟩
    · right
      rw [if_neg (show ¬ nI 1 = 0 by decide), nm_eq]
      obtain ⟨f3, s3, d3, g1, g2, g3, g4, g5, g6⟩ := S8_pass e71 hV h2 h3 (fun (a22 : Int32) (s23 : Sg) => self a22 s23)
      rw [g1]
      have fr : ∀ c, c ≠ 87 → s3 c = s c := fun c hc => (g2 c hc).trans (h1 c hc)
      have le3 : ∀ k, d3 k ≤ d k := fun k => Nat.le_trans (g5 k) (h4 k)
      rcases g6 with ⟨e1, _, e3⟩ | ⟨e1, k, e2, e3⟩
      · exact ⟨0, f3, s3, by omega, rfl, d3, fr, g3, g4, le3, Or.inl ⟨e1, e3⟩⟩
      · have lt := sumD_lt g5 1024 k e2 e3
        exact ⟨m - 1, f3, s3, by omega, rfl, d3, fr, g3, g4, le3, Or.inr ⟨e1, by omega⟩⟩
  · have := sumD_top (d := d) 1024 (Nat.le_refl _) (fun k hk => hE.k hk)
    have := fu_big
    omega
def d0N (x : Nat) : Nat → Nat := fun k => if k = 128 * x then 0 else 1000000
theorem S8_far (hx : x < 8) (j : Sg → Option (Int32 × Sg)) : ∃ s2, lp2_ (b_X8_round_29 j (nI x)) fu (nI 0) s = j s2 ∧ (∀ c, c ≠ 87 → s2 c = s c) ∧ M87 s2 (d0N x) := by
  refine lp2_ix (fun o => ∃ s2 : Sg, o = j s2 ∧ (∀ c, c ≠ 87 → s2 c = s c) ∧ M87 s2 (d0N x)) (fun k (st : Sg) => (∀ c, c ≠ 87 → st c = s c) ∧ ∀ i, i < k → st 87 i = nI (d0N x i)) 0 1024 (by omega) ?_ ?_ (by omega) s ⟨fun _ _ => rfl, fun i hi => absurd hi (by omega)⟩
  · rintro self k st - hk ⟨h1, h2⟩
    right
    unfold b_X8_round_29
    rw [ifle _ _ (by omega) (by omega), if_neg (by omega), nmul, nm_eq, ife _ _ (by omega) (by omega)]
    refine ⟨sts st 87 k (nI (d0N x k)), ?_, fun c hc => (sts_n _ _ _ hc).trans (h1 c hc), fun i hi => ?_⟩
    · unfold d0N
      by_cases g : k = 128 * x
      · rw [if_pos g, if_pos g]
        dsimp only
        rw [as _ 87 _ (show k < 1024 from hk), ob_s, nadd]
      · rw [if_neg g, if_neg g]
        dsimp only
        rw [as _ 87 _ (show k < 1024 from hk), ob_s, nadd]
    · by_cases e : i = k
      · rw [e, sts_s]
      · rw [sts_j _ _ _ e]; exact h2 i (by omega)
  · rintro self st ⟨h1, h2⟩
    unfold b_X8_round_29
    rw [ifle _ _ (by omega) (by omega), if_pos (by omega)]
    exact ⟨st, rfl, h1, h2⟩
theorem EF.d0 : EF N ns x (d0N x) := by
  intro c S hc hS
  unfold d0N
  by_cases g : 128 * c + S = 128 * x
  · rw [if_pos g]
    obtain ⟨rfl, rfl⟩ : c = x ∧ S = 0 := by omega
    exact ⟨by omega, Or.inr WK.nil⟩
  · rw [if_neg g]
    exact ⟨Nat.le_refl _, Or.inl rfl⟩
def loR (d : Nat → Nat) (T n : Nat) : Nat := forN (fun k v => if k &&& T = T then min (d k) v else v) n 1000000
theorem loR_le {d : Nat → Nat} {T : Nat} : ∀ n, loR d T n ≤ 1000000 ∧ (∀ k, k < n → k &&& T = T → loR d T n ≤ d k) ∧ (loR d T n = 1000000 ∨ ∃ k, k < n ∧ k &&& T = T ∧ loR d T n = d k)
  | 0 => ⟨Nat.le_refl _, fun c hc => absurd hc (by omega), Or.inl rfl⟩
  | n + 1 => by
    obtain ⟨a, b, c⟩ := loR_le (d := d) (T := T) n
    have hc : loR d T (n + 1) = if n &&& T = T then min (d n) (loR d T n) else loR d T n := rfl
    rw [hc]
    by_cases g : n &&& T = T
    · rw [if_pos g]
      refine ⟨by omega, fun k hk hT => ?_, ?_⟩
      · by_cases g2 : k = n
        · subst g2; omega
        · have := b k (by omega) hT; omega
      · by_cases g2 : d n < loR d T n
        · exact Or.inr ⟨n, by omega, g, by omega⟩
        · rw [Nat.min_eq_right (by omega)]
          rcases c with c | ⟨k, c1, c2, c3⟩
          · exact Or.inl c
          · exact Or.inr ⟨k, by omega, c2, c3⟩
    · rw [if_neg g]
      refine ⟨a, fun k hk hT => ?_, ?_⟩
      · by_cases g2 : k = n
        · subst g2; exact absurd hT g
        · exact b k (by omega) hT
      · rcases c with c | ⟨k, c1, c2, c3⟩
        · exact Or.inl c
        · exact Or.inr ⟨k, by omega, c2, c3⟩
theorem bit7 {T b : Nat} (hT : T < 128) (h : T.testBit b = true) : b < 7 := by
  apply Classical.byContradiction
  intro g
  have : T.testBit b = false := Nat.testBit_lt_two_pow (Nat.lt_of_lt_of_le hT (Nat.pow_le_pow_right (n := 2) (i := 7) (by decide) (by omega)))
  rw [this] at h
  cases h
theorem loR_sht (hV : VN N ns ne nr np) (hx : x < 8) {T : Nat} (hT : T < 128) {d : Nat → Nat} (hE : EF N ns x d) (h0 : d (128 * x) = 0) (hC : CLF N ns d ns) : SHT N ns x T (loR d T 1024) := by
  obtain ⟨a, b, c⟩ := loR_le (d := d) (T := T) 1024
  refine ⟨a, ?_, fun c S L hw hs => ?_⟩
  · rcases c with c | ⟨k, c1, c2, c3⟩
    · exact Or.inl c
    · have hk := (hE (k / 128) (k % 128) (by omega) (by omega)).2
      rw [show 128 * (k / 128) + k % 128 = k by omega] at hk
      rcases hk with hk | hk
      · exact Or.inl (c3.trans hk)
      · refine Or.inr ⟨k / 128, k % 128, fun b hb2 => ?_, by rw [c3]; exact hk⟩
        rw [show k % 128 = k % 2 ^ 7 from rfl, Nat.testBit_mod_two_pow, decide_eq_true (bit7 hT hb2), Bool.true_and]
        rw [← c2, Nat.testBit_and] at hb2
        cases hz : k.testBit b with
        | true => rfl
        | false => rw [hz] at hb2; cases hb2
  · obtain ⟨w1, w2⟩ := hV.wk hx hw
    have low : d (128 * c + S) ≤ L := by
      refine hw.ind (fun c S L => d (128 * c + S) ≤ L) (by rw [Nat.add_zero, h0]; exact Nat.le_refl _) (fun p q S L i ha hw2 ih => ?_)
      have := hC i p q ha.1 ha S (hV.wk hx hw2).2
      show d (128 * q + (S ||| 2 ^ i)) ≤ L + cL N i
      have ih2 : d (128 * p + S) ≤ L := ih
      omega
    have hk : SB T (128 * c + S) := by
      intro b hb2
      have h1 := hs b hb2
      rw [show S = (128 * c + S) % 2 ^ 7 by rw [show 2 ^ 7 = 128 from rfl]; omega, Nat.testBit_mod_two_pow, decide_eq_true (bit7 hT hb2), Bool.true_and] at h1
      exact h1
    exact Nat.le_trans (b _ (by omega) hk.and) low
end ROUND8
theorem OK_round {s : Sg} (h : REL s) (x y : Int32) : OKop (f_X7_round x y s) (f_X8_round x y) := by
  obtain ⟨⟨ns, ne, nr, np, hT⟩, _, _, _, _, hx⟩ := id h
  have hV := hT.1
  have hns := hV.2.1.1
  have h2n : 2 ^ ns ≤ 128 := Nat.pow_le_pow_right (n := 2) (by decide) hns
  have h07 : ∀ s : Sg, f_X8_in (Int32.toInt64 x) (0 : Int64) (7 : Int64) s = some (bi (0 ≤ x ∧ x < nI 8)) := fun s => S8_inB x (by decide) _ (by decide) s
  unfold f_X7_round f_X8_round
  rw [S_isBelow, ob_s]
  by_cases h0 : 0 ≤ x ∧ x < nI 8
  · rw [if_bi' _ _ h0, S7_areStreets hT, ob_s]
    by_cases h1 : 0 ≤ y ∧ y < nI (2 ^ ns)
    · rw [if_bi' _ _ h1]
      obtain ⟨c, hc, rfl⟩ := rngB (by decide) h0
      obtain ⟨T, hT2, rfl⟩ := rngB (by omega) h1
      obtain ⟨s2, V, e1, e2, e3⟩ := S_shortest hT hc (T := T) (by omega)
      refine OK_ro h (if 1000000 ≤ V then -1 else nI V) ⟨s2, ?_, ?_⟩ ?_
      · rw [e1, ob2_some]
      · obtain ⟨b, hb, hb2⟩ := hx
        exact ⟨fun c hc => e2 c (by omega) (by omega), by rw [e2 49 (by decide) (by decide)], e2 50 (by decide) (by decide), by rw [e2 53 (by decide) (by decide)], ⟨b, hb, by rw [e2 52 (by decide) (by decide)]; exact hb2⟩, by rw [e2 70 (by decide) (by decide)], fun c h1 h2 => e2 c (by omega) (by omega), e2 88 (by decide) (by decide)⟩
      · intro s1 hr
        have e71 : s1 71 = s 71 := hr.n
        rw [h07, ob_s, if_bi' _ _ h0, S8_areStreets e71 hV, ob_s, if_bi' _ _ h1, nm_eq]
        obtain ⟨s3, f1, f2, f3⟩ := S8_far (s := s1) hc (fun (s5 : Sg) => nm_ (fun (s7 : Sg) => nm_ (fun (a9 : Int32) => if a9 = (nI 1000000) then some (-1, s7) else some (a9, s7)) fun j10 => lp2_ (b_X8_round_165 j10 (nI T) s7) fu (nI 1000000) (nI 0)) fun j8 => lp2_ (b_X8_round_65 j8) fu (nI 1) s5)
        rw [f1, nm_eq]
        obtain ⟨s4, d, g1, g2, g3, g4, g5, g6⟩ := S8_relax (s := s3) ((f2 71 (by decide)).trans e71) hV f3 (EF.d0 (N := s 71) (ns := ns)) (fun (s7 : Sg) => nm_ (fun (a9 : Int32) => if a9 = (nI 1000000) then some (-1, s7) else some (a9, s7)) fun j10 => lp2_ (b_X8_round_165 j10 (nI T) s7) fu (nI 1000000) (nI 0))
        rw [g1, nm_eq]
        have z0 : d (128 * c) = 0 := by
          have := g5 (128 * c)
          unfold d0N at this
          rw [if_pos rfl] at this
          omega
        have hs := loR_sht hV hc (T := T) (by omega) g4 z0 g6
        have hR : R8 s1 s4 := ⟨fun c hc _ => (g2 c (by omega)).trans (f2 c (by omega)), by rw [g2 70 (by decide), f2 70 (by decide)], by rw [g2 88 (by decide), f2 88 (by decide)]⟩
        refine ⟨s4, ?_, hR.ro hr.nx⟩
        rw [e3.one hs]
        refine lp2_ax (fun o => o = some (if 1000000 ≤ loR d T 1024 then -1 else nI (loR d T 1024), s4)) (fun k (v : Int32) => v = nI (loR d T k)) 0 1024 (by omega) ?_ ?_ (by omega) _ rfl
        · rintro self k v - hk rfl
          right
          have q1 := (loR_le (d := d) (T := T) k).1
          have q2 := g4.k hk
          unfold b_X8_round_165
          rw [ifle _ _ (by omega) (by omega), if_neg (by omega), nm_eq, nm_eq, nand, ife _ _ (Nat.lt_of_le_of_lt Nat.and_le_left (by omega)) (by omega), nadd, ag _ 87 (show k < 1024 from hk) (by omega), ob_s, ob_s, g3 _ hk, ifle _ _ (by omega) (by omega)]
          refine ⟨nI (loR d T (k + 1)), ?_, rfl⟩
          have hc : loR d T (k + 1) = if k &&& T = T then min (d k) (loR d T k) else loR d T k := rfl
          rw [hc]
          by_cases g : k &&& T = T
          · rw [if_pos g, if_pos g]
            by_cases gl : loR d T k ≤ d k
            · rw [if_pos gl, Nat.min_eq_right gl]
            · rw [if_neg gl, Nat.min_eq_left (by omega)]
          · rw [if_neg g, if_neg g]
        · rintro self v rfl
          have q1 := (loR_le (d := d) (T := T) 1024).1
          unfold b_X8_round_165
          rw [ifle _ _ (by omega) (by omega), if_pos (by omega)]
          dsimp only
          rw [ife _ _ (by omega) (by omega)]
          by_cases g : loR d T 1024 = 1000000
          · rw [if_pos g, if_pos (by omega)]
          · rw [if_neg g, if_neg (by omega)]
    · rw [if_bi0 _ _ h1]
      refine OK_bad h (-2) (r7 s) (fun s1 h3 => ?_)
      rw [h07, ob_s, if_bi' _ _ h0, S8_areStreets (n8 h3) hV, ob_s, if_bi0 _ _ h1, r8]
  · rw [if_bi0 _ _ h0]
    refine OK_bad h (-2) (r7 s) (fun s1 h3 => ?_)
    rw [h07, ob_s, if_bi0 _ _ h0, r8]
