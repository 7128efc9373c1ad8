/-! READ: the reference's items -/
section RITEM
variable {u : Sg} {T : Nat → Nat} {len p : Nat} {M : Nat → Int32} {ns ne : Nat}
def KT (s s2 : Sg) : Prop := (∀ c, c ≠ 70 → c ≠ 90 → s2 c = s c) ∧ s2 70 22 = s 70 22
theorem KT.rf (s : Sg) : KT s s := ⟨fun _ _ _ => rfl, rfl⟩
theorem KT.tr {s s2 s3 : Sg} (h : KT s s2) (h' : KT s2 s3) : KT s s3 := ⟨fun c a b => (h'.1 c a b).trans (h.1 c a b), h'.2.trans h.2⟩
theorem K7.kt {s s2 : Sg} (h : K7 s s2) : KT s s2 := ⟨fun c a _ => h.1 c a, h.2⟩
theorem RX.t {s2 : Sg} (h : RX u T len) (hk : KT u s2) : RX s2 T len := ⟨h.1, hk.2.trans h.2.1, fun i hi => by rw [hk.1 88 (by decide) (by decide)]; exact h.2.2 i hi⟩
def KF (s s2 : Sg) : Prop := (∀ c, c ≠ 70 → c ≠ 89 → c ≠ 90 → s2 c = s c) ∧ s2 70 22 = s 70 22
theorem KF.rf (s : Sg) : KF s s := ⟨fun _ _ _ _ => rfl, rfl⟩
theorem KF.tr {s s2 s3 : Sg} (h : KF s s2) (h' : KF s2 s3) : KF s s3 := ⟨fun c a b d => (h'.1 c a b d).trans (h.1 c a b d), h'.2.trans h.2⟩
theorem KT.kf {s s2 : Sg} (h : KT s s2) : KF s s2 := ⟨fun c a _ b => h.1 c a b, h.2⟩
theorem RX.f {s2 : Sg} (h : RX u T len) (hk : KF u s2) : RX s2 T len := ⟨h.1, hk.2.trans h.2.1, fun i hi => by rw [hk.1 88 (by decide) (by decide) (by decide)]; exact h.2.2 i hi⟩
theorem S8_isCalled (h : RX u T len) (hp : p ≤ len) (hs : RS u T len p) {l : List Nat} (h0 : 0 < l.length) (h6 : l.length ≤ 6) (hb : ∀ i, i < l.length → l.getD i 0 < 128) : (wdP T len l p → f_X8_isCalled (nI l.length) (nI (l.getD 0 0)) (nI (l.getD 1 0)) (nI (l.getD 2 0)) (nI (l.getD 3 0)) (nI (l.getD 4 0)) (nI (l.getD 5 0)) u = some (nI 1)) ∧ (¬ wdP T len l p → f_X8_isCalled (nI l.length) (nI (l.getD 0 0)) (nI (l.getD 1 0)) (nI (l.getD 2 0)) (nI (l.getD 3 0)) (nI (l.getD 4 0)) (nI (l.getD 5 0)) u = some (nI 0)) := by
  obtain ⟨s1, s2, s3, _⟩ := hs
  have hl := h.1
  obtain ⟨b1, b2⟩ := tE_le (T := T) hp
  have kk := tK_lt (T := T) (len := len) (p := p)
  have n1 : ¬ nI 1 = 0 := by decide
  have pick : ∀ (j8 : Int32 → Option Int32) i, i < 6 → (if nI i = 0 then j8 (nI (l.getD 0 0)) else if nI i = nI 1 then j8 (nI (l.getD 1 0)) else if nI i = nI 2 then j8 (nI (l.getD 2 0)) else if nI i = nI 3 then j8 (nI (l.getD 3 0)) else if nI i = nI 4 then j8 (nI (l.getD 4 0)) else j8 (nI (l.getD 5 0))) = j8 (nI (l.getD i 0)) := by
    intro j8 i hi
    match i, hi with
    | 0, _ => exact if_pos rfl
    | 1, _ => rw [if_neg (by decide), if_pos rfl]
    | 2, _ => rw [if_neg (by decide), if_neg (by decide), if_pos rfl]
    | 3, _ => rw [if_neg (by decide), if_neg (by decide), if_neg (by decide), if_pos rfl]
    | 4, _ => rw [if_neg (by decide), if_neg (by decide), if_neg (by decide), if_neg (by decide), if_pos rfl]
    | 5, _ => rw [if_neg (by decide), if_neg (by decide), if_neg (by decide), if_neg (by decide), if_neg (by decide)]
  have zero : ∀ (B : (Int32 → Int32 → Option Int32)) (i : Nat), i ≤ l.length → b_X8_isCalled_26 (nI l.length) u (nI (l.getD 0 0)) (nI (l.getD 1 0)) (nI (l.getD 2 0)) (nI (l.getD 3 0)) (nI (l.getD 4 0)) (nI (l.getD 5 0)) B (nI 0) (nI i) = some (nI 0) := by
    intro B i hi
    unfold b_X8_isCalled_26
    rw [if_pos (show nI 0 = 0 from rfl)]
    by_cases g : nI l.length ≤ nI i
    · rw [if_pos g]; rfl
    · rw [if_neg g]; rfl
  unfold f_X8_isCalled wdP
  rw [nm_eq, nm_eq, s3, s2, ife _ _ (by omega) (by decide), ife _ _ (by omega) (by omega)]
  have bad : lp2_ (b_X8_isCalled_26 (nI l.length) u (nI (l.getD 0 0)) (nI (l.getD 1 0)) (nI (l.getD 2 0)) (nI (l.getD 3 0)) (nI (l.getD 4 0)) (nI (l.getD 5 0))) fu (nI 0) (nI 0) = some (nI 0) := by
    refine lp2_ax (fun o => o = some (nI 0)) (fun _ (st : Int32) => st = nI 0) 0 0 (by omega) (fun _ i _ _ hi _ => absurd hi (by omega)) ?_ (by omega) _ rfl
    rintro self st rfl
    exact zero self 0 (by omega)
  by_cases g1 : tK T len p = 1
  · rw [if_pos g1]
    by_cases g2 : tE T len p - tS T len p = l.length
    · rw [if_pos g2]
      have step : ∀ (self : Int32 → Int32 → Option Int32) (i : Nat), i < l.length → b_X8_isCalled_26 (nI l.length) u (nI (l.getD 0 0)) (nI (l.getD 1 0)) (nI (l.getD 2 0)) (nI (l.getD 3 0)) (nI (l.getD 4 0)) (nI (l.getD 5 0)) self (nI 1) (nI i) = if T (tS T len p + i) = l.getD i 0 then self (nI 1) (nI (i + 1)) else self (nI 0) (nI (i + 1)) := by
        intro self i hi
        unfold b_X8_isCalled_26
        rw [ifle _ _ (by omega) (by omega), if_neg (by omega), if_neg n1, s1, nadd, ag _ 88 (show tS T len p + i < 150 by omega) (by omega), ob_s, nm_eq, (h.2.2 (tS T len p + i) (by omega)).1, pick (fun (a7 : Int32) => nm_ (fun (a9 : Int32) => self a9 (nI i + nI 1)) fun j10 => if nI (T (tS T len p + i)) = a7 then j10 (nI 1) else j10 (nI 0)) i (by omega), nm_eq, ife _ _ (by have := (h.2.2 (tS T len p + i) (by omega)).2; omega) (by have := hb i hi; omega), nadd]
      constructor
      · rintro ⟨_, _, hm⟩
        refine lp2_ax (fun o => o = some (nI 1)) (fun _ (st : Int32) => st = nI 1) 0 l.length (by omega) ?_ ?_ (by omega) _ rfl
        · rintro self i st - hi rfl
          right
          rw [step self i hi, if_pos (hm i hi)]
          exact ⟨_, rfl, rfl⟩
        · rintro self st rfl
          unfold b_X8_isCalled_26
          rw [if_pos (Int32.le_refl _)]
          rfl
      · intro hn
        refine lp2_ax (fun o => o = some (nI 0)) (fun i (st : Int32) => st = nI 0 ∨ (st = nI 1 ∧ ∀ m, m < i → T (tS T len p + m) = l.getD m 0)) 0 l.length (by omega) ?_ ?_ (by omega) _ (Or.inr ⟨rfl, fun m hm => absurd hm (by omega)⟩)
        · rintro self i st - hi (rfl | ⟨rfl, h8⟩)
          · left
            exact zero self i (by omega)
          · right
            rw [step self i hi]
            by_cases g : T (tS T len p + i) = l.getD i 0
            · rw [if_pos g]
              refine ⟨_, rfl, Or.inr ⟨rfl, fun m hm => ?_⟩⟩
              by_cases e : m = i
              · subst e; exact g
              · exact h8 m (by omega)
            · rw [if_neg g]
              exact ⟨_, rfl, Or.inl rfl⟩
        · rintro self st (rfl | ⟨rfl, h8⟩)
          · exact zero self _ (by omega)
          · exact absurd ⟨g1, g2, h8⟩ hn
    · rw [if_neg g2]
      exact ⟨fun z => absurd z.2.1 g2, fun _ => bad⟩
  · rw [if_neg g1]
    exact ⟨fun z => absurd z.1 g1, fun _ => bad⟩
theorem S8_takes (h : RX u T len) (hp : p ≤ len) (hs : RS u T len p) {k : Nat} (hk : k < 6) (lo hi : Int32) : (tK T len p = 2 ∧ lo ≤ tV T len p ∧ tV T len p ≤ hi → ∃ s2, f_X8_takes (nI k) lo hi u = some (nI 1, s2) ∧ KT u s2 ∧ RS s2 T len (tE T len p) ∧ s2 90 = upd (u 90) k (tV T len p)) ∧ (¬ (tK T len p = 2 ∧ lo ≤ tV T len p ∧ tV T len p ≤ hi) → f_X8_takes (nI k) lo hi u = some (nI 0, u)) := by
  have kk := tK_lt (T := T) (len := len) (p := p)
  obtain ⟨s1, s2, s3, s4⟩ := id hs
  unfold f_X8_takes
  rw [s3, ife _ _ (by omega) (by decide)]
  by_cases g : tK T len p = 2
  · rw [if_pos g, s4 g, S8_in (tV T len p) lo hi _ _ rfl rfl, ob_s]
    by_cases g2 : lo ≤ tV T len p ∧ tV T len p ≤ hi
    · rw [if_bi' _ _ g2, as _ 90 _ (show k < alen 90 from hk), ob_s]
      have k1 : KT u (sts u 90 k (tV T len p)) := ⟨fun c _ c2 => sts_n _ _ _ c2, by rw [sts_n _ _ _ (by decide)]⟩
      have r1 : RS (sts u 90 k (tV T len p)) T len p := by
        unfold RS
        rw [sts_n _ _ _ (by decide)]
        exact hs
      obtain ⟨s5, f1, f2, f3⟩ := S8_goOn (h.t k1) hp r1
      rw [f1, ob_s]
      exact ⟨fun _ => ⟨s5, rfl, k1.tr f2.kt, f3, by rw [f2.1 90 (by decide), sts_c]⟩, fun z => absurd ⟨g, g2⟩ z⟩
    · rw [if_bi0 _ _ g2]
      exact ⟨fun z => absurd z.2 g2, fun _ => rfl⟩
  · rw [if_neg g]
    exact ⟨fun z => absurd z.1 g, fun _ => rfl⟩
theorem S8_step (h : RX u T len) (hp : p ≤ len) (hs : RS u T len p) {kd k n : Nat} {r : Nat → Int32} (hk : k < 6) {lo hi : Int32} (hr : ∀ i, i < k → u 90 i = r i) (hf : fitP kd k (upd r k (tV T len p)) ns ↔ (lo ≤ tV T len p ∧ tV T len p ≤ hi)) :
    (∃ s2, f_X8_takes (nI k) lo hi u = some (nI 1, s2) ∧ KT u s2 ∧ RX s2 T len ∧ RS s2 T len (tE T len p) ∧ tE T len p ≤ len ∧ (∀ i, i < k + 1 → s2 90 i = upd r k (tV T len p) i) ∧ vlS T len kd ns (n + 1) k r p = vlS T len kd ns n (k + 1) (upd r k (tV T len p)) (tE T len p)) ∨ (f_X8_takes (nI k) lo hi u = some (nI 0, u) ∧ vlS T len kd ns (n + 1) k r p = .inl (tS T len p)) := by
  obtain ⟨a, b⟩ := S8_takes h hp hs hk lo hi
  by_cases g : tK T len p = 2 ∧ lo ≤ tV T len p ∧ tV T len p ≤ hi
  · left
    obtain ⟨s2, f1, f2, f3, f4⟩ := a g
    refine ⟨s2, f1, f2, h.t f2, f3, (tE_le hp).2, fun i hi => ?_, vlS_s _ _ _ _ _ _ ⟨g.1, hf.mpr g.2⟩⟩
    rw [f4]
    by_cases e : i = k
    · rw [e, upd_s, upd_s]
    · rw [upd_n _ _ e, upd_n _ _ e]; exact hr i (by omega)
  · right
    exact ⟨b g, vlS_e _ _ _ _ _ _ (fun z => g ⟨z.1, hf.mp z.2⟩)⟩
theorem fit_g {kd k : Nat} {r : Nat → Int32} (h1 : ¬ (kd = 1 ∧ (k = 1 ∨ k = 2))) (h2 : ¬ (kd = 2 ∧ k = 1)) {v hi : Int32} (hv : upd r k v k = v) (hh : hi = nI (limN kd k) - nI 1) (hl : limN kd k < 2147483648) : fitP kd k (upd r k v) ns ↔ (nI 0 ≤ v ∧ v ≤ hi) := by
  unfold fitP
  rw [hv, hh, in_B v hl]
  constructor
  · rintro ⟨_, _, _, d⟩
    exact d h2
  · intro d
    exact ⟨fun z => absurd ⟨z.1, Or.inl z.2⟩ h1, fun z => absurd ⟨z.1, Or.inr z.2⟩ h1, fun z => absurd z h2, fun _ => d⟩
theorem fit_12 {r : Nat → Int32} {v : Int32} : fitP 1 2 (upd r 2 v) ns ↔ (nI 1 ≤ v ∧ v ≤ nI 9) := by
  unfold fitP
  rw [upd_s, le19]
  constructor
  · rintro ⟨_, b, _, d⟩
    exact ⟨b ⟨rfl, rfl⟩, d (by decide)⟩
  · rintro ⟨b, d⟩
    exact ⟨fun z => absurd z.2 (by decide), fun _ => b, fun z => absurd z.1 (by decide), fun _ => d⟩
theorem fit_21 {r : Nat → Int32} {v : Int32} (hn : ns < 2147483648) : fitP 2 1 (upd r 1 v) ns ↔ (nI 0 ≤ v ∧ v ≤ nI ns - nI 1) := by
  unfold fitP
  rw [upd_s, in_B v hn]
  constructor
  · rintro ⟨_, _, c, _⟩
    exact c ⟨rfl, rfl⟩
  · intro c
    exact ⟨fun z => absurd z.1 (by decide), fun z => absurd z.1 (by decide), fun _ => c, fun z => absurd ⟨rfl, rfl⟩ z⟩
theorem fit_11 {r : Nat → Int32} {v : Int32} (hne : v ≠ r 0) : fitP 1 1 (upd r 1 v) ns ↔ (nI 0 ≤ v ∧ v ≤ nI 7) := by
  unfold fitP
  rw [upd_s, upd_n _ _ (show 0 ≠ 1 by decide), show nI 7 = nI 8 - nI 1 from rfl, in_B v (by decide)]
  constructor
  · rintro ⟨_, _, _, d⟩
    exact d (by decide)
  · intro d
    exact ⟨fun _ => hne, fun z => absurd z.2 (by decide), fun z => absurd z.1 (by decide), fun _ => d⟩
theorem fit_11n {r : Nat → Int32} {v : Int32} (hne : v = r 0) : ¬ fitP 1 1 (upd r 1 v) ns := by
  unfold fitP
  rw [upd_s, upd_n _ _ (show 0 ≠ 1 by decide)]
  rintro ⟨a, _⟩
  exact a ⟨rfl, rfl⟩ hne
/-- the next town is M -/
def NW8 (u : Sg) (M : Nat → Int32) (ns ne : Nat) : Prop := (∀ i, i < 115 → u 89 i = M i) ∧ M 0 = nI ns ∧ M 1 = nI ne ∧ M 4 = nI 0 ∧ ns ≤ 7 ∧ ne ≤ 8
theorem NW8.c {s2 : Sg} (h : NW8 u M ns ne) (e : s2 89 = u 89) : NW8 s2 M ns ne := by
  unfold NW8
  rw [e]
  exact h
def PQ (u : Sg) (T : Nat → Nat) (len kd : Nat) (M : Nat → Int32) (ns ne : Nat) (R : Nat ⊕ ((Nat → Int32) × Nat)) (o : Option (Int32 × Sg)) : Prop := match R with
  | .inl e => ∃ s2, o = some (nI 0, s2) ∧ KF u s2 ∧ s2 70 23 = nI e
  | .inr (r, q) => ∃ s2, o = some (nI 1, s2) ∧ KF u s2 ∧ RS s2 T len q ∧ q ≤ len ∧ NW8 s2 (apM kd M ns ne r) (apS kd ns) (apE kd ne)
theorem strN_c {N M : Nat → Int32} {r r2 : Nat → Int32} {i : Nat} (h : N i = M i) (hr : ∀ k, k < 4 → r k = r2 k) : strN N ns r i = strN M ns r2 i := by
  unfold strN
  rw [h]
  by_cases q : 5 + 4 * ns ≤ i ∧ i < 5 + 4 * ns + 4
  · rw [if_pos q, if_pos q, hr _ (by omega)]
  · rw [if_neg q, if_neg q]
theorem evtN_c {N M : Nat → Int32} {r r2 : Nat → Int32} {i : Nat} (h : N i = M i) (hr : ∀ k, k < 6 → r k = r2 k) : evtN N ne r i = evtN M ne r2 i := by
  unfold evtN
  rw [h]
  by_cases q : 33 + 6 * ne ≤ i ∧ i < 33 + 6 * ne + 6
  · rw [if_pos q, if_pos q, hr _ (by omega)]
  · rw [if_neg q, if_neg q]
theorem S8_readsStreet (h : RX u T len) (hp : p ≤ len) (hs : RS u T len p) (hM : NW8 u M ns ne) (hn : ns ≠ 7) : PQ u T len 1 M ns ne (vlS T len 1 ns 4 0 (fun _ => nI 0) (tE T len p)) (f_X8_readsStreet u) := by
  obtain ⟨m1, m2, m3, m4, m5, m6⟩ := id hM
  have n1 : ¬ nI 1 = 0 := by decide
  have n0 : nI 0 = 0 := rfl
  unfold f_X8_readsStreet
  rw [ag _ 89 (show 0 < 115 by decide) (by decide), ob_s, m1 0 (by decide), m2, ife _ _ (by omega) (by decide), if_neg hn]
  obtain ⟨u1, a1, a2, a3⟩ := S8_goOn h hp hs
  have x1 := h.k a2
  have q1 := (tE_le (T := T) hp).2
  rw [a1, ob_s]
  generalize tE T len p = p1 at a3 q1
  rcases S8_step (ns := ns) (kd := 1) (n := 3) (r := fun _ => nI 0) (lo := nI 0) (hi := nI 7) x1 q1 a3 (show 0 < 6 by decide) (fun i hi => absurd hi (by omega)) (fit_g (by decide) (by decide) (upd_s _ _ _) rfl (by decide)) with ⟨u2, b1, b2, b3, b4, b5, b6, b7⟩ | ⟨b1, b7⟩
  · rw [b1, ob2_some, if_neg n1, nm_eq, b7]
    have k2 := a2.kt.tr b2
    clear b7 b1
    have e90 : aget u2 90 (nI 0) = some (tV T len p1) := by rw [ag _ 90 (show 0 < alen 90 by decide) (by decide), b6 0 (by decide), upd_s]
    generalize hp2 : tE T len p1 = p2 at b4 b5 ⊢
    have kk := tK_lt (T := T) (len := len) (p := p2)
    rw [b4.2.2.1, ife _ _ (by omega) (by decide), e90, ob_s]
    -- the second corner is another
    have same : tK T len p2 = 2 ∧ tV T len p2 = tV T len p1 → PQ u T len 1 M ns ne (vlS T len 1 ns 3 1 (upd (fun _ => nI 0) 0 (tV T len p1)) p2) (some (nI 0, u2)) := by
      intro z
      rw [vlS_e _ _ _ _ _ _ (fun y => fit_11n (ns := ns) (r := upd (fun _ => nI 0) 0 (tV T len p1)) (by rw [upd_s]; exact z.2) y.2)]
      exact ⟨u2, rfl, k2.kf, b4.1⟩
    have other : ¬ (tK T len p2 = 2 ∧ tV T len p2 = tV T len p1) → PQ u T len 1 M ns ne (vlS T len 1 ns 3 1 (upd (fun _ => nI 0) 0 (tV T len p1)) p2) (ob2 (f_X8_takes (nI 1) (nI 0) (nI 7) u2) fun (v6 : Int32) (s7 : Sg) => if v6 = 0 then some ((nI 0), s7) else ob2 (f_X8_takes (nI 2) (nI 1) (nI 9) s7) fun (v8 : Int32) (s9 : Sg) => if v8 = 0 then some ((nI 0), s9) else ob2 (f_X8_takes (nI 3) (nI 0) (nI 15) s9) fun (v10 : Int32) (s11 : Sg) => if v10 = 0 then some ((nI 0), s11) else (aget s11 90 (nI 0)).bind fun v12 => (aget s11 90 (nI 1)).bind fun v13 => (aget s11 90 (nI 2)).bind fun v14 => (aget s11 90 (nI 3)).bind fun v15 => (f_X8_layStreet 89 v12 v13 v14 v15 s11).bind fun s16 => some ((nI 1), s16)) := by
      intro z
      by_cases g2 : tK T len p2 = 2
      · have hne : tV T len p2 ≠ tV T len p1 := fun y => z ⟨g2, y⟩
        rcases S8_step (ns := ns) (kd := 1) (n := 2) (k := 1) (lo := nI 0) (hi := nI 7) b3 b5 b4 (by decide) b6 (fit_11 (by rw [upd_s]; exact hne)) with ⟨u3, c1, c2, c3, c4, c5, c6, c7⟩ | ⟨c1, c7⟩
        · rw [c1, ob2_some, if_neg n1, c7]
          clear c7 c1
          generalize upd (upd (fun _ => nI 0) 0 (tV T len p1)) 1 (tV T len p2) = r2 at c6 ⊢
          generalize tE T len p2 = p3 at c4 c5 ⊢
          rcases S8_step (ns := ns) (kd := 1) (n := 1) (k := 2) (lo := nI 1) (hi := nI 9) c3 c5 c4 (by decide) c6 fit_12 with ⟨u4, d1, d2, d3, d4, d5, d6, d7⟩ | ⟨d1, d7⟩
          · rw [d1, ob2_some, if_neg n1, d7]
            clear d7 d1
            generalize upd r2 2 (tV T len p3) = r3 at d6 ⊢
            generalize tE T len p3 = p4 at d4 d5 ⊢
            rcases S8_step (ns := ns) (kd := 1) (n := 0) (k := 3) (lo := nI 0) (hi := nI 15) d3 d5 d4 (by decide) d6 (fit_g (by decide) (by decide) (upd_s _ _ _) rfl (by decide)) with ⟨u5, f1, f2, f3, f4, f5, f6, f7⟩ | ⟨f1, f7⟩
            · rw [f1, ob2_some, if_neg n1, f7]
              have k5 := ((k2.tr c2).tr d2).tr f2
              have e89 : u5 89 = u 89 := k5.1 89 (by decide) (by decide)
              rw [ag _ 90 (show 0 < alen 90 by decide) (by decide), ob_s, ag _ 90 (show 1 < alen 90 by decide) (by decide), ob_s, ag _ 90 (show 2 < alen 90 by decide) (by decide), ob_s, ag _ 90 (show 3 < alen 90 by decide) (by decide), ob_s]
              obtain ⟨u6, g3, g4, g5⟩ := S8_layStreet (s := u5) (c := 89) (ns := ns) (by decide) (by rw [e89, m1 0 (by decide), m2]) (by omega) (u5 90 0) (u5 90 1) (u5 90 2) (u5 90 3)
              rw [g3, ob_s]
              refine ⟨u6, rfl, k5.kf.tr ⟨fun c c1 c2 c3 => g4 c c2, by rw [g4 70 (by decide)]⟩, ?_, f5, fun i hi => ?_, rfl, ?_, rfl, show ns + 1 ≤ 7 by omega, m6⟩
              · unfold RS
                rw [g4 70 (by decide)]
                exact f4
              · show u6 89 i = strN M ns _ i
                by_cases e4 : i = 4
                · subst e4
                  rw [g5, upd_n _ _ (by omega), upd_n _ _ (by omega), upd_n _ _ (by omega), upd_n _ _ (by omega), upd_n _ _ (by omega), e89, m1 4 (by decide), m4]
                  rfl
                · have := congrFun (str_lay (u 89) ns (u5 90)) i
                  rw [upd_n _ _ e4] at this
                  rw [g5, e89, this]
                  exact strN_c (m1 i hi) (fun k hk => f6 k (by omega))
              · show strN M ns _ 1 = nI ne
                rw [strN_o _ _ _ (by decide) (by decide) (by omega)]
                exact m3
            · rw [f1, ob2_some, if_pos n0, f7]
              exact ⟨u4, rfl, (((k2.tr c2).tr d2)).kf, d4.1⟩
          · rw [d1, ob2_some, if_pos n0, d7]
            exact ⟨u3, rfl, ((k2.tr c2)).kf, c4.1⟩
        · rw [c1, ob2_some, if_pos n0, c7]
          exact ⟨u2, rfl, k2.kf, b4.1⟩
      · have c1 := (S8_takes b3 b5 b4 (show 1 < 6 by decide) (nI 0) (nI 7)).2 (fun y => g2 y.1)
        rw [c1, ob2_some, if_pos n0, vlS_e _ _ _ _ _ _ (fun y => g2 y.1)]
        exact ⟨u2, rfl, k2.kf, b4.1⟩
    by_cases g2 : tK T len p2 = 2
    · rw [if_pos g2, b4.2.2.2 g2]
      by_cases g3 : tV T len p2 = tV T len p1
      · rw [if_pos g3]
        exact same ⟨g2, g3⟩
      · rw [if_neg g3]
        exact other (fun y => g3 y.2)
    · rw [if_neg g2]
      exact other (fun y => g2 y.1)
  · rw [b1, ob2_some, if_pos n0, b7]
    exact ⟨u1, rfl, a2.kt.kf, a3.1⟩
theorem S8_readsEvent (h : RX u T len) (hp : p ≤ len) (hs : RS u T len p) (hM : NW8 u M ns ne) (hn : ne ≠ 8) : PQ u T len 2 M ns ne (vlS T len 2 ns 6 0 (fun _ => nI 0) (tE T len p)) (f_X8_readsEvent u) := by
  obtain ⟨m1, m2, m3, m4, m5, m6⟩ := id hM
  have n1 : ¬ nI 1 = 0 := by decide
  have n0 : nI 0 = 0 := rfl
  unfold f_X8_readsEvent
  rw [ag _ 89 (show 1 < 115 by decide) (by decide), ob_s, m1 1 (by decide), m3, ife _ _ (by omega) (by decide), if_neg hn]
  obtain ⟨u1, a1, a2, a3⟩ := S8_goOn h hp hs
  have x1 := h.k a2
  have q1 := (tE_le (T := T) hp).2
  rw [a1, ob_s]
  generalize tE T len p = p1 at a3 q1
  rcases S8_step (ns := ns) (kd := 2) (n := 5) (r := fun _ => nI 0) (lo := nI 0) (hi := nI 5) x1 q1 a3 (show 0 < 6 by decide) (fun i hi => absurd hi (by omega)) (fit_g (by decide) (by decide) (upd_s _ _ _) rfl (by decide)) with ⟨u2, b1, b2, b3, b4, b5, b6, b7⟩ | ⟨b1, b7⟩
  · rw [b1, ob2_some, if_neg n1, b7]
    have k2 := a2.kt.tr b2
    clear b7 b1
    generalize upd (fun _ => nI 0) 0 (tV T len p1) = r1 at b6 ⊢
    generalize tE T len p1 = p2 at b4 b5 ⊢
    rw [ag _ 89 (show 0 < 115 by decide) (by decide), ob_s, k2.1 89 (by decide) (by decide), m1 0 (by decide), m2]
    rcases S8_step (ns := ns) (kd := 2) (n := 4) (k := 1) (lo := nI 0) (hi := nI ns - nI 1) b3 b5 b4 (by decide) b6 (fit_21 (by omega)) with ⟨u3, c1, c2, c3, c4, c5, c6, c7⟩ | ⟨c1, c7⟩
    · rw [c1, ob2_some, if_neg n1, c7]
      clear c7 c1
      generalize upd r1 1 (tV T len p2) = r2 at c6 ⊢
      generalize tE T len p2 = p3 at c4 c5 ⊢
      rcases S8_step (ns := ns) (kd := 2) (n := 3) (k := 2) (lo := nI 0) (hi := nI 23) c3 c5 c4 (by decide) c6 (fit_g (by decide) (by decide) (upd_s _ _ _) rfl (by decide)) with ⟨u4, d1, d2, d3, d4, d5, d6, d7⟩ | ⟨d1, d7⟩
      · rw [d1, ob2_some, if_neg n1, d7]
        clear d7 d1
        generalize upd r2 2 (tV T len p3) = r3 at d6 ⊢
        generalize tE T len p3 = p4 at d4 d5 ⊢
        rcases S8_step (ns := ns) (kd := 2) (n := 2) (k := 3) (lo := nI 0) (hi := nI 9) d3 d5 d4 (by decide) d6 (fit_g (by decide) (by decide) (upd_s _ _ _) rfl (by decide)) with ⟨u5, f1, f2, f3, f4, f5, f6, f7⟩ | ⟨f1, f7⟩
        · rw [f1, ob2_some, if_neg n1, f7]
          clear f7 f1
          generalize upd r3 3 (tV T len p4) = r4 at f6 ⊢
          generalize tE T len p4 = p5 at f4 f5 ⊢
          rcases S8_step (ns := ns) (kd := 2) (n := 1) (k := 4) (lo := nI 0) (hi := nI 9) f3 f5 f4 (by decide) f6 (fit_g (by decide) (by decide) (upd_s _ _ _) rfl (by decide)) with ⟨u6, g1, g2, g3, g4, g5, g6, g7⟩ | ⟨g1, g7⟩
          · rw [g1, ob2_some, if_neg n1, g7]
            clear g7 g1
            generalize upd r4 4 (tV T len p5) = r5 at g6 ⊢
            generalize tE T len p5 = p6 at g4 g5 ⊢
            rcases S8_step (ns := ns) (kd := 2) (n := 0) (k := 5) (lo := nI 0) (hi := nI 15) g3 g5 g4 (by decide) g6 (fit_g (by decide) (by decide) (upd_s _ _ _) rfl (by decide)) with ⟨u7, i1, i2, i3, i4, i5, i6, i7⟩ | ⟨i1, i7⟩
            · rw [i1, ob2_some, if_neg n1, i7]
              have k7 := ((((k2.tr c2).tr d2).tr f2).tr g2).tr i2
              have e89 : u7 89 = u 89 := k7.1 89 (by decide) (by decide)
              rw [ag _ 90 (show 0 < alen 90 by decide) (by decide), ob_s, ag _ 90 (show 1 < alen 90 by decide) (by decide), ob_s, ag _ 90 (show 2 < alen 90 by decide) (by decide), ob_s, ag _ 90 (show 3 < alen 90 by decide) (by decide), ob_s, ag _ 90 (show 4 < alen 90 by decide) (by decide), ob_s, ag _ 90 (show 5 < alen 90 by decide) (by decide), ob_s]
              obtain ⟨u8, j3, j4, j5⟩ := S8_layEvent (s := u7) (c := 89) (ne := ne) (by decide) (by rw [e89, m1 1 (by decide), m3]) (by omega) (u7 90 0) (u7 90 1) (u7 90 2) (u7 90 3) (u7 90 4) (u7 90 5)
              rw [j3, ob_s]
              refine ⟨u8, rfl, k7.kf.tr ⟨fun c c1 c2 c3 => j4 c c2, by rw [j4 70 (by decide)]⟩, ?_, i5, fun i hi => ?_, ?_, rfl, ?_, m5, show ne + 1 ≤ 8 by omega⟩
              · unfold RS
                rw [j4 70 (by decide)]
                exact i4
              · show u8 89 i = evtN M ne _ i
                rw [j5, e89, evt_lay (u 89) ne (u7 90)]
                exact evtN_c (m1 i hi) (fun k hk => i6 k (by omega))
              · show evtN M ne _ 0 = nI ns
                rw [evtN_o _ _ _ (by decide) (by omega)]
                exact m2
              · show evtN M ne _ 4 = nI 0
                rw [evtN_o _ _ _ (by decide) (by omega)]
                exact m4
            · rw [i1, ob2_some, if_pos n0, i7]
              exact ⟨u6, rfl, ((((k2.tr c2).tr d2).tr f2).tr g2).kf, g4.1⟩
          · rw [g1, ob2_some, if_pos n0, g7]
            exact ⟨u5, rfl, (((k2.tr c2).tr d2).tr f2).kf, f4.1⟩
        · rw [f1, ob2_some, if_pos n0, f7]
          exact ⟨u4, rfl, ((k2.tr c2).tr d2).kf, d4.1⟩
      · rw [d1, ob2_some, if_pos n0, d7]
        exact ⟨u3, rfl, (k2.tr c2).kf, c4.1⟩
    · rw [c1, ob2_some, if_pos n0, c7]
      exact ⟨u2, rfl, k2.kf, b4.1⟩
  · rw [b1, ob2_some, if_pos n0, b7]
    exact ⟨u1, rfl, a2.kt.kf, a3.1⟩
theorem S8_readsRent (h : RX u T len) (hp : p ≤ len) (hs : RS u T len p) (hM : NW8 u M ns ne) : PQ u T len 3 M ns ne (vlS T len 3 ns 2 0 (fun _ => nI 0) (tE T len p)) (f_X8_readsRent u) := by
  obtain ⟨m1, m2, m3, m4, m5, m6⟩ := id hM
  have n1 : ¬ nI 1 = 0 := by decide
  have n0 : nI 0 = 0 := rfl
  unfold f_X8_readsRent
  obtain ⟨u1, a1, a2, a3⟩ := S8_goOn h hp hs
  have x1 := h.k a2
  have q1 := (tE_le (T := T) hp).2
  rw [a1, ob_s]
  generalize tE T len p = p1 at a3 q1
  rcases S8_step (ns := ns) (kd := 3) (n := 1) (r := fun _ => nI 0) (lo := nI 0) (hi := nI 15) x1 q1 a3 (show 0 < 6 by decide) (fun i hi => absurd hi (by omega)) (fit_g (by decide) (by decide) (upd_s _ _ _) rfl (by decide)) with ⟨u2, b1, b2, b3, b4, b5, b6, b7⟩ | ⟨b1, b7⟩
  · have hw : nI 0 ≤ tV T len p1 ∧ tV T len p1 ≤ nI 15 := by
      apply Classical.byContradiction
      intro z
      have := (S8_takes x1 q1 a3 (show 0 < 6 by decide) (nI 0) (nI 15)).2 (fun y => z y.2)
      rw [b1] at this
      have e := congrArg Prod.fst (Option.some.inj this)
      exact absurd (show nI 1 = nI 0 from e) (by decide)
    rw [b1, ob2_some, if_neg n1, b7]
    have k2 := a2.kt.tr b2
    clear b7 b1
    obtain ⟨w, hw2, ew⟩ := rngB (n := 16) (by decide) ((in_B _ (by decide)).mp hw)
    have r0 : upd (fun _ => nI 0) 0 (tV T len p1) 0 = nI w := by rw [upd_s, ew]
    generalize upd (fun _ => nI 0) 0 (tV T len p1) = r1 at b6 r0 ⊢
    generalize tE T len p1 = p2 at b4 b5 ⊢
    rcases S8_step (ns := ns) (kd := 3) (n := 0) (k := 1) (lo := nI 0) (hi := nI 99) b3 b5 b4 (by decide) b6 (fit_g (by decide) (by decide) (upd_s _ _ _) rfl (by decide)) with ⟨u3, c1, c2, c3, c4, c5, c6, c7⟩ | ⟨c1, c7⟩
    · rw [c1, ob2_some, if_neg n1, c7]
      have k3 := k2.tr c2
      have e89 : u3 89 = u 89 := k3.1 89 (by decide) (by decide)
      have y0 : upd r1 1 (tV T len p2) 0 = nI w := by rw [upd_n _ _ (by decide), r0]
      rw [ag _ 90 (show 0 < alen 90 by decide) (by decide), ob_s, ag _ 90 (show 1 < alen 90 by decide) (by decide), ob_s, c6 0 (by decide), c6 1 (by decide), y0, nadd, as _ 89 _ (show 81 + w < 115 by omega), ob_s]
      refine ⟨_, rfl, k3.kf.tr ⟨fun c c1 c2 c3 => sts_n _ _ _ c2, by rw [sts_n _ _ _ (by decide)]⟩, ?_, c5, fun i hi => ?_, ?_, ?_, ?_, m5, m6⟩
      · unfold RS
        rw [sts_n _ _ _ (by decide)]
        exact c4
      · show _ = upd M (81 + (upd r1 1 (tV T len p2) 0).toNatClampNeg) (upd r1 1 (tV T len p2) 1) i
        rw [y0, nIc (by omega), sts_c, e89]
        by_cases e : i = 81 + w
        · rw [e, upd_s, upd_s, upd_s]
        · rw [upd_n _ _ e, upd_n _ _ e]
          exact m1 i hi
      · show upd M (81 + (upd r1 1 (tV T len p2) 0).toNatClampNeg) (upd r1 1 (tV T len p2) 1) 0 = nI ns
        rw [upd_n _ _ (by omega)]; exact m2
      · show upd M (81 + (upd r1 1 (tV T len p2) 0).toNatClampNeg) (upd r1 1 (tV T len p2) 1) 1 = nI ne
        rw [upd_n _ _ (by omega)]; exact m3
      · show upd M (81 + (upd r1 1 (tV T len p2) 0).toNatClampNeg) (upd r1 1 (tV T len p2) 1) 4 = nI 0
        rw [upd_n _ _ (by omega)]; exact m4
    · rw [c1, ob2_some, if_pos n0, c7]
      exact ⟨u2, rfl, k2.kf, b4.1⟩
  · rw [b1, ob2_some, if_pos n0, b7]
    exact ⟨u1, rfl, a2.kt.kf, a3.1⟩
end RITEM
