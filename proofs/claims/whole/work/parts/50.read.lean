/-! READ: both sides -/
section READ8
variable {u : Sg} {T : Nat → Nat} {len p : Nat} {M : Nat → Int32} {ns ne : Nat}
theorem nkd_0 : nkd T len p = 0 ↔ wdP T len (strs 0) p := by
  unfold nkd
  by_cases w0 : wdP T len (strs 0) p
  · rw [if_pos w0]
    exact ⟨fun _ => w0, fun _ => rfl⟩
  · rw [if_neg w0]
    refine ⟨fun z => ?_, fun z => absurd z w0⟩
    by_cases w1 : wdP T len (strs 1) p
    · rw [if_pos w1] at z; cases z
    rw [if_neg w1] at z
    by_cases w2 : wdP T len (strs 2) p
    · rw [if_pos w2] at z; cases z
    rw [if_neg w2] at z
    by_cases w3 : wdP T len (strs 3) p
    · rw [if_pos w3] at z; cases z
    rw [if_neg w3] at z; cases z
theorem w0_no {q : Nat} (hq : q = 1 ∨ q = 2 ∨ q = 3) (h : wdP T len (strs 0) p) : ¬ wdP T len (strs q) p := by
  intro h2
  obtain ⟨a, b⟩ := h.one h2
  rcases hq with rfl | rfl | rfl
  · exact absurd a (by decide)
  · exact absurd a (by decide)
  · exact absurd (b 0 (by decide)) (by decide)
theorem S8_town (h : RX u T len) (hp : p ≤ len) (hs : RS u T len p) : (wdP T len (strs 0) p → f_X8_isCalled (nI 4) (nI 116) (nI 111) (nI 119) (nI 110) (nI 0) (nI 0) u = some (nI 1)) ∧ (¬ wdP T len (strs 0) p → f_X8_isCalled (nI 4) (nI 116) (nI 111) (nI 119) (nI 110) (nI 0) (nI 0) u = some (nI 0)) := S8_isCalled h hp hs (l := strs 0) (by decide) (by decide) (by decide)
theorem S8_str (h : RX u T len) (hp : p ≤ len) (hs : RS u T len p) : (wdP T len (strs 1) p → f_X8_isCalled (nI 6) (nI 115) (nI 116) (nI 114) (nI 101) (nI 101) (nI 116) u = some (nI 1)) ∧ (¬ wdP T len (strs 1) p → f_X8_isCalled (nI 6) (nI 115) (nI 116) (nI 114) (nI 101) (nI 101) (nI 116) u = some (nI 0)) := S8_isCalled h hp hs (l := strs 1) (by decide) (by decide) (by decide)
theorem S8_evt (h : RX u T len) (hp : p ≤ len) (hs : RS u T len p) : (wdP T len (strs 2) p → f_X8_isCalled (nI 5) (nI 101) (nI 118) (nI 101) (nI 110) (nI 116) (nI 0) u = some (nI 1)) ∧ (¬ wdP T len (strs 2) p → f_X8_isCalled (nI 5) (nI 101) (nI 118) (nI 101) (nI 110) (nI 116) (nI 0) u = some (nI 0)) := S8_isCalled h hp hs (l := strs 2) (by decide) (by decide) (by decide)
theorem S8_rnt (h : RX u T len) (hp : p ≤ len) (hs : RS u T len p) : (wdP T len (strs 3) p → f_X8_isCalled (nI 4) (nI 114) (nI 101) (nI 110) (nI 116) (nI 0) (nI 0) u = some (nI 1)) ∧ (¬ wdP T len (strs 3) p → f_X8_isCalled (nI 4) (nI 114) (nI 101) (nI 110) (nI 116) (nI 0) (nI 0) u = some (nI 0)) := S8_isCalled h hp hs (l := strs 3) (by decide) (by decide) (by decide)
def PFf8 (u : Sg) (T : Nat → Nat) (len p0 : Nat) (I : Nat ⊕ (Nat × (Nat → Int32) × Nat)) (o : Option (Int32 × Sg)) : Prop := match I with
  | .inl e => ∃ s2, o = some (nI 0, s2) ∧ KF u s2 ∧ s2 70 23 = nI e
  | .inr (kd, r, q) => kd = 0 ∧ ∃ s2 q2, o = some (nI 1, s2) ∧ KF u s2 ∧ RS s2 T len q2 ∧ q2 ≤ len ∧ q = tE T len q2 ∧ p0 < q ∧ NW8 s2 (M0N (r 0)) 0 0
theorem S8_readsFirst (h : RX u T len) (hp : p ≤ len) (hs : RS u T len p) : PFf8 u T len p (itS T len 1 0 0 p) (f_X8_readsFirst u) := by
  have n1 : ¬ nI 1 = 0 := by decide
  have n0 : nI 0 = 0 := rfl
  obtain ⟨w1, w2⟩ := S8_town h hp hs
  unfold f_X8_readsFirst
  by_cases w : wdP T len (strs 0) p
  · have hk : nkd T len p = 0 := nkd_0.mpr w
    rw [itS_s (by rw [hk]; exact ⟨by decide, ⟨fun _ => rfl, fun _ => rfl⟩, fun z => absurd z.1 (by decide), fun z => absurd z.1 (by decide)⟩), hk]
    rw [w1 w, ob_s, if_neg n1]
    obtain ⟨u1, a1, a2, a3⟩ := S8_goOn h hp hs
    have x1 := h.k a2
    have q1 := (tE_le (T := T) hp).2
    have pq : p < tE T len p := tE_gt hp (by rw [w.1]; decide)
    rw [a1, ob_s]
    generalize tE T len p = p1 at a3 q1 pq ⊢
    have fin : ∀ (z : Sg) (x : Int32) (q2 : Nat), KT u z → RS z T len q2 → ∃ z2, f_X8_begin 89 x z = some z2 ∧ KF u z2 ∧ RS z2 T len q2 ∧ NW8 z2 (M0N x) 0 0 := by
      intro z x q2 hz hr
      obtain ⟨z2, e1, e2, e3⟩ := S8_begin (c := 89) (by decide) x z
      refine ⟨z2, e1, hz.kf.tr ⟨fun c c1 c2 c3 => e2 c c2, by rw [e2 70 (by decide)]⟩, ?_, fun i hi => ?_, rfl, rfl, rfl, by omega, by omega⟩
      · unfold RS
        rw [e2 70 (by decide)]
        exact hr
      · rw [e3]
        unfold bgN M0N
        by_cases e : i = 2
        · rw [e, upd_s, upd_s]
        · rw [upd_n _ _ e, upd_n _ _ e, if_pos hi]
    rcases S8_step (ns := 0) (kd := 0) (n := 0) (r := fun _ => nI 0) (lo := nI 0) (hi := nI 2) x1 q1 a3 (show 0 < 6 by decide) (fun i hi => absurd hi (by omega)) (fit_g (by decide) (by decide) (upd_s _ _ _) rfl (by decide)) with ⟨u2, b1, b2, b3, b4, b5, b6, b7⟩ | ⟨b1, b7⟩
    · have e90 : aget u2 90 (nI 0) = some (upd (fun _ => nI 0) 0 (tV T len p1) 0) := by rw [ag _ 90 (show 0 < alen 90 by decide) (by decide), b6 0 (by decide)]
      have hv : vlS T len 0 0 (cntN 0) 0 (fun _ => nI 0) p1 = .inr (upd (fun _ => nI 0) 0 (tV T len p1), tE T len p1) := b7
      rw [b1, ob2_some, nm_eq, if_neg n1, e90, ob_s, hv]
      obtain ⟨z2, e1, e2, e3, e4⟩ := fin u2 (upd (fun _ => nI 0) 0 (tV T len p1) 0) (tE T len p1) (a2.kt.tr b2) b4
      dsimp only
      rw [e1, ob_s, if_neg n1]
      show PFf8 u T len p (if tK T len (tE T len p1) = 3 then .inr (0, _, tE T len (tE T len p1)) else .inl (tS T len (tE T len p1))) _
      have kk := tK_lt (T := T) (len := len) (p := tE T len p1)
      have h1 := tE_le (T := T) q1
      have h2 := tS_le (T := T) q1
      rw [e3.2.2.1, ife _ _ (by omega) (by decide)]
      by_cases g : tK T len (tE T len p1) = 3
      · rw [if_pos g, if_pos g]
        have h3 := tE_le (T := T) b5
        have h4 := tS_le (T := T) b5
        exact ⟨rfl, z2, tE T len p1, rfl, e2, e3, b5, rfl, by omega, e4⟩
      · rw [if_neg g, if_neg g]
        exact ⟨z2, rfl, e2, e3.1⟩
    · have hv : vlS T len 0 0 (cntN 0) 0 (fun _ => nI 0) p1 = .inl (tS T len p1) := b7
      rw [b1, ob2_some, nm_eq, if_pos n0, hv]
      obtain ⟨z2, e1, e2, e3, e4⟩ := fin u1 (nI 0) p1 a2.kt a3
      dsimp only
      rw [e1, ob_s, if_pos n0]
      exact ⟨z2, rfl, e2, e3.1⟩
  · rw [w2 w, ob_s, if_pos n0, itS_e (fun z => w (nkd_0.mp (z.2.1.mp rfl)))]
    exact ⟨u, rfl, KF.rf u, hs.1⟩
theorem S8_readsItem (h : RX u T len) (hp : p ≤ len) (hs : RS u T len p) (hM : NW8 u M ns ne) : ((nkd T len p < 4 ∧ nkd T len p ≠ 0 ∧ ¬ (nkd T len p = 1 ∧ ns = 7) ∧ ¬ (nkd T len p = 2 ∧ ne = 8)) → PQ u T len (nkd T len p) M ns ne (vlS T len (nkd T len p) ns (cntN (nkd T len p)) 0 (fun _ => nI 0) (tE T len p)) (f_X8_readsItem u)) ∧ (¬ (nkd T len p < 4 ∧ nkd T len p ≠ 0 ∧ ¬ (nkd T len p = 1 ∧ ns = 7) ∧ ¬ (nkd T len p = 2 ∧ ne = 8)) → f_X8_readsItem u = some (nI 0, u)) := by
  obtain ⟨m1, m2, m3, m4, m5, m6⟩ := id hM
  have n1 : ¬ nI 1 = 0 := by decide
  have n0 : nI 0 = 0 := rfl
  have a00 : nI 0 &&& 1 = nI 0 := by decide
  have a11 : nI 1 &&& 1 = nI 1 := by decide
  obtain ⟨p1, p2⟩ := S8_str h hp hs
  obtain ⟨q1, q2⟩ := S8_evt h hp hs
  obtain ⟨r1, r2⟩ := S8_rnt h hp hs
  have msk : ∀ (kd : Nat) (R : Nat ⊕ ((Nat → Int32) × Nat)) (o : Option (Int32 × Sg)), PQ u T len kd M ns ne R o → PQ u T len kd M ns ne R (ob2 o fun (v : Int32) (s2 : Sg) => some (v &&& 1, s2)) := by
    intro kd R o ho
    cases R with
    | inl e =>
      obtain ⟨s2, e1, e2⟩ := ho
      exact ⟨s2, by rw [e1, ob2_some, a00], e2⟩
    | inr x =>
      obtain ⟨r, q⟩ := x
      obtain ⟨s2, e1, e2⟩ := ho
      exact ⟨s2, by rw [e1, ob2_some, a11], e2⟩
  have msk2 : ∀ (kd : Nat) (R : Nat ⊕ ((Nat → Int32) × Nat)) (o : Option (Int32 × Sg)), PQ u T len kd M ns ne R o → PQ u T len kd M ns ne R (ob2 o fun (v4 : Int32) (s5 : Sg) => if v4 = 0 then some ((nI 0), s5) else some ((nI 1), s5)) := by
    intro kd R o ho
    cases R with
    | inl e =>
      obtain ⟨s2, e1, e2⟩ := ho
      exact ⟨s2, by rw [e1, ob2_some, if_pos n0], e2⟩
    | inr x =>
      obtain ⟨r, q⟩ := x
      obtain ⟨s2, e1, e2⟩ := ho
      exact ⟨s2, by rw [e1, ob2_some, if_neg n1], e2⟩
  unfold f_X8_readsItem
  by_cases w0 : wdP T len (strs 0) p
  · have hk : nkd T len p = 0 := nkd_0.mpr w0
    rw [p2 (w0_no (Or.inl rfl) w0), ob_s, if_pos n0, q2 (w0_no (Or.inr (Or.inl rfl)) w0), ob_s, if_pos n0, r2 (w0_no (Or.inr (Or.inr rfl)) w0), ob_s, if_pos n0]
    exact ⟨fun z => absurd hk z.2.1, fun _ => rfl⟩
  by_cases w1 : wdP T len (strs 1) p
  · have hk : nkd T len p = 1 := by unfold nkd; rw [if_neg w0, if_pos w1]
    rw [p1 w1, ob_s, if_neg n1, hk]
    refine ⟨fun z => msk 1 _ _ (S8_readsStreet h hp hs hM (fun y => z.2.2.1 ⟨rfl, y⟩)), fun z => ?_⟩
    have : ns = 7 := Classical.byContradiction (fun y => z ⟨by decide, by decide, fun x => y x.2, fun x => absurd x.1 (by decide)⟩)
    have hf : f_X8_readsStreet u = some (nI 0, u) := by
      unfold f_X8_readsStreet
      rw [ag _ 89 (show 0 < 115 by decide) (by decide), ob_s, m1 0 (by decide), m2, ife _ _ (by omega) (by decide), if_pos this]
    rw [hf, ob2_some, a00]
  rw [p2 w1, ob_s, if_pos n0]
  by_cases w2 : wdP T len (strs 2) p
  · have hk : nkd T len p = 2 := by unfold nkd; rw [if_neg w0, if_neg w1, if_pos w2]
    rw [q1 w2, ob_s, if_neg n1, hk]
    refine ⟨fun z => msk 2 _ _ (S8_readsEvent h hp hs hM (fun y => z.2.2.2 ⟨rfl, y⟩)), fun z => ?_⟩
    have : ne = 8 := Classical.byContradiction (fun y => z ⟨by decide, by decide, fun x => absurd x.1 (by decide), fun x => y x.2⟩)
    have hf : f_X8_readsEvent u = some (nI 0, u) := by
      unfold f_X8_readsEvent
      rw [ag _ 89 (show 1 < 115 by decide) (by decide), ob_s, m1 1 (by decide), m3, ife _ _ (by omega) (by decide), if_pos this]
    rw [hf, ob2_some, a00]
  rw [q2 w2, ob_s, if_pos n0]
  by_cases w3 : wdP T len (strs 3) p
  · have hk : nkd T len p = 3 := by unfold nkd; rw [if_neg w0, if_neg w1, if_neg w2, if_pos w3]
    rw [r1 w3, ob_s, if_neg n1, hk]
    exact ⟨fun z => msk2 3 _ _ (S8_readsRent h hp hs hM), fun z => absurd ⟨by decide, by decide, fun x => absurd x.1 (by decide), fun x => absurd x.1 (by decide)⟩ z⟩
  · have hk : nkd T len p = 4 := by unfold nkd; rw [if_neg w0, if_neg w1, if_neg w2, if_neg w3]
    rw [r2 w3, ob_s, if_pos n0, hk]
    exact ⟨fun z => absurd z.1 (by decide), fun _ => rfl⟩
theorem S8_store (a : Int32) (s : Sg) : lp2_ (b_X8_read_68 a) fu (nI 0) s = some (a, setc s 71 (cpR (s 71) (s 89) 0 0 115)) := by
  refine lp2_ix (fun o => o = some (a, setc s 71 (cpR (s 71) (s 89) 0 0 115))) (fun k (st : Sg) => st = setc s 71 (cpR (s 71) (s 89) 0 0 k)) 0 115 (by omega) ?_ ?_ (by omega) s ?_
  · rintro self k st - hk rfl
    right
    unfold b_X8_read_68
    rw [ifle _ _ (by omega) (by omega), if_neg (by omega), ag _ 89 (show k < 115 from hk) (by omega), ob_s, as _ 71 _ (show k < 515 by omega), ob_s, nadd, setc_n _ _ (show 89 ≠ 71 by decide)]
    refine ⟨_, rfl, ?_⟩
    have := cpR_s (s 71) (s 89) 0 0 k
    rw [Nat.zero_add] at this
    unfold sts
    rw [setc_s, this]
    funext d
    unfold setc
    by_cases q : d = 71
    · rw [if_pos q, if_pos q]
    · rw [if_neg q, if_neg q, if_neg q]
  · rintro self st rfl
    unfold b_X8_read_68
    rw [ifle _ _ (by omega) (by omega), if_pos (by omega)]
  · funext d
    unfold setc
    by_cases q : d = 71
    · rw [if_pos q, q, cpR_0]
    · rw [if_neg q]
def PZ (u : Sg) (R : Nat ⊕ (Nat × (Nat → Int32) × Nat × Nat)) (o : Option (Int32 × Sg)) : Prop := match R with
  | .inl e => ∃ s2, o = some (-10 - nI e, s2) ∧ KF u s2
  | .inr (i, M, ns, ne) => ∃ s2, o = some (nI i, setc s2 71 (cpR (u 71) (s2 89) 0 0 115)) ∧ KF u s2 ∧ NW8 s2 M ns ne
theorem S8_read (h : RX u T len) : PZ u (rdS T len 151 0 (fun _ => nI 0) 0 0 0) (f_X8_read u) := by
  have hl := h.1
  have n1 : ¬ nI 1 = 0 := by decide
  have n0 : nI 0 = 0 := rfl
  generalize hR : rdS T len 151 0 (fun _ => nI 0) 0 0 0 = R
  have h151 : rdS T len 151 0 (fun _ => nI 0) 0 0 0 = match itS T len 1 0 0 0 with
      | .inl e => .inl e
      | .inr (kd, r, q) => rdS T len 150 1 (apM kd (fun _ => nI 0) 0 0 r) (apS kd 0) (apE kd 0) q := if_neg (fun z => absurd z.2 (by decide))
  rw [h151] at hR
  unfold f_X8_read
  obtain ⟨u1, a1, a2, a3⟩ := S8_look h (show 0 ≤ len by omega)
  rw [a1, ob_s]
  have hf := S8_readsFirst (h.k a2) (show 0 ≤ len by omega) a3
  generalize itS T len 1 0 0 0 = I at hR hf
  cases I with
  | inl e =>
    obtain ⟨u2, b1, b2, b3⟩ := hf
    rw [b1, ob2_some, if_pos n0, b3, ← hR]
    exact ⟨u2, rfl, a2.kt.kf.tr b2⟩
  | inr x =>
    obtain ⟨kd, r, q⟩ := x
    obtain ⟨rfl, u2, q2, b1, b2, b3, b4, b5, b6, b7⟩ := hf
    rw [b1, ob2_some, if_neg n1]
    have k2 := a2.kt.kf.tr b2
    obtain ⟨u3, c1, c2, c3⟩ := S8_goOn (h.f k2) b4 b3
    rw [c1, ob_s, nm_eq]
    have k3 : KF u u3 := k2.tr c2.kt.kf
    have qle := (tE_le (T := T) b4).2
    rw [← b5] at c3 qle
    have hR2 : rdS T len 150 1 (M0N (r 0)) 0 0 q = R := hR
    refine lp2_po (fun o => PZ u R o) (fun d (j : Int32) (st : Sg) => ∃ (i : Nat) (M : Nat → Int32) (ns ne p : Nat), j = nI i ∧ 0 < i ∧ rdS T len d i M ns ne p = R ∧ KF u st ∧ RS st T len p ∧ p ≤ len ∧ len < p + d ∧ i ≤ p ∧ NW8 st M ns ne) ?_ fu 150 _ _ (fu_ge (by omega)) ⟨1, _, 0, 0, q, rfl, by decide, hR2, k3, c3, qle, by omega, by omega, b7.c (c2.1 89 (by decide))⟩
    rintro self d j st ⟨i, M, ns, ne, p, rfl, hi0, hr, k1, hs, hp, hd, hi, hN⟩
    obtain ⟨d, rfl⟩ : ∃ d', d = d' + 1 := ⟨d - 1, by omega⟩
    have hx := h.f k1
    obtain ⟨t1, t2⟩ := tE_le (T := T) hp
    have kk := tK_lt (T := T) (len := len) (p := p)
    unfold b_X8_read_26
    rw [hs.2.2.1]
    have z4 : (nI (tK T len p) = 0) ↔ tK T len p = 0 := nI_eq (b := 0) (by omega) (by decide)
    by_cases g0 : tK T len p = 0
    · left
      rw [if_pos (z4.mpr g0)]
      have : rdS T len (d + 1) i M ns ne p = .inr (i, M, ns, ne) := if_pos ⟨g0, hi0⟩
      rw [← hr, this]
      dsimp only
      rw [S8_store, k1.1 71 (by decide) (by decide) (by decide)]
      exact ⟨st, rfl, k1, hN⟩
    · rw [if_neg (fun z => g0 (z4.mp z))]
      have hrd : rdS T len (d + 1) i M ns ne p = match itS T len (if i = 0 then 1 else 0) ns ne p with
          | .inl e => .inl e
          | .inr (kd, r, q) => rdS T len d (i + 1) (apM kd M ns ne r) (apS kd ns) (apE kd ne) q := if_neg (fun z => g0 z.1)
      rw [hrd, if_neg (show ¬ i = 0 by omega)] at hr
      obtain ⟨y1, y2⟩ := S8_readsItem hx hp hs hN
      by_cases gc : nkd T len p < 4 ∧ nkd T len p ≠ 0 ∧ ¬ (nkd T len p = 1 ∧ ns = 7) ∧ ¬ (nkd T len p = 2 ∧ ne = 8)
      · have hq := y1 gc
        rw [itS_s ⟨gc.1, ⟨fun z => absurd z (by decide), fun z => absurd z gc.2.1⟩, gc.2.2⟩] at hr
        have hgt := tE_gt hp (show tK T len p ≠ 0 from g0)
        have hpq : ∀ r q, vlS T len (nkd T len p) ns (cntN (nkd T len p)) 0 (fun _ => nI 0) (tE T len p) = .inr (r, q) → tE T len p ≤ q := by
          have : ∀ n k r0 p0, p0 ≤ len → ∀ r q, vlS T len (nkd T len p) ns n k r0 p0 = .inr (r, q) → p0 ≤ q := by
            intro n
            induction n with
            | zero =>
              intro k r0 p0 hp0 r q e
              have e' : (Sum.inr (r0, p0) : Nat ⊕ ((Nat → Int32) × Nat)) = .inr (r, q) := e
              cases e'
              omega
            | succ n ih =>
              intro k r0 p0 hp0 r q e
              by_cases gg : tK T len p0 = 2 ∧ fitP (nkd T len p) k (upd r0 k (tV T len p0)) ns
              · rw [vlS_s _ _ _ _ _ _ gg] at e
                have h1 := tE_le (T := T) hp0
                have h2 := tS_le (T := T) hp0
                have := ih _ _ _ h1.2 _ _ e
                omega
              · rw [vlS_e _ _ _ _ _ _ gg] at e
                cases e
          exact fun r q e => this _ _ _ _ t2 r q e
        generalize vlS T len (nkd T len p) ns (cntN (nkd T len p)) 0 (fun _ => nI 0) (tE T len p) = V at hr hq hpq
        cases V with
        | inl e =>
          left
          obtain ⟨u4, f1, f2, f3⟩ := hq
          rw [f1, ob2_some, if_pos n0, f3, ← hr]
          exact ⟨u4, rfl, k1.tr f2⟩
        | inr x =>
          obtain ⟨r, q⟩ := x
          obtain ⟨u4, f1, f2, f3, f4, f5⟩ := hq
          have hq2 := hpq r q rfl
          have k4 := tK_lt (T := T) (len := len) (p := q)
          rw [f1, ob2_some, if_neg n1, f3.2.2.1, ife _ _ (by omega) (by decide)]
          by_cases g3 : tK T len q = 3
          · right
            have hr3 : rdS T len d (i + 1) (apM (nkd T len p) M ns ne r) (apS (nkd T len p) ns) (apE (nkd T len p) ne) (tE T len q) = R := by
              rw [show itV T len (nkd T len p) (Sum.inr (r, q)) = .inr (nkd T len p, r, tE T len q) from if_pos g3] at hr
              exact hr
            rw [if_pos g3]
            have x4 := (hx.f f2)
            obtain ⟨u5, e1, e2, e3⟩ := S8_goOn x4 f4 f3
            have h1 := tE_le (T := T) f4
            have h2 := tE_gt f4 (show tK T len q ≠ 0 by rw [g3]; decide)
            rw [e1, ob_s, nadd]
            exact ⟨d, _, _, by omega, rfl, i + 1, _, _, _, tE T len q, rfl, by omega, hr3, (k1.tr f2).tr e2.kt.kf, e3, h1.2, by omega, by omega, f5.c (e2.1 89 (by decide))⟩
          · left
            rw [show itV T len (nkd T len p) (Sum.inr (r, q)) = .inl (tS T len q) from if_neg g3] at hr
            rw [if_neg g3, f3.1, ← hr]
            exact ⟨u4, rfl, k1.tr f2⟩
      · left
        rw [itS_e (fun z => gc ⟨z.1, fun y => absurd (z.2.1.mpr y) (by decide), z.2.2⟩)] at hr
        rw [y2 gc, ob2_some, if_pos n0, hs.1, ← hr]
        exact ⟨st, rfl, k1⟩
end READ8
theorem REL.rd {s s2 : Sg} (h : REL s) (hr : ∀ c, (c = 0 ∨ 25 ≤ c) → c ≠ 49 → c ≠ 51 → c ≠ 70 → c ≠ 71 → c ≠ 89 → c ≠ 90 → s2 c = s c) (h49 : s2 49 2 = s 49 2) (h70 : s2 70 22 = s 70 22) (hW : WT s2 13) (hT2 : ∃ ns ne nr np, TR s2 1 (s2 71) ns ne nr np) : REL s2 := by
  obtain ⟨-, hS, ⟨len, l1, l2, l3, l4⟩, ⟨b0, b1, i1, i2, i3, i4, i5, i6, i7⟩, ⟨w1, w2⟩, ⟨nb, n1, n2⟩⟩ := h
  have e : ∀ c, (c = 0 ∨ 25 ≤ c) → c ≠ 49 → c ≠ 51 → c < 70 → s2 c = s c := fun c c1 c2 c3 c4 => hr c c1 c2 c3 (by omega) (by omega) (by omega) (by omega)
  have e7 : ∀ c, 72 ≤ c → c < 89 → s2 c = s c := fun c c1 c2 => hr c (by omega) (by omega) (by omega) (by omega) (by omega) (by omega) (by omega)
  refine ⟨hT2, ?_, ⟨len, l1, ?_, ?_, ?_⟩, ⟨b0, b1, i1, i2, ?_, ?_, ?_, ?_, ?_⟩, ⟨?_, ?_⟩, ⟨nb, n1, ?_⟩⟩
  · rw [e 0 (by omega) (by omega) (by omega) (by omega), e7 74 (by omega) (by omega)]; exact hS
  · rw [h49]; exact l2
  · rw [h70]; exact l3
  · rw [e 50 (by omega) (by omega) (by omega) (by omega), e7 88 (by omega) (by omega)]; exact l4
  · rw [e 0 (by omega) (by omega) (by omega) (by omega)]; exact i3
  · rw [e7 73 (by omega) (by omega)]; exact i4
  · rw [e7 73 (by omega) (by omega)]; exact i5
  · intro z
    obtain ⟨x1, x2, x3, x4, h5⟩ := i6 z
    exact ⟨x1, x2, x3, x4, by rw [e7 72 (by omega) (by omega)]; exact h5.fr (fun c h1 h2 => e c (by omega) (by omega) (by omega) (by omega))⟩
  · intro z
    obtain ⟨x1, x2, x3, x4, h5⟩ := i7 z
    exact ⟨x1, x2, x3, x4, by rw [e7 72 (by omega) (by omega)]; exact h5.fr (fun c h1 h2 => e c (by omega) (by omega) (by omega) (by omega))⟩
  · rw [e 53 (by omega) (by omega) (by omega) (by omega)]; exact w1
  · intro t ht
    by_cases q : t = 13
    · rw [q]; exact hW
    · have h5 := w2 t ht
      rw [e (t + 1) (by omega) (by omega) (by omega) (by omega), e (t + 3) (by omega) (by omega) (by omega) (by omega), e (t + 5) (by omega) (by omega) (by omega) (by omega), e (t + 7) (by omega) (by omega) (by omega) (by omega)]
      exact h5
  · rw [e 52 (by omega) (by omega) (by omega) (by omega)]; exact n2
theorem neg10 : ∀ e, e < 151 → (-10 : Int32) - nI e < 0 := by decide +kernel
theorem OK_read {s : Sg} (h : REL s) : OKop (f_X7_read s) f_X8_read := by
  obtain ⟨⟨ns0, ne0, nr0, np0, hT0⟩, _, ⟨len, l1, l2, l3, l4⟩, _, ⟨w1, w2⟩, _⟩ := id h
  have hX : TX s (fun i => (s 88 i).toNatClampNeg) len := by
    refine ⟨l1, l2, fun i hi => ?_⟩
    obtain ⟨a1, a2⟩ := (l4 i hi).2.cl (by decide)
    exact ⟨(l4 i hi).1.trans a1, a2⟩
  have hR8 : RX s (fun i => (s 88 i).toNatClampNeg) len := by
    refine ⟨l1, l3, fun i hi => ?_⟩
    exact (l4 i hi).2.cl (by decide)
  have hW : WT s 13 := w2 13 (by omega)
  generalize (fun i => (s 88 i).toNatClampNeg) = T at hX hR8
  have hc := S_readInto hX hW
  have h8 : ∀ u, RX u T len → PZ u (rdS T len 151 0 (fun _ => nI 0) 0 0 0) (f_X8_read u) := fun u hu => S8_read hu
  generalize rdS T len 151 0 (fun _ => nI 0) 0 0 0 = R at hc h8
  unfold f_X7_read
  cases R with
  | inl e =>
    obtain ⟨s2, a1, a2, a3, a4⟩ := hc
    have hR2 : RX s2 T len := ⟨l1, by rw [a2.1 70 (by omega) (by decide) (by decide)]; exact l3, fun i hi => by rw [a2.1 88 (by omega) (by decide) (by decide)]; exact hR8.2.2 i hi⟩
    obtain ⟨u2, b1, b2⟩ := h8 s2 hR2
    rw [a1, ob2_some, if_pos (neg10 e (by omega))]
    have fr : ∀ c, (c < 13 ∨ 25 ≤ c) → c ≠ 49 → c ≠ 51 → c ≠ 70 → c ≠ 89 → c ≠ 90 → u2 c = s c := fun c c1 c2 c3 c4 c5 c6 => (b2.1 c c4 c5 c6).trans (a2.1 c c1 c2 c3)
    refine ⟨_, s2, u2, rfl, b1, h.rd (fun c c1 c2 c3 c4 c5 c6 c7 => fr c (by omega) c2 c3 c4 c6 c7) ?_ ?_ ?_ ⟨ns0, ne0, nr0, np0, ?_⟩⟩
    · rw [b2.1 49 (by decide) (by decide) (by decide)]; exact a2.2
    · rw [b2.2, a2.1 70 (by omega) (by decide) (by decide)]
    · unfold WT
      rw [b2.1 _ (by decide) (by decide) (by decide), b2.1 _ (by decide) (by decide) (by decide), b2.1 _ (by decide) (by decide) (by decide), b2.1 _ (by decide) (by decide) (by decide)]
      exact a3
    · rw [fr 71 (by omega) (by decide) (by decide) (by decide) (by decide) (by decide)]
      exact hT0.fr (fun c c1 c2 => fr c (by omega) (by omega) (by omega) (by omega) (by omega) (by omega))
  | inr x =>
    obtain ⟨i, M, ns, ne⟩ := x
    obtain ⟨s2, a1, a2, a3, N, a4, a5⟩ := hc
    have w1' : WT s2 1 := by
      unfold WT
      rw [a2.1 _ (by decide) (by decide) (by decide), a2.1 _ (by decide) (by decide) (by decide), a2.1 _ (by decide) (by decide) (by decide), a2.1 _ (by decide) (by decide) (by decide)]
      exact hT0.wt
    obtain ⟨s3, c1, c2, c3⟩ := T_copy a4 w1' T1 T13 (by decide)
    have fr3 : ∀ c, (c = 0 ∨ 25 ≤ c) → c ≠ 49 → c ≠ 51 → s3 c = s c := fun c q1 q2 q3 => (c2 c (by omega)).trans (a2.1 c (by omega) q2 q3)
    have hR3 : RX s3 T len := ⟨l1, by rw [fr3 70 (by omega) (by decide) (by decide)]; exact l3, fun i hi => by rw [fr3 88 (by omega) (by decide) (by decide)]; exact hR8.2.2 i hi⟩
    obtain ⟨u2, b1, b2, b3⟩ := h8 s3 hR3
    rw [a1, ob2_some, if_neg (nI_pos (by omega)), c1, ob_s]
    have fr : ∀ c, (c = 0 ∨ 25 ≤ c) → c ≠ 49 → c ≠ 51 → c ≠ 70 → c ≠ 71 → c ≠ 89 → c ≠ 90 → setc u2 71 (cpR (s3 71) (u2 89) 0 0 115) c = s c := fun c d1 d2 d3 d4 d5 d6 d7 => by rw [setc_n _ _ d5, b2.1 c d4 d6 d7, fr3 c d1 d2 d3]
    have lo : ∀ c, c < 25 → setc u2 71 (cpR (s3 71) (u2 89) 0 0 115) c = s3 c := fun c d1 => by rw [setc_n _ _ (by omega), b2.1 c (by omega) (by omega) (by omega)]
    refine ⟨_, s3, _, rfl, b1, h.rd fr ?_ ?_ ?_ ⟨ns, ne, 0, 0, ?_⟩⟩
    · rw [setc_n _ _ (by decide), b2.1 49 (by decide) (by decide) (by decide), c2 49 (by omega)]; exact a2.2
    · rw [setc_n _ _ (by decide), b2.2, fr3 70 (by omega) (by decide) (by decide)]
    · unfold WT
      rw [lo _ (by decide), lo _ (by decide), lo _ (by decide), lo _ (by decide), c2 _ (by omega), c2 _ (by omega), c2 _ (by omega), c2 _ (by omega)]
      exact a4.wt
    · have hT4 : TR (setc u2 71 (cpR (s3 71) (u2 89) 0 0 115)) 1 N ns ne 0 0 := c3.fr (fun c d1 d2 => lo c (by omega))
      have eN : ∀ k, k < 115 → setc u2 71 (cpR (s3 71) (u2 89) 0 0 115) 71 k = N k := by
        intro k hk
        have e1 : setc u2 71 (cpR (s3 71) (u2 89) 0 0 115) 71 k = u2 89 k := by
          rw [setc_s]
          have := cpR_i (s3 71) (u2 89) (dst := 0) (src := 0) hk
          rw [Nat.zero_add] at this
          exact this
        rw [e1, b3.1 k hk]
        by_cases e : k = 4
        · rw [e, b3.2.2.2.1]
          exact a4.1.1.2.2.2.symm
        · exact (a5 k hk e).symm
      have b := hT4.1.2.1
      refine hT4.c (hT4.1.c (fun i hi => eN i (by omega)) (fun i hi => eN _ (by omega)) (fun i hi => eN _ (by omega)) (fun w hw => ?_) (fun i hi => eN _ (by omega)) (fun j i hj => absurd hj (by omega))) (eN 2 (by decide)) (fun i hi => eN _ (by omega)) (fun i hi => eN _ (by omega)) (fun i hi => eN _ (by omega)) (fun w hw => eN _ (by omega)) (fun j i hj => absurd hj (by omega))
      rw [eN _ (by omega)]
      exact hT4.1.2.2.2.2.2.1 w hw
