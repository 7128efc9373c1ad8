/-! THE REFERENCE: its small methods -/
theorem i64_lt (x y : Int32) : (Int32.toInt64 x < Int32.toInt64 y) ↔ x < y := by
  rw [Int64.lt_iff_toInt_lt, Int32.lt_iff_toInt_lt, Int32.toInt_toInt64, Int32.toInt_toInt64]
theorem lgc_lt (x y : Int64) : (lg_cmp x y < 0) ↔ x < y := by
  unfold lg_cmp
  by_cases h1 : x > y
  · rw [if_pos h1]
    exact ⟨fun h => absurd h (by decide), fun h => absurd h (Int64.not_lt.mpr (Int64.le_of_lt h1))⟩
  · rw [if_neg h1]
    by_cases h2 : x = y
    · rw [if_pos h2]
      exact ⟨fun h => absurd h (by decide), fun h => absurd h (by rw [h2]; exact Int64.lt_irrefl)⟩
    · rw [if_neg h2]
      exact ⟨fun _ => by
        rcases Int64.lt_or_lt_of_ne h2 with q | q
        · exact q
        · exact absurd q h1, fun _ => by decide⟩
theorem lgc_gt (x y : Int64) : (0 < lg_cmp x y) ↔ y < x := by
  unfold lg_cmp
  by_cases h1 : x > y
  · rw [if_pos h1]
    exact ⟨fun _ => h1, fun _ => by decide⟩
  · rw [if_neg h1]
    by_cases h2 : x = y
    · rw [if_pos h2]
      exact ⟨fun h => absurd h (by decide), fun h => absurd h h1⟩
    · rw [if_neg h2]
      exact ⟨fun h => absurd h (by decide), fun h => absurd h h1⟩
theorem S8_in (x a b : Int32) (A B : Int64) (hA : A = Int32.toInt64 a) (hB : B = Int32.toInt64 b) (s : Sg) : f_X8_in (Int32.toInt64 x) A B s = some (bi (a ≤ x ∧ x ≤ b)) := by
  subst hA hB
  unfold f_X8_in
  by_cases h1 : lg_cmp (Int32.toInt64 x) (Int32.toInt64 a) < 0
  · rw [if_pos h1, bi_f (fun h => absurd ((i64_lt x a).mp ((lgc_lt _ _).mp h1)) (Int32.not_lt.mpr h.1))]
  · rw [if_neg h1]
    have g1 : a ≤ x := Int32.not_lt.mp (fun h => h1 ((lgc_lt _ _).mpr ((i64_lt x a).mpr h)))
    by_cases h2 : 0 < lg_cmp (Int32.toInt64 x) (Int32.toInt64 b)
    · rw [if_pos h2, bi_f (fun h => absurd ((i64_lt b x).mp ((lgc_gt _ _).mp h2)) (Int32.not_lt.mpr h.2))]
    · rw [if_neg h2, bi_t ⟨g1, Int32.not_lt.mp (fun h => h2 ((lgc_gt _ _).mpr ((i64_lt b x).mpr h)))⟩]
/-- in 0 .. n - 1 -/
theorem in_B (x : Int32) {n : Nat} (hn : n < 2147483648) : (nI 0 ≤ x ∧ x ≤ nI n - nI 1) ↔ (0 ≤ x ∧ x < nI n) := by
  rcases Nat.eq_zero_or_pos n with q | q
  · subst q
    constructor
    · intro h
      have h1 : (nI 0 - nI 1 : Int32) < nI 0 := by decide
      exact absurd (Int32.le_trans h.1 h.2) (Int32.not_le.mpr h1)
    · intro h
      exact absurd h.2 (Int32.not_lt.mpr h.1)
  · rw [nsub (by omega)]
    rcases i32c x n hn with ⟨k, hk, rfl⟩ | h | h
    · exact ⟨fun _ => ⟨(nI_leI (by decide) (by omega)).mpr (Nat.zero_le k), (nI_ltI (by omega) hn).mpr hk⟩, fun _ => ⟨(nI_leI (by decide) (by omega)).mpr (Nat.zero_le k), (nI_leI (by omega) (by omega)).mpr (by omega)⟩⟩
    · exact ⟨fun z => absurd h (Int32.not_lt.mpr z.1), fun z => absurd h (Int32.not_lt.mpr z.1)⟩
    · refine ⟨fun z => ?_, fun z => absurd z.2 (Int32.not_lt.mpr h)⟩
      have := Int32.le_trans h z.2
      rw [nI_leI hn (by omega)] at this
      omega
theorem S8_inB (x : Int32) {n : Nat} (hn : n < 2147483648) (B : Int64) (hB : B = Int32.toInt64 (nI n - nI 1)) (s : Sg) : f_X8_in (Int32.toInt64 x) (0 : Int64) B s = some (bi (0 ≤ x ∧ x < nI n)) := by
  rw [S8_in x (nI 0) (nI n - nI 1) 0 B rfl hB, bi_c (in_B x hn)]
section REF
variable {s : Sg} {N : Nat → Int32} {ns ne nr np : Nat}
theorem S8_streets (h : s 71 = N) (hV : VN N ns ne nr np) : f_X8_streets s = some (nI ns) := by
  unfold f_X8_streets
  rw [ag _ 71 (by decide) (by decide), ob_s, h, hV.1.1]
theorem S8_events (h : s 71 = N) (hV : VN N ns ne nr np) : f_X8_events s = some (nI ne) := by
  unfold f_X8_events
  rw [ag _ 71 (by decide) (by decide), ob_s, h, hV.1.2.1]
theorem S8_isStreet (h : s 71 = N) (hV : VN N ns ne nr np) (x : Int32) : f_X8_isStreet x s = some (bi (0 ≤ x ∧ x < nI ns)) := by
  unfold f_X8_isStreet
  have := hV.2.1.1
  rw [S8_streets h hV, ob_s, S8_inB x (show ns < 2147483648 by omega) _ rfl, ob_s, bi_and]
theorem S8_isHour (x : Int32) (s : Sg) : f_X8_isHour x s = some (bi (0 ≤ x ∧ x < nI 24)) := by
  unfold f_X8_isHour
  rw [S8_inB x (show 24 < 2147483648 by decide) _ (by decide), ob_s, bi_and]
theorem S8_isWord (x : Int32) (s : Sg) : f_X8_isWord x s = some (bi (0 ≤ x ∧ x < nI 16)) := by
  unfold f_X8_isWord
  rw [S8_inB x (show 16 < 2147483648 by decide) _ (by decide), ob_s, bi_and]
theorem S8_has (h : s 71 = N) {i k : Nat} (hi : i < 7) (hk : k < 4) : f_X8_has (nI i) (nI k) s = some (N (5 + 4 * i + k)) := by
  unfold f_X8_has
  rw [nmul, nadd, nadd, ag _ 71 (show 5 + 4 * i + k < 515 by omega) (by omega), ob_s, h]
theorem S8_told (h : s 71 = N) {i k : Nat} (hi : i < 8) (hk : k < 6) : f_X8_told (nI i) (nI k) s = some (N (33 + 6 * i + k)) := by
  unfold f_X8_told
  rw [nmul, nadd, nadd, ag _ 71 (show 33 + 6 * i + k < 515 by omega) (by omega), ob_s, h]
theorem S8_mustSee (k : Int32) (s : Sg) : f_X8_mustSee k s = some (ms k) := by
  unfold f_X8_mustSee ms
  by_cases h1 : k = nI 1
  · rw [if_pos h1, if_pos h1]
  · rw [if_neg h1, if_neg h1]
    by_cases h2 : k = nI 3
    · rw [if_pos h2, if_pos h2]
    · rw [if_neg h2, if_neg h2]
theorem S8_rankOf (k r : Int32) (s : Sg) : f_X8_rankOf k r s = some (ro k r) := by
  unfold f_X8_rankOf ro
  by_cases h1 : k = nI 3
  · rw [if_pos h1, if_pos h1]
  · rw [if_neg h1, if_neg h1]
    by_cases h2 : k = nI 4
    · rw [if_pos h2, if_pos h2]
    · rw [if_neg h2, if_neg h2]
      by_cases h3 : k = nI 5
      · rw [if_pos h3, if_pos h3]
      · rw [if_neg h3, if_neg h3]
theorem S8_standsFor (k : Int32) (s : Sg) : f_X8_standsFor k s = some (sf k) := by
  unfold f_X8_standsFor sf
  by_cases h1 : k = nI 2
  · rw [if_pos h1, if_pos h1]
  · rw [if_neg h1, if_neg h1]
    by_cases h2 : k = nI 5
    · rw [if_pos h2, if_pos h2]
    · rw [if_neg h2, if_neg h2]
theorem S8_meet (h : s 71 = N) {i j : Nat} (hi : i < 7) (hj : j < 7) : f_X8_meet (nI i) (nI j) s = some (mtb N i j) := by
  unfold f_X8_meet
  rw [S8_has h hi (by decide), ob_s, S8_has h hj (by decide), ob_s, Nat.add_zero, Nat.add_zero]
  by_cases h1 : N (5 + 4 * i) = N (5 + 4 * j)
  · rw [if_pos h1, mtb_1 (Or.inl h1)]
  rw [if_neg h1, ob_s, S8_has h hj (by decide), ob_s]
  by_cases h2 : N (5 + 4 * i) = N (5 + 4 * j + 1)
  · rw [if_pos h2, mtb_1 (Or.inr (Or.inl h2))]
  rw [if_neg h2, S8_has h hi (by decide), ob_s, ob_s]
  by_cases h3 : N (5 + 4 * i + 1) = N (5 + 4 * j)
  · rw [if_pos h3, mtb_1 (Or.inr (Or.inr (Or.inl h3)))]
  rw [if_neg h3, ob_s, ob_s]
  by_cases h4 : N (5 + 4 * i + 1) = N (5 + 4 * j + 1)
  · rw [if_pos h4, mtb_1 (Or.inr (Or.inr (Or.inr h4)))]
  rw [if_neg h4, mtb_0 (fun q => by rcases q with q | q | q | q; exact h1 q; exact h2 q; exact h3 q; exact h4 q)]
theorem S8_happensIn (h : s 71 = N) (hV : VN N ns ne nr np) (k : Int32) {p : Nat} (hp : p < ns) : f_X8_happensIn k (nI p) s = some (hin N ns k p) := by
  have hns := hV.2.1.1
  unfold f_X8_happensIn hin
  rw [nm_eq]
  show lp2_ _ fu (sh1 p) (nI 0) = _
  by_cases hk : k = nI 1
  · rw [if_pos hk]
    refine lp2_po (fun o => o = some (forN (fun i b => b ||| (if mtb N i p = 0 then nI 0 else sh1 i)) ns (sh1 p))) (fun d a j => ∃ i, i + d = ns ∧ j = nI i ∧ a = forN (fun i b => b ||| (if mtb N i p = 0 then nI 0 else sh1 i)) i (sh1 p)) ?_ fu ns _ _ (fu_ge (by omega)) ⟨0, by omega, rfl, rfl⟩
    rintro self d a j ⟨i, e1, rfl, rfl⟩
    unfold b_X8_happensIn_7
    rw [S8_streets h hV, ob_s, ifle _ _ (by omega) (by omega)]
    by_cases hd : ns ≤ i
    · left
      rw [if_pos hd, show i = ns by omega]
    · right
      rw [if_neg hd, if_pos hk, S8_meet h (by omega) (by omega), ob_s, nm_eq]
      refine ⟨d - 1, _, nI (i + 1), by omega, ?_, i + 1, by omega, rfl, rfl⟩
      rw [forN_s]
      by_cases hm : mtb N i p = 0
      · rw [if_pos hm, if_pos hm]
        dsimp only
        rw [nm_eq, nadd]
      · rw [if_neg hm, if_neg hm]
        dsimp only
        rw [nm_eq, nadd]
        rfl
  · rw [if_neg hk]
    obtain ⟨m, hm⟩ : ∃ m, fu = m + 1 := ⟨fu - 1, by have := fu_ge (show 1 < 1000000 by decide); omega⟩
    rw [hm]
    show b_X8_happensIn_7 s k (nI p) (lp2_ _ m) (sh1 p) (nI 0) = _
    unfold b_X8_happensIn_7
    rw [S8_streets h hV, ob_s, if_neg hk]
    split <;> rfl
/-- all streets, and how often renamed -/
def stB (law : Int32) (ns : Nat) (h : Hap) (i : Nat) (V : Vec × (Nat → Int32)) : Vec × (Nat → Int32) :=
  if cnd law i h (V.1.1 i, V.1.2.2.1 i, V.1.2.2.2 i) = true then (stA law ns h i V.1, upd V.2 i (V.2 i + nI 1)) else V
def stepB (law : Int32) (ns : Nat) (V : Vec × (Nat → Int32)) (h : Hap) : Vec × (Nat → Int32) := forN (stB law ns h) ns V
def foldB (law : Int32) (ns : Nat) (L : List Hap) (V : Vec × (Nat → Int32)) : Vec × (Nat → Int32) := L.foldl (stepB law ns) V
theorem foldB_app (law : Int32) (ns : Nat) (A B : List Hap) (V : Vec × (Nat → Int32)) : foldB law ns (A ++ B) V = foldB law ns B (foldB law ns A V) := List.foldl_append
theorem stB_1 (law : Int32) (ns : Nat) (h : Hap) (i : Nat) (V : Vec × (Nat → Int32)) : (stB law ns h i V).1 = stA law ns h i V.1 := by
  unfold stB
  by_cases c : cnd law i h (V.1.1 i, V.1.2.2.1 i, V.1.2.2.2 i) = true
  · rw [if_pos c]
  · rw [if_neg c]
    unfold stA
    rw [if_neg c]
theorem stepB_1 (law : Int32) (ns : Nat) (h : Hap) (V : Vec × (Nat → Int32)) : (stepB law ns V h).1 = stepA law ns V.1 h := by
  unfold stepB stepA
  have : ∀ m, (forN (stB law ns h) m V).1 = forN (stA law ns h) m V.1 := by
    intro m
    induction m with
    | zero => rfl
    | succ m ih => rw [forN_s, forN_s, stB_1, ih]
  exact this ns
theorem foldB_1 (law : Int32) (ns : Nat) : ∀ (L : List Hap) (V : Vec × (Nat → Int32)), (foldB law ns L V).1 = foldA law ns L V.1
  | [], _ => rfl
  | h :: L, V => by
    show (foldB law ns L (stepB law ns V h)).1 = foldA law ns L (stepA law ns V.1 h)
    rw [foldB_1 law ns L, stepB_1]
def vecR (s : Sg) : Vec × (Nat → Int32) := ((s 77, s 78, s 79, s 80), s 81)
/-- only what a run writes down on the way -/
def RF (s s2 : Sg) : Prop := ∀ c, c ≠ 77 → c ≠ 78 → c ≠ 79 → c ≠ 80 → c ≠ 81 → s2 c = s c
theorem RF.rf (s : Sg) : RF s s := fun _ _ _ _ _ _ => rfl
theorem RF.tr {s s2 s3 : Sg} (h : RF s s2) (h' : RF s2 s3) : RF s s3 := fun c a b d e f => (h' c a b d e f).trans (h c a b d e f)
theorem S8_rename (h : s 71 = N) (hV : VN N ns ne nr np) {i : Nat} (hi : i < ns) (k : Int32) (hp : Hap) (h4 : hp 4 = hp 0 + sf k) : ∃ s2, f_X8_rename (nI i) k (hp 0) (hp 3) (hp 2) s = some s2 ∧ RF s s2 ∧
    vecR s2 = (if yld (N 2) hp (s 79 i) (s 80 i) = true then ((upd (s 77) i (hp 2), upd (s 78) i (nI (numF ns (upd (s 77) i (hp 2)) i)), upd (s 79) i (hp 3), upd (s 80) i (hp 4)), upd (s 81) i (s 81 i + nI 1)) else vecR s) := by
  have hns := hV.2.1.1
  obtain ⟨w, hw, ew⟩ := hV.2.2.1
  have hi7 : i < 7 := by omega
  have dolt : ∃ s2, lp2_ (b_X8_rename_92 s (fun a8 => (aset s 77 (nI i) (hp 2)).bind fun s10 => (aset s10 78 (nI i) (nI 1 + a8)).bind fun s11 => (aset s11 79 (nI i) (hp 3)).bind fun s12 => (f_X8_standsFor k s12).bind fun v13 => (aset s12 80 (nI i) (hp 0 + v13)).bind fun s14 => (aget s14 81 (nI i)).bind fun v15 => (aset s14 81 (nI i) (v15 + nI 1)).bind fun s16 => some s16) (nI i) (hp 2)) fu (nI 0) (nI 0) = some s2 ∧ RF s s2 ∧
      vecR s2 = ((upd (s 77) i (hp 2), upd (s 78) i (nI (numF ns (upd (s 77) i (hp 2)) i)), upd (s 79) i (hp 3), upd (s 80) i (hp 4)), upd (s 81) i (s 81 i + nI 1)) := by
    refine lp2_po (fun o => ∃ s2, o = some s2 ∧ RF s s2 ∧ vecR s2 = ((upd (s 77) i (hp 2), upd (s 78) i (nI (numF ns (upd (s 77) i (hp 2)) i)), upd (s 79) i (hp 3), upd (s 80) i (hp 4)), upd (s 81) i (s 81 i + nI 1)))
      (fun d a j => ∃ m c, m + d = ns ∧ j = nI m ∧ a = nI c ∧ numF m (upd (s 77) i (hp 2)) i = c + 1) ?_ fu ns _ _ (fu_ge (by omega)) ⟨0, 0, by omega, rfl, rfl, rfl⟩
    rintro self d a j ⟨m, c, e1, rfl, rfl, e2⟩
    unfold b_X8_rename_92
    rw [S8_streets h hV, ob_s, ifle _ _ (by omega) (by omega)]
    by_cases hd : ns ≤ m
    · left
      rw [if_pos hd]
      dsimp only
      rw [as _ 77 _ (show i < 7 from hi7), ob_s, as _ 78 _ (show i < 7 from hi7), ob_s, as _ 79 _ (show i < 7 from hi7), ob_s, S8_standsFor, ob_s, as _ 80 _ (show i < 7 from hi7), ob_s, ag _ 81 (show i < 7 from hi7) (by omega), ob_s, as _ 81 _ (show i < 7 from hi7), ob_s]
      refine ⟨_, rfl, ?_, ?_⟩
      · intro c a1 a2 a3 a4 a5
        rw [sts_n _ _ _ a5, sts_n _ _ _ a4, sts_n _ _ _ a3, sts_n _ _ _ a2, sts_n _ _ _ a1]
      · rw [show ns = m by omega, e2, ← h4, nadd, show 1 + c = c + 1 by omega]
        unfold vecR
        simp only [Prod.mk.injEq]
        refine ⟨⟨?_, ?_, ?_, ?_⟩, ?_⟩
        · rw [sts_n _ _ _ (by decide), sts_n _ _ _ (by decide), sts_n _ _ _ (by decide), sts_n _ _ _ (by decide), sts_c]
        · rw [sts_n _ _ _ (by decide), sts_n _ _ _ (by decide), sts_n _ _ _ (by decide), sts_c, sts_n _ _ _ (by decide)]
        · rw [sts_n _ _ _ (by decide), sts_n _ _ _ (by decide), sts_c, sts_n _ _ _ (by decide), sts_n _ _ _ (by decide)]
        · rw [sts_n _ _ _ (by decide), sts_c, sts_n _ _ _ (by decide), sts_n _ _ _ (by decide), sts_n _ _ _ (by decide)]
        · rw [sts_c, sts_n _ _ _ (by decide), sts_n _ _ _ (by decide), sts_n _ _ _ (by decide), sts_n _ _ _ (by decide)]
    · right
      rw [if_neg hd, nm_eq, nm_eq, ife _ _ (by omega) (by omega)]
      have hn : numF (m + 1) (upd (s 77) i (hp 2)) i = if m ≠ i ∧ upd (s 77) i (hp 2) m = upd (s 77) i (hp 2) i then numF m (upd (s 77) i (hp 2)) i + 1 else numF m (upd (s 77) i (hp 2)) i := rfl
      by_cases q : m = i
      · rw [if_pos q]
        dsimp only
        rw [nm_eq, nadd, nadd]
        refine ⟨d - 1, _, _, by omega, rfl, m + 1, c, by omega, rfl, rfl, ?_⟩
        rw [hn, if_neg (fun z => z.1 q)]
        exact e2
      · rw [if_neg q, ag _ 77 (show m < 7 by omega) (by omega), ob_s]
        rw [upd_s, upd_n _ _ q] at hn
        by_cases q2 : s 77 m = hp 2
        · rw [if_pos q2]
          dsimp only
          rw [nm_eq, nadd, nadd]
          refine ⟨d - 1, _, _, by omega, rfl, m + 1, c + 1, by omega, rfl, rfl, ?_⟩
          rw [hn, if_pos ⟨q, q2⟩, e2]
        · rw [if_neg q2]
          dsimp only
          rw [nm_eq, nadd, nadd]
          refine ⟨d - 1, _, _, by omega, rfl, m + 1, c, by omega, rfl, rfl, ?_⟩
          rw [hn, if_neg (fun z => q2 z.2)]
          exact e2
  obtain ⟨s2, d1, d2, d3⟩ := dolt
  have skip : yld (N 2) hp (s 79 i) (s 80 i) = false → ∃ s3, some s = some s3 ∧ RF s s3 ∧ vecR s3 = (if yld (N 2) hp (s 79 i) (s 80 i) = true then ((upd (s 77) i (hp 2), upd (s 78) i (nI (numF ns (upd (s 77) i (hp 2)) i)), upd (s 79) i (hp 3), upd (s 80) i (hp 4)), upd (s 81) i (s 81 i + nI 1)) else vecR s) :=
    fun q => ⟨s, rfl, RF.rf s, by rw [if_neg (by rw [q]; decide)]⟩
  have doit : yld (N 2) hp (s 79 i) (s 80 i) = true → ∃ s3, some s2 = some s3 ∧ RF s s3 ∧ vecR s3 = (if yld (N 2) hp (s 79 i) (s 80 i) = true then ((upd (s 77) i (hp 2), upd (s 78) i (nI (numF ns (upd (s 77) i (hp 2)) i)), upd (s 79) i (hp 3), upd (s 80) i (hp 4)), upd (s 81) i (s 81 i + nI 1)) else vecR s) :=
    fun q => ⟨s2, rfl, d2, by rw [if_pos q]; exact d3⟩
  unfold f_X8_rename
  simp only [nm_eq, ag _ 80 (show i < 7 from hi7) (show i < 2147483648 by omega), ag _ 79 (show i < 7 from hi7) (show i < 2147483648 by omega), ag _ 71 (show 2 < 515 by decide) (show 2 < 2147483648 by decide), ob_s, d1, h]
  have z0 : ∀ (x y : Option Sg), (if nI 0 = 0 then x else y) = x := fun _ _ => rfl
  have z1 : ∀ (x y : Option Sg), (if nI 1 = 0 then x else y) = y := fun _ _ => rfl
  simp only [z0, z1]
  by_cases a1 : s 80 i ≤ hp 0
  · have y1 : yld (N 2) hp (s 79 i) (s 80 i) = true := by unfold yld; rw [decide_eq_true a1]; rfl
    rw [if_pos a1, if_pos y1]
    split
    · exact ⟨s2, rfl, d2, d3⟩
    · split
      · split
        · exact ⟨s2, rfl, d2, d3⟩
        · split
          · split <;> exact ⟨s2, rfl, d2, d3⟩
          · exact ⟨s2, rfl, d2, d3⟩
      · split
        · split <;> exact ⟨s2, rfl, d2, d3⟩
        · exact ⟨s2, rfl, d2, d3⟩
  · rw [if_neg a1]
    by_cases c1 : N 2 = nI 2
    · rw [if_pos c1]
      exact doit (by unfold yld; rw [decide_eq_true c1, Bool.true_or, Bool.or_true])
    rw [if_neg c1]
    by_cases c2 : N 2 = 0
    · rw [if_pos c2]
      by_cases c3 : s 79 i ≤ hp 3
      · rw [if_pos c3]
        exact doit (by unfold yld; rw [if_pos c2, decide_eq_true c3, Bool.or_true, Bool.or_true])
      · rw [if_neg c3, if_neg (by rw [c2]; decide)]
        exact skip (by unfold yld; rw [if_pos c2, decide_eq_false c3, decide_eq_false a1, decide_eq_false c1]; rfl)
    · rw [if_neg c2]
      have c3 : N 2 = nI 1 := by
        rw [ew] at c1 c2 ⊢
        match w, hw with
        | 0, _ => exact absurd rfl c2
        | 1, _ => rfl
        | 2, _ => exact absurd rfl c1
      rw [if_pos c3]
      by_cases c4 : hp 3 ≤ s 79 i
      · rw [if_pos c4]
        exact skip (by unfold yld; rw [if_neg c2, decide_eq_false (Int32.not_lt.mpr c4), decide_eq_false a1, decide_eq_false c1]; rfl)
      · rw [if_neg c4]
        exact doit (by unfold yld; rw [if_neg c2, decide_eq_true (Int32.not_le.mp c4), Bool.or_true, Bool.or_true])
end REF
