/-! A DAY: what happens (a row of six: time, where, word, rank, till, bit), and one street by it -/
abbrev Hap : Type := Nat → Int32
def hb (x : Int32) (i : Nat) : Bool := decide (¬ ((x >>> (nI i &&& 31)) &&& nI 1) = 0)
def yld (law : Int32) (h : Hap) (r t : Int32) : Bool := decide (t ≤ h 0) || (decide (law = nI 2) || (if law = 0 then decide (r ≤ h 3) else decide (r < h 3)))
def cnd (law : Int32) (i : Nat) (h : Hap) (q : Int32 × Int32 × Int32) : Bool := hb (h 1) i && yld law h q.2.1 q.2.2
def st1 (law : Int32) (i : Nat) (q : Int32 × Int32 × Int32) (h : Hap) : Int32 × Int32 × Int32 := if cnd law i h q = true then (h 2, h 3, h 4) else q
def fold1 (law : Int32) (i : Nat) (L : List Hap) (q : Int32 × Int32 × Int32) : Int32 × Int32 × Int32 := L.foldl (st1 law i) q
def cnt1 (law : Int32) (i : Nat) : List Hap → Int32 × Int32 × Int32 → Nat
  | [], _ => 0
  | h :: L, q => (if cnd law i h q = true then 1 else 0) + cnt1 law i L (st1 law i q h)
theorem cnt1_le (law : Int32) (i : Nat) : ∀ (L : List Hap) (q : Int32 × Int32 × Int32), cnt1 law i L q ≤ L.length
  | [], _ => Nat.le_refl 0
  | h :: L, q => by
    have := cnt1_le law i L (st1 law i q h)
    show (if cnd law i h q = true then 1 else 0) + cnt1 law i L (st1 law i q h) ≤ L.length + 1
    split <;> omega
def h0 : Hap := fun _ => nI 0
/-- how many at the list's head are not behind an hour -/
def tw (L : List Hap) (x : Int32) : Nat := (L.takeWhile (fun h => decide (h 0 ≤ x))).length
theorem tw_nil (x : Int32) : tw [] x = 0 := rfl
theorem tw_cons (h : Hap) (L : List Hap) (x : Int32) : tw (h :: L) x = if h 0 ≤ x then tw L x + 1 else 0 := by
  unfold tw
  rw [List.takeWhile_cons]
  by_cases q : h 0 ≤ x
  · rw [decide_eq_true q, if_pos q]; rfl
  · rw [decide_eq_false q, if_neg q]; rfl
theorem tw_le : ∀ (L : List Hap) (x : Int32), tw L x ≤ L.length
  | [], _ => Nat.le_refl 0
  | h :: L, x => by
    have := tw_le L x
    rw [tw_cons, List.length_cons]
    split <;> omega
theorem tw_in : ∀ (L : List Hap) (x : Int32) {a : Nat}, a < tw L x → (L.getD a h0) 0 ≤ x
  | [], x, a, h => by rw [tw_nil] at h; omega
  | h :: L, x, 0, ha => by
    rw [tw_cons] at ha
    by_cases q : h 0 ≤ x
    · exact q
    · rw [if_neg q] at ha; omega
  | h :: L, x, a + 1, ha => by
    rw [tw_cons] at ha
    by_cases q : h 0 ≤ x
    · rw [if_pos q] at ha
      exact tw_in L x (by omega)
    · rw [if_neg q] at ha; omega
theorem tw_out : ∀ (L : List Hap) (x : Int32), tw L x < L.length → ¬ (L.getD (tw L x) h0) 0 ≤ x
  | [], x, h => by rw [tw_nil] at h; exact absurd h (Nat.not_lt_zero 0)
  | h :: L, x, ha => by
    rw [tw_cons] at ha ⊢
    by_cases q : h 0 ≤ x
    · rw [if_pos q] at ha ⊢
      rw [List.length_cons] at ha
      exact tw_out L x (by omega)
    · rw [if_neg q]
      exact q
/-- the happenings' rows hold a list -/
def HR (s : Sg) (L : List Hap) : Prop := RW s 53 6 L.length ∧ L.length ≤ 10 ∧ ∀ r k, r < L.length → k < 6 → s 54 (r * 6 + k) = (L.getD r h0) k
theorem kk53 : RK 53 6 10 := by unfold RK; decide
theorem HR.fr {s s2 : Sg} {L : List Hap} (h : HR s L) (h1 : s2 53 = s 53) (h2 : s2 54 = s 54) : HR s2 L := by
  unfold HR RW at h ⊢
  rw [h1, h2]
  exact h
theorem HR.cell {s : Sg} {L : List Hap} (h : HR s L) {r k : Nat} (hr : r < L.length) (hk : k < 6) : f_X2_cell 53 (nI r) (nI k) s = some ((L.getD r h0) k) := by
  rw [S_cell h.1 kk53 h.2.1 hr hk, h.2.2 r k hr hk]
theorem S_holds (x : Int32) (i : Nat) (s : Sg) : f_X7_holds x (nI i) s = some (bi (hb x i = true)) := by
  unfold f_X7_holds
  by_cases h : ((x >>> (nI i &&& 31)) &&& nI 1) = 0
  · rw [if_pos h, bi_f (by unfold hb; rw [decide_eq_false (fun q => q h)]; decide)]
  · rw [if_neg h, bi_t (by unfold hb; exact decide_eq_true h)]
section DAY
variable {s : Sg} {L : List Hap}
theorem S_placeBehind (h : HR s L) (x : Int32) : f_X0_placeBehind x s = some (nI (tw L x)) := by
  have hl := tw_le L x
  have h10 := h.2.1
  refine lp1_po (fun o => o = some (nI (tw L x))) (fun d j => ∃ i, i + d = tw L x ∧ j = nI i) ?_ fu (tw L x) _ (fu_ge (by omega)) ⟨0, by omega, rfl⟩
  rintro self d j ⟨i, e1, rfl⟩
  unfold b_X0_placeBehind_2
  rw [S_size, ob_s, h.1.2, ifle _ _ (by omega) (by omega)]
  by_cases hd : L.length ≤ i
  · left
    rw [if_pos hd, show i = tw L x by omega]
  · rw [if_neg hd, h.cell (by omega) (by decide), ob_s]
    by_cases q : i < tw L x
    · right
      rw [if_neg (Int32.not_lt.mpr (tw_in L x q))]
      exact ⟨d - 1, nI (i + 1), by omega, by rw [nadd], i + 1, by omega, rfl⟩
    · left
      have e : i = tw L x := by omega
      subst e
      rw [if_pos (Int32.not_le.mp (tw_out L x (by omega)))]
theorem S_yields {i : Nat} (hi : i < 7) (h : Hap) : f_X0_yields (nI i) (h 0) (h 3) s = some (bi (yld (s 52 8) h (s 59 i) (s 60 i) = true)) := by
  unfold f_X0_yields yld
  rw [ag _ 60 (by exact hi) (by omega), ob_s, ag _ 59 (by exact hi) (by omega), ob_s]
  by_cases a1 : s 60 i ≤ h 0
  · rw [if_pos a1, bi_t (by rw [decide_eq_true a1]; rfl)]
  rw [if_neg a1, decide_eq_false a1, Bool.false_or]
  by_cases a2 : s 52 8 = nI 2
  · rw [if_pos a2, bi_t (by rw [decide_eq_true a2]; rfl)]
  rw [if_neg a2, decide_eq_false a2, Bool.false_or]
  by_cases a3 : s 52 8 = 0
  · rw [if_pos a3, if_pos a3]
    by_cases a4 : h 3 < s 59 i
    · rw [if_pos a4, bi_f (by rw [decide_eq_false (Int32.not_le.mpr a4)]; decide)]
    · rw [if_neg a4, bi_t (decide_eq_true (Int32.not_lt.mp a4))]
  · rw [if_neg a3, if_neg a3, ob_s]
    by_cases a4 : h 3 ≤ s 59 i
    · rw [if_pos a4, bi_f (by rw [decide_eq_false (Int32.not_lt.mpr a4)]; decide)]
    · rw [if_neg a4, bi_t (decide_eq_true (Int32.not_le.mp a4))]
/-- a street has a happening's name -/
def rnS (s : Sg) (i : Nat) (h : Hap) : Sg := sts (sts (sts s 57 i (h 2)) 59 i (h 3)) 60 i (h 4)
theorem S_isRenamed (hR : HR s L) {i r : Nat} (hi : i < 7) (hr : r < L.length) : f_X0_isRenamed (nI i) (nI r) s = some (if cnd (s 52 8) i (L.getD r h0) (s 57 i, s 59 i, s 60 i) = true then (nI 1, rnS s i (L.getD r h0)) else (nI 0, s)) := by
  unfold f_X0_isRenamed cnd
  rw [hR.cell hr (by decide), ob_s, hR.cell hr (by decide), ob_s, S_holds, ob_s, if_bi]
  by_cases a1 : hb ((L.getD r h0) 1) i = true
  · rw [if_pos a1, hR.cell hr (by decide), ob_s, S_yields hi, ob_s, if_bi, a1, Bool.true_and]
    by_cases a2 : yld (s 52 8) (L.getD r h0) (s 59 i) (s 60 i) = true
    · rw [if_pos a2, if_pos a2, hR.cell hr (by decide), ob_s, as _ 57 _ (by exact hi), ob_s, as _ 59 _ (by exact hi), ob_s]
      have h2 : HR (sts (sts s 57 i ((L.getD r h0) 2)) 59 i ((L.getD r h0) 3)) L := hR.fr (by rw [sts_n _ _ _ (by decide), sts_n _ _ _ (by decide)]) (by rw [sts_n _ _ _ (by decide), sts_n _ _ _ (by decide)])
      rw [h2.cell hr (by decide), ob_s, as _ 60 _ (by exact hi), ob_s]
      rfl
    · rw [if_neg a2, if_neg a2]
  · rw [if_neg a1, if_neg (by rw [Bool.eq_false_iff.mpr a1, Bool.false_and]; decide)]
theorem S_begin {i : Nat} (hi : i < 7) : f_X0_begin (nI i) s = some (sts (sts (sts (sts (sts s 52 9 (nI 0)) 57 i (s 56 i)) 58 i (nI 1)) 59 i (nI 0)) 60 i (nI 0)) := by
  unfold f_X0_begin
  rw [nm_eq, ag _ 56 (by exact hi) (by omega), ob_s, as _ 57 _ (by exact hi), ob_s, as _ 58 _ (by exact hi), ob_s, as _ 59 _ (by exact hi), ob_s, as _ 60 _ (by exact hi), ob_s, sts_n _ _ _ (by decide)]
/-- one street i has lived: the plan stays, other streets stay -/
def LV (s s2 : Sg) (i : Nat) : Prop := (∀ c, c ≠ 52 → c ≠ 57 → c ≠ 58 → c ≠ 59 → c ≠ 60 → s2 c = s c) ∧ s2 52 7 = s 52 7 ∧ s2 52 8 = s 52 8 ∧ ∀ j, j ≠ i → s2 57 j = s 57 j ∧ s2 58 j = s 58 j ∧ s2 59 j = s 59 j ∧ s2 60 j = s 60 j
theorem LV.rf (s : Sg) (i : Nat) : LV s s i := ⟨fun _ _ _ _ _ _ => rfl, rfl, rfl, fun _ _ => ⟨rfl, rfl, rfl, rfl⟩⟩
theorem LV.tr {s s2 s3 : Sg} {i : Nat} (h : LV s s2 i) (h' : LV s2 s3 i) : LV s s3 i := by
  obtain ⟨a1, a2, a3, a4⟩ := h
  obtain ⟨b1, b2, b3, b4⟩ := h'
  exact ⟨fun c c1 c2 c3 c4 c5 => (b1 c c1 c2 c3 c4 c5).trans (a1 c c1 c2 c3 c4 c5), b2.trans a2, b3.trans a3, fun j hj => ⟨(b4 j hj).1.trans (a4 j hj).1, (b4 j hj).2.1.trans (a4 j hj).2.1, (b4 j hj).2.2.1.trans (a4 j hj).2.2.1, (b4 j hj).2.2.2.trans (a4 j hj).2.2.2⟩⟩
theorem LV.rn (s : Sg) (i : Nat) (h : Hap) : LV s (rnS s i h) i := by
  unfold rnS
  refine ⟨fun c c1 c2 c3 c4 c5 => ?_, ?_, ?_, fun j hj => ⟨?_, ?_, ?_, ?_⟩⟩
  · rw [sts_n _ _ _ c5, sts_n _ _ _ c4, sts_n _ _ _ c2]
  · rw [sts_n _ _ _ (by decide), sts_n _ _ _ (by decide), sts_n _ _ _ (by decide)]
  · rw [sts_n _ _ _ (by decide), sts_n _ _ _ (by decide), sts_n _ _ _ (by decide)]
  · rw [sts_n _ _ _ (by decide), sts_n _ _ _ (by decide), sts_j _ _ _ hj]
  · rw [sts_n _ _ _ (by decide), sts_n _ _ _ (by decide), sts_n _ _ _ (by decide)]
  · rw [sts_n _ _ _ (by decide), sts_j _ _ _ hj, sts_n _ _ _ (by decide)]
  · rw [sts_j _ _ _ hj, sts_n _ _ _ (by decide), sts_n _ _ _ (by decide)]
theorem LV.nx (s : Sg) (i : Nat) (v : Int32) : LV s (sts s 52 9 v) i := by
  refine ⟨fun c c1 c2 c3 c4 c5 => sts_n _ _ _ c1, sts_j _ _ _ (by decide), sts_j _ _ _ (by decide), fun j hj => ⟨?_, ?_, ?_, ?_⟩⟩ <;> rw [sts_n _ _ _ (by decide)]
theorem LV.hr {s s2 : Sg} {i : Nat} (h : LV s s2 i) (hR : HR s L) : HR s2 L := hR.fr (h.1 53 (by decide) (by decide) (by decide) (by decide) (by decide)) (h.1 54 (by decide) (by decide) (by decide) (by decide) (by decide))
/-- street i's word, rank, till -/
def tri (s : Sg) (i : Nat) : Int32 × Int32 × Int32 := (s 57 i, s 59 i, s 60 i)
theorem tri_rn (s : Sg) (i : Nat) (h : Hap) : tri (rnS s i h) i = (h 2, h 3, h 4) := by
  unfold tri rnS
  rw [sts_n _ _ _ (by decide), sts_n _ _ _ (by decide), sts_s, sts_n _ _ _ (by decide), sts_s, sts_s]
theorem tri_nx (s : Sg) (i : Nat) (v : Int32) : tri (sts s 52 9 v) i = tri s i := by
  unfold tri
  rw [sts_n _ _ _ (by decide), sts_n _ _ _ (by decide), sts_n _ _ _ (by decide)]
/-- those that happen, of a part of the list -/
def flt (hp : Int32) (L : List Hap) : List Hap := L.filter (fun h => decide (¬ (h 5 &&& hp) = 0))
def slc (L : List Hap) (a b : Nat) : List Hap := (L.drop a).take (b - a)
theorem slc_s {L : List Hap} {a b : Nat} (h : a < b) (hb : b ≤ L.length) : slc L a b = L.getD a h0 :: slc L (a + 1) b := by
  unfold slc
  have ha : a < L.length := by omega
  rw [List.drop_eq_getElem_cons ha, show b - a = (b - (a + 1)) + 1 by omega, List.take_succ_cons, List.getD_eq_getElem?_getD, List.getElem?_eq_getElem ha]
  rfl
theorem slc_n (L : List Hap) (a : Nat) : slc L a a = [] := by unfold slc; rw [Nat.sub_self, List.take_zero]
theorem flt_c (hp : Int32) (h : Hap) (L : List Hap) : flt hp (h :: L) = if (h 5 &&& hp) = 0 then flt hp L else h :: flt hp L := by
  unfold flt
  rw [List.filter_cons]
  by_cases q : (h 5 &&& hp) = 0
  · rw [if_pos q, if_neg (by rw [decide_eq_false (fun z => z q)]; decide)]
  · rw [if_neg q, if_pos (decide_eq_true q)]
theorem S_live (hR : HR s L) {i : Nat} (hi : i < 7) (x hp : Int32) {a : Nat} (ha : a ≤ tw L x) (hn : s 52 9 = nI a) :
    ∃ s2, f_X0_live (nI i) x hp s = some (nI (cnt1 (s 52 8) i (flt hp (slc L a (tw L x))) (tri s i)), s2) ∧ s2 52 9 = nI (tw L x) ∧ tri s2 i = fold1 (s 52 8) i (flt hp (slc L a (tw L x))) (tri s i) ∧ LV s s2 i := by
  have hl := tw_le L x
  have h10 := hR.2.1
  refine lp2_po (fun o => ∃ s2, o = some (nI (cnt1 (s 52 8) i (flt hp (slc L a (tw L x))) (tri s i)), s2) ∧ s2 52 9 = nI (tw L x) ∧ tri s2 i = fold1 (s 52 8) i (flt hp (slc L a (tw L x))) (tri s i) ∧ LV s s2 i)
    (fun d j u => ∃ b c, b + d = tw L x ∧ a ≤ b ∧ j = nI c ∧ u 52 9 = nI b ∧ LV s u i ∧ c + cnt1 (s 52 8) i (flt hp (slc L b (tw L x))) (tri u i) = cnt1 (s 52 8) i (flt hp (slc L a (tw L x))) (tri s i) ∧ fold1 (s 52 8) i (flt hp (slc L b (tw L x))) (tri u i) = fold1 (s 52 8) i (flt hp (slc L a (tw L x))) (tri s i)) ?_ fu (tw L x - a) _ _ (fu_ge (by omega)) ⟨a, 0, by omega, Nat.le_refl a, rfl, hn, LV.rf s i, by omega, rfl⟩
  rintro self d j u ⟨b, c, e1, e2, rfl, e3, e4, e5, e6⟩
  have hRu := e4.hr hR
  unfold b_X0_live_3
  rw [S_size, ob_s, hRu.1.2, e3, ifle _ _ (by omega) (by omega)]
  by_cases q : b < tw L x
  · right
    rw [if_neg (by omega), hRu.cell (by omega) (by decide), ob_s, if_neg (Int32.not_lt.mpr (tw_in L x q)), hRu.cell (by omega) (by decide), ob_s, nm_eq]
    rw [slc_s q hl, flt_c] at e5 e6
    have e8 : u 52 8 = s 52 8 := e4.2.2.1
    by_cases z : ((L.getD b h0) 5 &&& hp) = 0
    · rw [if_pos z] at e5 e6
      rw [if_pos z]
      dsimp only
      rw [nm_eq, e3, nadd]
      refine ⟨d - 1, _, _, by omega, rfl, b + 1, c, by omega, by omega, rfl, sts_s _ _ _ _, e4.tr (LV.nx u i _), ?_, ?_⟩
      · rw [tri_nx]; exact e5
      · rw [tri_nx]; exact e6
    · rw [if_neg z] at e5 e6
      rw [if_neg z, S_isRenamed hRu hi (by omega), e8]
      show ∃ e c0 c1, _ ∧ _ ∧ _
      by_cases y : cnd (s 52 8) i (L.getD b h0) (tri u i) = true
      · have y2 : cnd (s 52 8) i (L.getD b h0) (u 57 i, u 59 i, u 60 i) = true := y
        simp only [fold1, List.foldl_cons, cnt1, st1] at e5 e6
        rw [if_pos y, if_pos y] at e5
        rw [if_pos y] at e6
        rw [if_pos y2, ob2_some, if_neg (by decide)]
        dsimp only
        rw [nm_eq, show rnS u i (L.getD b h0) 52 = u 52 from by unfold rnS; rw [sts_n _ _ _ (by decide), sts_n _ _ _ (by decide), sts_n _ _ _ (by decide)], e3, nadd, nadd]
        refine ⟨d - 1, _, _, by omega, rfl, b + 1, c + 1, by omega, by omega, rfl, sts_s _ _ _ _, (e4.tr (LV.rn u i _)).tr (LV.nx _ i _), ?_, ?_⟩
        · rw [tri_nx, tri_rn, ← e5]; omega
        · rw [tri_nx, tri_rn]; exact e6
      · have y2 : ¬ cnd (s 52 8) i (L.getD b h0) (u 57 i, u 59 i, u 60 i) = true := y
        simp only [fold1, List.foldl_cons, cnt1, st1] at e5 e6
        rw [if_neg y, if_neg y] at e5
        rw [if_neg y] at e6
        rw [if_neg y2, ob2_some, if_pos (show nI 0 = 0 from rfl)]
        dsimp only
        rw [nm_eq, e3, nadd]
        refine ⟨d - 1, _, _, by omega, rfl, b + 1, c, by omega, by omega, rfl, sts_s _ _ _ _, e4.tr (LV.nx u i _), ?_, ?_⟩
        · rw [tri_nx, ← e5]; omega
        · rw [tri_nx]; exact e6
  · left
    have eb : b = tw L x := by omega
    subst eb
    rw [slc_n] at e5 e6
    have e7 : c = cnt1 (s 52 8) i (flt hp (slc L a (tw L x))) (tri s i) := by rw [← e5]; rfl
    have fin : ∃ s2, some (nI c, u) = some (nI (cnt1 (s 52 8) i (flt hp (slc L a (tw L x))) (tri s i)), s2) ∧ s2 52 9 = nI (tw L x) ∧ tri s2 i = fold1 (s 52 8) i (flt hp (slc L a (tw L x))) (tri s i) ∧ LV s s2 i := ⟨u, by rw [e7], e3, e6, e4⟩
    by_cases hd : L.length ≤ tw L x
    · rw [if_pos hd]; exact fin
    · rw [if_neg hd, hRu.cell (by omega) (by decide), ob_s, if_pos (Int32.not_le.mp (tw_out L x (by omega)))]
      exact fin
end DAY
