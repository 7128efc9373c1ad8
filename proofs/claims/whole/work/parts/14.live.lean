/-! ONE STREET BY A PLAN; ALL STREETS BY IT; NAMES -/
theorem slc_0 (L : List Hap) (b : Nat) : slc L 0 b = L.take b := by unfold slc; rw [List.drop_zero, Nat.sub_zero]
theorem take_slc (L : List Hap) {a b : Nat} (h : a ≤ b) : L.take b = L.take a ++ slc L a b := by
  unfold slc
  rw [← List.take_append_drop a (L.take b), List.take_take, Nat.min_eq_left h, List.drop_take]
theorem flt_app (hp : Int32) (A B : List Hap) : flt hp (A ++ B) = flt hp A ++ flt hp B := List.filter_append A B
theorem fold1_app (law : Int32) (i : Nat) (A B : List Hap) (q : Int32 × Int32 × Int32) : fold1 law i (A ++ B) q = fold1 law i B (fold1 law i A q) := List.foldl_append
theorem tw_mono {L : List Hap} {x y : Int32} (h : x ≤ y) : tw L x ≤ tw L y := by
  induction L with
  | nil => exact Nat.le_refl 0
  | cons a L ih =>
    rw [tw_cons, tw_cons]
    by_cases q : a 0 ≤ x
    · rw [if_pos q, if_pos (Int32.le_trans q h)]
      omega
    · rw [if_neg q]
      omega
/-- a street as the day begins -/
def beg (N : Nat → Int32) (i : Nat) : Int32 × Int32 × Int32 := (N (5 + 4 * i + 3), nI 0, nI 0)
def trk (law : Int32) (i : Nat) (L : List Hap) (w : Int32) : Int32 × Int32 × Int32 := fold1 law i L (w, nI 0, nI 0)
/-- where the day stands: a small number -/
def NX (s : Sg) : Prop := ∃ b, b ≤ 10 ∧ s 52 9 = nI b
section LIVE
variable {s : Sg} {L : List Hap} {N : Nat → Int32} {ns : Nat}
theorem LV.pl {s2 : Sg} {i : Nat} (h : LV s s2 i) (hP : PL s L N ns) : PL s2 L N ns :=
  ⟨h.hr hP.1, h.2.1.trans hP.2.1, h.2.2.1.trans hP.2.2.1, fun j hj => by rw [h.1 56 (by decide) (by decide) (by decide) (by decide) (by decide)]; exact hP.2.2.2 j hj⟩
def bgS (s : Sg) (i : Nat) : Sg := sts (sts (sts (sts (sts s 52 9 (nI 0)) 57 i (s 56 i)) 58 i (nI 1)) 59 i (nI 0)) 60 i (nI 0)
theorem LV.bg (s : Sg) (i : Nat) : LV s (bgS s i) i := by
  unfold bgS
  refine ⟨fun c c1 c2 c3 c4 c5 => ?_, ?_, ?_, fun j hj => ⟨?_, ?_, ?_, ?_⟩⟩
  · rw [sts_n _ _ _ c5, sts_n _ _ _ c4, sts_n _ _ _ c3, sts_n _ _ _ c2, sts_n _ _ _ c1]
  · rw [sts_n _ _ _ (by decide), sts_n _ _ _ (by decide), sts_n _ _ _ (by decide), sts_n _ _ _ (by decide), sts_j _ _ _ (by decide)]
  · rw [sts_n _ _ _ (by decide), sts_n _ _ _ (by decide), sts_n _ _ _ (by decide), sts_n _ _ _ (by decide), sts_j _ _ _ (by decide)]
  · rw [sts_n _ _ _ (by decide), sts_n _ _ _ (by decide), sts_n _ _ _ (by decide), sts_j _ _ _ hj, sts_n _ _ _ (by decide)]
  · rw [sts_n _ _ _ (by decide), sts_n _ _ _ (by decide), sts_j _ _ _ hj, sts_n _ _ _ (by decide), sts_n _ _ _ (by decide)]
  · rw [sts_n _ _ _ (by decide), sts_j _ _ _ hj, sts_n _ _ _ (by decide), sts_n _ _ _ (by decide), sts_n _ _ _ (by decide)]
  · rw [sts_j _ _ _ hj, sts_n _ _ _ (by decide), sts_n _ _ _ (by decide), sts_n _ _ _ (by decide), sts_n _ _ _ (by decide)]
theorem bgS_tri (s : Sg) (i : Nat) : tri (bgS s i) i = (s 56 i, nI 0, nI 0) := by
  unfold tri bgS
  rw [sts_n _ _ _ (by decide), sts_n _ _ _ (by decide), sts_n _ _ _ (by decide), sts_s, sts_n _ _ _ (by decide), sts_s, sts_s]
theorem bgS_nx (s : Sg) (i : Nat) : bgS s i 52 9 = nI 0 := by
  unfold bgS
  rw [sts_n _ _ _ (by decide), sts_n _ _ _ (by decide), sts_n _ _ _ (by decide), sts_n _ _ _ (by decide), sts_s]
theorem S_wordIn (hP : PL s L N ns) (hns : ns ≤ 7) {i : Nat} (hi : i < ns) (x hp : Int32) : ∃ s2, f_X0_wordIn (nI i) x hp s = some ((trk (N 2) i (flt hp (L.take (tw L x))) (N (5 + 4 * i + 3))).1, s2) ∧ LV s s2 i ∧ NX s2 := by
  unfold f_X0_wordIn
  rw [S_isBelow, ob_s, bi_B (by omega) (by decide), if_bi, if_pos (by omega), S_begin (by omega), ob_s]
  show ∃ s2, (ob2 (f_X0_live (nI i) x hp (bgS s i)) _) = _ ∧ _
  have hB := LV.bg s i
  obtain ⟨s2, e1, e2, e3, e4⟩ := S_live (hB.hr hP.1) (show i < 7 by omega) x hp (a := 0) (Nat.zero_le _) (bgS_nx s i)
  rw [e1, ob2_some, ag _ 57 (show i < 7 by omega) (by omega), ob_s]
  refine ⟨s2, ?_, hB.tr e4, _, Nat.le_trans (tw_le L x) hP.1.2.1, e2⟩
  rw [bgS_tri, slc_0, hB.2.2.1, hP.2.2.1, hP.2.2.2 i hi] at e3
  unfold trk
  rw [← e3]
  rfl
theorem S_renamings (hP : PL s L N ns) (hns : ns ≤ 7) {i : Nat} (hi : i < ns) (hp : Int32) : ∃ s2, f_X0_renamings (nI i) hp s = some (nI (cnt1 (N 2) i (flt hp (L.take (tw L (nI 23)))) (beg N i)), s2) ∧ LV s s2 i ∧ NX s2 := by
  unfold f_X0_renamings
  rw [S_isBelow, ob_s, bi_B (by omega) (by decide), if_bi, if_pos (by omega), S_begin (by omega), ob_s]
  show ∃ s2, (ob2 (f_X0_live (nI i) (nI 23) hp (bgS s i)) _) = _ ∧ _
  have hB := LV.bg s i
  obtain ⟨s2, e1, e2, e3, e4⟩ := S_live (hB.hr hP.1) (show i < 7 by omega) (nI 23) hp (a := 0) (Nat.zero_le _) (bgS_nx s i)
  rw [e1, ob2_some, bgS_tri, slc_0, hB.2.2.1, hP.2.2.1, hP.2.2.2 i hi]
  exact ⟨s2, rfl, hB.tr e4, _, Nat.le_trans (tw_le L _) hP.1.2.1, e2⟩
/-- the words of a street in each hour, together by some worth -/
def sumW (R : Int32 → Int32) (W : Nat → Int32) (n : Nat) : Int32 := forN (fun H a => a + R (W H)) n (nI 0)
theorem S_rentOf {t i : Nat} (hP : PL s L N ns) (hns : ns ≤ 7) (ht : t + 12 ≤ 49) (hT : isT t) (hr : ∀ w, w < 16 → s (t + 9) w = N (81 + w)) (hw : ∀ H, rng (trk (N 2) i (flt (-1) (L.take (tw L (nI H)))) (N (5 + 4 * i + 3))).1 16) (hi : i < ns) :
    ∃ s2, f_X0_rentOf (nI i) t s = some (sumW (fun w => N (81 + w.toNatClampNeg)) (fun H => (trk (N 2) i (flt (-1) (L.take (tw L (nI H)))) (N (5 + 4 * i + 3))).1) 24, s2) ∧ LV s s2 i ∧ NX s2 := by
  unfold f_X0_rentOf
  rw [S_isBelow, ob_s, bi_B (by omega) (by decide), if_bi, if_pos (by omega), S_begin (by omega), ob_s]
  show ∃ s2, lp3_ _ fu _ _ (bgS s i) = _ ∧ _
  have hB := LV.bg s i
  refine lp3_po (fun o => ∃ s2, o = some (sumW (fun w => N (81 + w.toNatClampNeg)) (fun H => (trk (N 2) i (flt (-1) (L.take (tw L (nI H)))) (N (5 + 4 * i + 3))).1) 24, s2) ∧ LV s s2 i ∧ NX s2)
    (fun d a j u => ∃ H b, H + d = 24 ∧ j = nI H ∧ a = sumW (fun w => N (81 + w.toNatClampNeg)) (fun H => (trk (N 2) i (flt (-1) (L.take (tw L (nI H)))) (N (5 + 4 * i + 3))).1) H ∧ LV s u i ∧ u 52 9 = nI b ∧ b ≤ tw L (nI H) ∧ tri u i = trk (N 2) i (flt (-1) (L.take b)) (N (5 + 4 * i + 3))) ?_ fu 24 _ _ _ (fu_ge (by omega)) ⟨0, 0, by omega, rfl, rfl, hB, bgS_nx s i, Nat.zero_le _, ?_⟩
  · rintro self d a j u ⟨H, b, e1, rfl, rfl, e2, e3, e4, e5⟩
    unfold b_X0_rentOf_21
    rw [ifle _ _ (by decide) (by omega)]
    by_cases hd : 24 ≤ H
    · left
      rw [if_pos hd, show H = 24 by omega]
      exact ⟨u, rfl, e2, b, Nat.le_trans e4 (Nat.le_trans (tw_le L _) hP.1.2.1), e3⟩
    · right
      rw [if_neg hd]
      obtain ⟨s2, a1, a2, a3, a4⟩ := S_live (e2.hr hP.1) (show i < 7 by omega) (nI H) (-1) e4 e3
      rw [a1, ob2_some, ag _ 57 (show i < 7 by omega) (by omega), ob_s]
      rw [e2.2.2.1, hP.2.2.1, e5] at a3
      have a5 : tri s2 i = trk (N 2) i (flt (-1) (L.take (tw L (nI H)))) (N (5 + 4 * i + 3)) := by
        rw [a3]
        unfold trk
        rw [← fold1_app, ← flt_app, ← take_slc L e4]
      have a6 : s2 57 i = (trk (N 2) i (flt (-1) (L.take (tw L (nI H)))) (N (5 + 4 * i + 3))).1 := by rw [← a5]; rfl
      obtain ⟨w, hw1, hw2⟩ := hw H
      have a7 := e2.tr a4
      rw [a6, hw2]
      unfold f_X5_rentAt
      rw [S_isBelow, ob_s, bi_B (by omega) (by decide), if_bi, if_pos hw1, ag _ _ (by rw [hT.k.2.2.2.2.1]; exact hw1) (by omega), ob_s, ob_s, nm_eq, nadd]
      refine ⟨d - 1, _, _, s2, by omega, rfl, H + 1, tw L (nI H), by omega, rfl, ?_, a7, a2, tw_mono ?_, a5⟩
      · rw [a7.1 (t + 9) (by omega) (by omega) (by omega) (by omega) (by omega), hr w hw1]
        unfold sumW
        rw [forN_s]
        dsimp only
        rw [hw2, nIc (by omega)]
      · exact (nI_leI (by omega) (by omega)).mpr (by omega)
  · rw [bgS_tri, hP.2.2.2 i hi]
    rfl
end LIVE
