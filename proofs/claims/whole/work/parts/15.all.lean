/-! ALL STREETS BY A LIST: words, numbers, ranks, till -/
abbrev Vec : Type := (Nat → Int32) × (Nat → Int32) × (Nat → Int32) × (Nat → Int32)
def numF (ns : Nat) (w : Nat → Int32) (i : Nat) : Nat := forN (fun o c => if o ≠ i ∧ w o = w i then c + 1 else c) ns 1
theorem numF_le (w : Nat → Int32) (i : Nat) : ∀ n, numF n w i ≤ n + 1
  | 0 => Nat.le_refl 1
  | n + 1 => by
    have := numF_le w i n
    unfold numF at this ⊢
    rw [forN_s]
    split <;> omega
def stA (law : Int32) (ns : Nat) (h : Hap) (i : Nat) (V : Vec) : Vec :=
  if cnd law i h (V.1 i, V.2.2.1 i, V.2.2.2 i) = true then (upd V.1 i (h 2), upd V.2.1 i (nI (numF ns (upd V.1 i (h 2)) i)), upd V.2.2.1 i (h 3), upd V.2.2.2 i (h 4)) else V
def stepA (law : Int32) (ns : Nat) (V : Vec) (h : Hap) : Vec := forN (stA law ns h) ns V
def foldA (law : Int32) (ns : Nat) (L : List Hap) (V : Vec) : Vec := L.foldl (stepA law ns) V
theorem foldA_app (law : Int32) (ns : Nat) (A B : List Hap) (V : Vec) : foldA law ns (A ++ B) V = foldA law ns B (foldA law ns A V) := List.foldl_append
def vec (s : Sg) : Vec := (s 57, s 58, s 59, s 60)
/-- alike in the streets that are there -/
def VE (ns : Nat) (V U : Vec) : Prop := ∀ i, i < ns → V.1 i = U.1 i ∧ V.2.1 i = U.2.1 i ∧ V.2.2.1 i = U.2.2.1 i ∧ V.2.2.2 i = U.2.2.2 i
theorem numF_c {ns : Nat} {w u : Nat → Int32} {i : Nat} (hi : i < ns) (h : ∀ o, o < ns → w o = u o) : numF ns w i = numF ns u i := by
  unfold numF
  exact forN_c (fun o c ho => by rw [h o ho, h i hi])
theorem VE_st {law : Int32} {ns : Nat} {h : Hap} {i : Nat} {V U : Vec} (hi : i < ns) (hV : VE ns V U) : VE ns (stA law ns h i V) (stA law ns h i U) := by
  have hq := hV i hi
  have hup : ∀ o, o < ns → upd V.1 i (h 2) o = upd U.1 i (h 2) o := by
    intro o ho
    by_cases e : o = i
    · rw [e, upd_s, upd_s]
    · rw [upd_n _ _ e, upd_n _ _ e, (hV o ho).1]
  unfold stA
  rw [hq.1, hq.2.2.1, hq.2.2.2]
  by_cases c : cnd law i h (U.1 i, U.2.2.1 i, U.2.2.2 i) = true
  · rw [if_pos c, if_pos c]
    intro j hj
    refine ⟨hup j hj, ?_, ?_, ?_⟩
    · show upd V.2.1 i _ j = upd U.2.1 i _ j
      rw [numF_c hi hup]
      by_cases e : j = i
      · rw [e, upd_s, upd_s]
      · rw [upd_n _ _ e, upd_n _ _ e, (hV j hj).2.1]
    · show upd V.2.2.1 i _ j = upd U.2.2.1 i _ j
      by_cases e : j = i
      · rw [e, upd_s, upd_s]
      · rw [upd_n _ _ e, upd_n _ _ e, (hV j hj).2.2.1]
    · show upd V.2.2.2 i _ j = upd U.2.2.2 i _ j
      by_cases e : j = i
      · rw [e, upd_s, upd_s]
      · rw [upd_n _ _ e, upd_n _ _ e, (hV j hj).2.2.2]
  · rw [if_neg c, if_neg c]
    exact hV
theorem VE_step {law : Int32} {ns : Nat} {h : Hap} {V U : Vec} (hV : VE ns V U) : VE ns (stepA law ns V h) (stepA law ns U h) := by
  unfold stepA
  have : ∀ m, m ≤ ns → VE ns (forN (stA law ns h) m V) (forN (stA law ns h) m U) := by
    intro m
    induction m with
    | zero => exact fun _ => hV
    | succ m ih =>
      intro hm
      rw [forN_s, forN_s]
      exact VE_st (by omega) (ih (by omega))
  exact this ns (Nat.le_refl ns)
theorem VE_fold {law : Int32} {ns : Nat} : ∀ (L : List Hap) {V U : Vec}, VE ns V U → VE ns (foldA law ns L V) (foldA law ns L U)
  | [], _, _, h => h
  | _ :: L, _, _, h => VE_fold L (VE_step h)
/-- all streets as the day begins -/
def V0 (N : Nat → Int32) : Vec := (fun i => N (5 + 4 * i + 3), fun _ => nI 1, fun _ => nI 0, fun _ => nI 0)
section ALL
variable {s : Sg} {L : List Hap} {N : Nat → Int32} {ns : Nat}
/-- the plan stays -/
def KP (s s2 : Sg) : Prop := (∀ c, c ≠ 52 → c ≠ 57 → c ≠ 58 → c ≠ 59 → c ≠ 60 → s2 c = s c) ∧ s2 52 7 = s 52 7 ∧ s2 52 8 = s 52 8
theorem LV.kp {s2 : Sg} {i : Nat} (h : LV s s2 i) : KP s s2 := ⟨h.1, h.2.1, h.2.2.1⟩
theorem KP.rf (s : Sg) : KP s s := ⟨fun _ _ _ _ _ _ => rfl, rfl, rfl⟩
theorem KP.tr {s s2 s3 : Sg} (h : KP s s2) (h' : KP s2 s3) : KP s s3 := ⟨fun c c1 c2 c3 c4 c5 => (h'.1 c c1 c2 c3 c4 c5).trans (h.1 c c1 c2 c3 c4 c5), h'.2.1.trans h.2.1, h'.2.2.trans h.2.2⟩
theorem KP.pl {s2 : Sg} (h : KP s s2) (hP : PL s L N ns) : PL s2 L N ns :=
  ⟨hP.1.fr (h.1 53 (by decide) (by decide) (by decide) (by decide) (by decide)) (h.1 54 (by decide) (by decide) (by decide) (by decide) (by decide)), h.2.1.trans hP.2.1, h.2.2.trans hP.2.2.1, fun j hj => by rw [h.1 56 (by decide) (by decide) (by decide) (by decide) (by decide)]; exact hP.2.2.2 j hj⟩
theorem KP.num (s : Sg) (i : Nat) (v : Int32) : KP s (sts s 58 i v) := ⟨fun c _ _ c3 _ _ => sts_n _ _ _ c3, by rw [sts_n _ _ _ (by decide)], by rw [sts_n _ _ _ (by decide)]⟩
theorem S_numberFor (hP : PL s L N ns) (hns : ns ≤ 7) {i : Nat} (hi : i < ns) : f_X0_numberFor (nI i) s = some (nI (numF ns (s 57) i)) := by
  have hle : ∀ m, numF m (s 57) i ≤ m + 1 := numF_le (s 57) i
  refine lp2_po (fun o => o = some (nI (numF ns (s 57) i))) (fun d a j => ∃ m, m + d = ns ∧ j = nI m ∧ a = nI (numF m (s 57) i)) ?_ fu ns _ _ (fu_ge (by omega)) ⟨0, by omega, rfl, rfl⟩
  rintro self d a j ⟨m, e1, rfl, rfl⟩
  unfold b_X0_numberFor_4
  rw [hP.2.1, ifle _ _ (by omega) (by omega)]
  by_cases hd : ns ≤ m
  · left
    rw [if_pos hd, show m = ns by omega]
  · right
    rw [if_neg hd, nm_eq, ife _ _ (by omega) (by omega)]
    refine ⟨d - 1, _, nI (m + 1), by omega, ?_, m + 1, by omega, rfl, rfl⟩
    unfold numF
    rw [forN_s]
    by_cases q : m = i
    · rw [if_pos q, if_neg (fun z => z.1 q)]
      dsimp only
      rw [nadd]
    · rw [if_neg q, ag _ 57 (show m < 7 by omega) (by omega), ob_s, ag _ 57 (show i < 7 by omega) (by omega), ob_s]
      by_cases q2 : s 57 m = s 57 i
      · rw [if_pos q2, if_pos ⟨q, q2⟩]
        dsimp only
        rw [nadd, nadd]
      · rw [if_neg q2, if_neg (fun z => q2 z.2)]
        dsimp only
        rw [nadd]
theorem vec_rn (s : Sg) (i : Nat) (h : Hap) : vec (rnS s i h) = (upd (s 57) i (h 2), s 58, upd (s 59) i (h 3), upd (s 60) i (h 4)) := by
  unfold vec rnS
  rw [sts_n _ _ _ (by decide), sts_n _ _ _ (by decide), sts_c, sts_n _ _ _ (by decide), sts_n _ _ _ (by decide), sts_n _ _ _ (by decide), sts_n _ _ _ (by decide), sts_c, sts_n _ _ _ (by decide), sts_c, sts_n _ _ _ (by decide), sts_n _ _ _ (by decide)]
theorem S_liveAll (hP : PL s L N ns) (hns : ns ≤ 7) (x : Int32) {a : Nat} (ha : a ≤ tw L x) (hn : s 52 9 = nI a) :
    ∃ s2, f_X0_liveAll x s = some s2 ∧ s2 52 9 = nI (tw L x) ∧ vec s2 = foldA (N 2) ns (slc L a (tw L x)) (vec s) ∧ KP s s2 := by
  have hl := tw_le L x
  have h10 := hP.1.2.1
  refine lp1_po (fun o => ∃ s2, o = some s2 ∧ s2 52 9 = nI (tw L x) ∧ vec s2 = foldA (N 2) ns (slc L a (tw L x)) (vec s) ∧ KP s s2)
    (fun d u => ∃ b, b + d = tw L x ∧ a ≤ b ∧ u 52 9 = nI b ∧ KP s u ∧ foldA (N 2) ns (slc L b (tw L x)) (vec u) = foldA (N 2) ns (slc L a (tw L x)) (vec s)) ?_ fu (tw L x - a) _ (fu_ge (by omega)) ⟨a, by omega, Nat.le_refl a, hn, KP.rf s, rfl⟩
  rintro self d u ⟨b, e1, e2, e3, e4, e6⟩
  have hPu := e4.pl hP
  unfold b_X0_liveAll_0
  rw [S_size, ob_s, hPu.1.1.2, e3, ifle _ _ (by omega) (by omega)]
  by_cases q : b < tw L x
  · right
    rw [if_neg (by omega), hPu.1.cell (by omega) (by decide), ob_s, if_neg (Int32.not_lt.mpr (tw_in L x q)), nm_eq]
    rw [slc_s q hl] at e6
    have key : ∃ u2, lp2_ (b_X0_liveAll_32 (fun s5 => nm_ (sts s5 52 9 (s5 52 9 + nI 1)) fun s7 => self s7)) fu (nI 0) u = self u2 ∧ u2 52 9 = nI (b + 1) ∧ KP u u2 ∧ vec u2 = stepA (N 2) ns (vec u) (L.getD b h0) := by
      refine lp2_po (fun o => ∃ u2, o = self u2 ∧ u2 52 9 = nI (b + 1) ∧ KP u u2 ∧ vec u2 = stepA (N 2) ns (vec u) (L.getD b h0))
        (fun d j v => ∃ i, i + d = ns ∧ j = nI i ∧ v 52 = u 52 ∧ KP u v ∧ vec v = forN (stA (N 2) ns (L.getD b h0)) i (vec u)) ?_ fu ns _ _ (fu_ge (by omega)) ⟨0, by omega, rfl, rfl, KP.rf u, rfl⟩
      rintro self2 d2 j v ⟨i, a1, rfl, a2, a3, a4⟩
      have hPv := a3.pl hPu
      unfold b_X0_liveAll_32
      rw [hPv.2.1, ifle _ _ (by omega) (by omega)]
      by_cases hd : ns ≤ i
      · left
        rw [if_pos hd]
        refine ⟨sts v 52 9 (v 52 9 + nI 1), rfl, ?_, ?_, ?_⟩
        · rw [sts_s, a2, e3, nadd]
        · exact a3.tr (LV.nx v 0 _).kp
        · unfold vec
          rw [sts_n _ _ _ (by decide), sts_n _ _ _ (by decide), sts_n _ _ _ (by decide), sts_n _ _ _ (by decide)]
          unfold stepA
          rw [show ns = i by omega] at a4 ⊢
          exact a4
      · right
        have hc : ∀ W : Vec, W = vec v → forN (stA (N 2) ns (L.getD b h0)) (i + 1) (vec u) = stA (N 2) ns (L.getD b h0) i W := fun W hW => by rw [forN_s, ← a4, hW]
        rw [if_neg hd, a2, e3, S_isRenamed hPv.1 (by omega) (by omega), hPv.2.2.1]
        by_cases y : cnd (N 2) i (L.getD b h0) (v 57 i, v 59 i, v 60 i) = true
        · rw [if_pos y, ob2_some, nm_eq, if_neg (by decide)]
          have h1 := (LV.rn v i (L.getD b h0)).kp
          rw [S_numberFor (h1.pl hPv) hns (by omega), ob_s, as _ 58 _ (show i < 7 by omega), ob_s]
          dsimp only
          rw [nadd]
          refine ⟨d2 - 1, _, _, by omega, rfl, i + 1, by omega, rfl, ?_, (a3.tr h1).tr (KP.num _ i _), ?_⟩
          · rw [sts_n _ _ _ (by decide), ← a2]
            unfold rnS
            rw [sts_n _ _ _ (by decide), sts_n _ _ _ (by decide), sts_n _ _ _ (by decide)]
          · rw [hc _ rfl]
            unfold stA
            rw [if_pos (show cnd (N 2) i (L.getD b h0) ((vec v).1 i, (vec v).2.2.1 i, (vec v).2.2.2 i) = true from y)]
            have h2 := vec_rn v i (L.getD b h0)
            unfold vec at h2 ⊢
            simp only [Prod.mk.injEq] at h2
            rw [sts_n _ _ _ (by decide), sts_c, sts_n _ _ _ (by decide), sts_n _ _ _ (by decide), h2.1, h2.2.1, h2.2.2.1, h2.2.2.2]
        · rw [if_neg y, ob2_some, nm_eq, if_pos (show nI 0 = 0 from rfl)]
          dsimp only
          rw [nadd]
          refine ⟨d2 - 1, _, _, by omega, rfl, i + 1, by omega, rfl, a2, a3, ?_⟩
          rw [hc _ rfl]
          unfold stA
          rw [if_neg (show ¬ cnd (N 2) i (L.getD b h0) ((vec v).1 i, (vec v).2.2.1 i, (vec v).2.2.2 i) = true from y)]
    obtain ⟨u2, b1, b2, b3, b4⟩ := key
    rw [b1]
    refine ⟨d - 1, u2, by omega, rfl, b + 1, by omega, by omega, b2, e4.tr b3, ?_⟩
    rw [b4, ← e6]
    rfl
  · left
    have eb : b = tw L x := by omega
    subst eb
    rw [slc_n] at e6
    have fin : ∃ s2, some u = some s2 ∧ s2 52 9 = nI (tw L x) ∧ vec s2 = foldA (N 2) ns (slc L a (tw L x)) (vec s) ∧ KP s s2 := ⟨u, rfl, e3, e6, e4⟩
    by_cases hd : L.length ≤ tw L x
    · rw [if_pos hd]; exact fin
    · rw [if_neg hd, hPu.1.cell (by omega) (by decide), ob_s, if_pos (Int32.not_le.mp (tw_out L x (by omega)))]
      exact fin
theorem S_beginAll (hP : PL s L N ns) (hns : ns ≤ 7) (hn : 0 < ns) : ∃ s2, f_X0_beginAll s = some s2 ∧ s2 52 9 = nI 0 ∧ VE ns (vec s2) (V0 N) ∧ KP s s2 := by
  refine lp2_po (fun o => ∃ s2, o = some s2 ∧ s2 52 9 = nI 0 ∧ VE ns (vec s2) (V0 N) ∧ KP s s2)
    (fun d j u => ∃ i, i + d = ns ∧ j = nI i ∧ (0 < i → u 52 9 = nI 0) ∧ VE i (vec u) (V0 N) ∧ KP s u) ?_ fu ns _ _ (fu_ge (by omega)) ⟨0, by omega, rfl, fun h => absurd h (Nat.lt_irrefl 0), fun i hi => absurd hi (Nat.not_lt_zero i), KP.rf s⟩
  rintro self d j u ⟨i, e1, rfl, e2, e3, e4⟩
  have hPu := e4.pl hP
  unfold b_X0_beginAll_2
  rw [hPu.2.1, ifle _ _ (by omega) (by omega)]
  by_cases hd : ns ≤ i
  · left
    rw [if_pos hd]
    rw [show i = ns by omega] at e2 e3
    exact ⟨u, rfl, e2 hn, e3, e4⟩
  · right
    rw [if_neg hd, S_begin (by omega), ob_s, nadd]
    have hB := LV.bg u i
    refine ⟨d - 1, _, bgS u i, by omega, rfl, i + 1, by omega, rfl, fun _ => bgS_nx u i, fun k hk => ?_, e4.tr hB.kp⟩
    by_cases q : k = i
    · subst q
      have h1 := bgS_tri u k
      unfold tri at h1
      simp only [Prod.mk.injEq] at h1
      refine ⟨h1.1.trans (hPu.2.2.2 k (by omega)), ?_, h1.2.1, h1.2.2⟩
      show bgS u k 58 k = nI 1
      unfold bgS
      rw [sts_n _ _ _ (by decide), sts_n _ _ _ (by decide), sts_s]
    · have h1 := hB.2.2.2 k q
      have h2 := e3 k (by omega)
      exact ⟨h1.1.trans h2.1, h1.2.1.trans h2.2.1, h1.2.2.1.trans h2.2.2.1, h1.2.2.2.trans h2.2.2.2⟩
theorem S_nameNow {i : Nat} (hi : i < 7) : f_X0_nameNow (nI i) s = some (nI 100 * s 58 i + s 57 i) := by
  unfold f_X0_nameNow
  rw [S_isBelow, ob_s, bi_B (by omega) (by decide), if_bi, if_pos hi, ag _ 58 (by exact hi) (by omega), ob_s, ag _ 57 (by exact hi) (by omega), ob_s]
/-- the name of a street behind the events of an hour -/
def nmV (V : Vec) (i : Nat) : Int32 := nI 100 * V.2.1 i + V.1 i
def nmA (N : Nat → Int32) (ns : Nat) (L : List Hap) (H i : Nat) : Int32 := nmV (foldA (N 2) ns (L.take (tw L (nI H))) (V0 N)) i
theorem nmV_e {V U : Vec} (h : VE ns V U) {i : Nat} (hi : i < ns) : nmV V i = nmV U i := by
  unfold nmV
  rw [(h i hi).1, (h i hi).2.1]
end ALL
