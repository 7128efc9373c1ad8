/-! THE REFERENCE'S RUN OF A DAY -/
section RUN
variable {s : Sg} {N : Nat → Int32} {ns ne nr np : Nat}
theorem and1 (z : Int32) : (z &&& nI 1 = nI 1) ↔ ¬ z &&& nI 1 = 0 := by
  have h : (z &&& nI 1).toBitVec = 0#32 ∨ (z &&& nI 1).toBitVec = 1#32 := by
    have e : (z &&& nI 1).toBitVec = z.toBitVec &&& 1#32 := rfl
    have h2 := BitVec.and_one_eq_setWidth_ofBool_getLsbD (x := z.toBitVec)
    rw [e, h2]
    cases z.toBitVec.getLsbD 0
    · exact Or.inl rfl
    · exact Or.inr rfl
  rcases h with h | h
  · have : z &&& nI 1 = 0 := Int32.toBitVec_inj.mp h
    rw [this]
    exact ⟨fun q => absurd q (by decide), fun q => absurd rfl q⟩
  · have : z &&& nI 1 = nI 1 := Int32.toBitVec_inj.mp h
    rw [this]
    exact ⟨fun _ => by decide, fun _ => rfl⟩
theorem hb_1 (x : Int32) (i : Nat) : ((x >>> (nI i &&& 31)) &&& nI 1 = nI 1) ↔ hb x i = true := by
  rw [and1]
  unfold hb
  exact (decide_eq_true_iff).symm
theorem RF.n {s2 : Sg} (h : RF s s2) (h71 : s 71 = N) : s2 71 = N := (h 71 (by decide) (by decide) (by decide) (by decide) (by decide)).trans h71
theorem S8_happen (h : s 71 = N) (hV : VN N ns ne nr np) {p : Nat} (hp : p < ns) (k saw rank : Int32) (hp0 : Hap) (h1 : hp0 1 = hin N ns k p) (h3 : hp0 3 = ro k rank) (h4 : hp0 4 = hp0 0 + sf k) : ∃ s2, f_X8_happen k (nI p) (hp0 0) saw rank (hp0 2) s = some s2 ∧ RF s s2 ∧
    vecR s2 = (if ms k ≤ saw then stepB (N 2) ns (vecR s) hp0 else vecR s) := by
  have hns := hV.2.1.1
  unfold f_X8_happen
  rw [S8_mustSee, ob_s]
  by_cases q : ms k ≤ saw
  · rw [if_pos q, if_pos q, S8_happensIn h hV k hp, ob_s]
    refine lp2_po (fun o => ∃ s2, o = some s2 ∧ RF s s2 ∧ vecR s2 = stepB (N 2) ns (vecR s) hp0)
      (fun d j u => ∃ i, i + d = ns ∧ j = nI i ∧ RF s u ∧ vecR u = forN (stB (N 2) ns hp0) i (vecR s)) ?_ fu ns _ _ (fu_ge (by omega)) ⟨0, by omega, rfl, RF.rf s, rfl⟩
    rintro self d j u ⟨i, e1, rfl, e2, e3⟩
    have hu := e2.n h
    unfold b_X8_happen_21
    rw [S8_streets hu hV, ob_s, ifle _ _ (by omega) (by omega)]
    by_cases hd : ns ≤ i
    · left
      rw [if_pos hd]
      refine ⟨u, rfl, e2, ?_⟩
      unfold stepB
      rw [show ns = i by omega] at e3 ⊢
      exact e3
    · right
      rw [if_neg hd, nm_eq]
      have hs1 : forN (stB (N 2) ns hp0) (i + 1) (vecR s) = stB (N 2) ns hp0 i (vecR u) := by rw [forN_s, ← e3]
      by_cases b : hb (hp0 1) i = true
      · rw [if_pos (show ((hin N ns k p >>> (nI i &&& 31)) &&& nI 1) = nI 1 from (hb_1 _ _).mpr (by rw [← h1]; exact b)), S8_rankOf, ob_s, ← h3]
        obtain ⟨u2, a1, a2, a3⟩ := S8_rename hu hV (show i < ns by omega) k hp0 h4
        rw [a1, ob_s]
        dsimp only
        rw [nadd]
        refine ⟨d - 1, _, u2, by omega, rfl, i + 1, by omega, rfl, e2.tr a2, ?_⟩
        rw [a3, hs1]
        unfold stB cnd
        rw [b, Bool.true_and]
        by_cases y : yld (N 2) hp0 (u 79 i) (u 80 i) = true
        · rw [if_pos y]
          have y2 : yld (N 2) hp0 ((vecR u).1.2.2.1 i) ((vecR u).1.2.2.2 i) = true := y
          rw [if_pos y2]
          unfold stA cnd
          rw [if_pos (show (hb (hp0 1) i && yld (N 2) hp0 ((vecR u).1.2.2.1 i) ((vecR u).1.2.2.2 i)) = true by rw [b, y2]; rfl)]
          rfl
        · rw [if_neg y, if_neg (show ¬ yld (N 2) hp0 ((vecR u).1.2.2.1 i) ((vecR u).1.2.2.2 i) = true from y)]
      · rw [if_neg (fun z => b (by rw [h1]; exact (hb_1 _ _).mp z))]
        dsimp only
        rw [nadd]
        refine ⟨d - 1, _, u, by omega, rfl, i + 1, by omega, rfl, e2, ?_⟩
        rw [hs1]
        unfold stB cnd
        rw [if_neg (by rw [Bool.eq_false_iff.mpr b, Bool.false_and]; decide)]
  · rw [if_neg q, if_neg q]
    exact ⟨s, rfl, RF.rf s, rfl⟩
/-- the events of an hour, those of some (bits), and what is staged in it -/
noncomputable def evH (N : Nat → Int32) (ns : Nat) (x : Int32) (H : Nat) : Nat → List Hap
  | 0 => []
  | e + 1 => if hb x e = true ∧ N (33 + 6 * e + 2) = nI H ∧ seenN N e = true then evH N ns x H e ++ [hapE N ns e] else evH N ns x H e
/-- staged: in street, hour, word -/
abbrev Stg : Type := List (Nat × Int32 × Int32)
def stH (g : Stg) (H : Nat) : List Hap := (g.filter (fun q => decide (q.2.1 = nI H))).map (fun q => hapS q.1 q.2.2 q.2.1)
def SGd (s : Sg) (g : Stg) (ns : Nat) : Prop := s 70 11 = nI g.length ∧ g.length ≤ 2 ∧ ∀ k (q : Nat × Int32 × Int32), g[k]? = some q → q.1 < ns ∧ s 82 k = nI q.1 ∧ s 83 k = q.2.1 ∧ s 84 k = q.2.2
noncomputable def allH (N : Nat → Int32) (ns ne : Nat) (x : Int32) (g : Stg) : Nat → List Hap
  | 0 => []
  | H + 1 => allH N ns ne x g H ++ (evH N ns x H ne ++ stH g H)
/-- all but a run's own -/
def RG (s s2 : Sg) : Prop := ∀ c, c ≠ 75 → c ≠ 76 → c ≠ 77 → c ≠ 78 → c ≠ 79 → c ≠ 80 → c ≠ 81 → s2 c = s c
theorem RF.g {s2 : Sg} (h : RF s s2) : RG s s2 := fun c _ _ a3 a4 a5 a6 a7 => h c a3 a4 a5 a6 a7
theorem RG.rf (s : Sg) : RG s s := fun _ _ _ _ _ _ _ _ => rfl
theorem RG.tr {s s2 s3 : Sg} (h : RG s s2) (h' : RG s2 s3) : RG s s3 := fun c a b d e f g i => (h' c a b d e f g i).trans (h c a b d e f g i)
theorem RG.n {s2 : Sg} (h : RG s s2) (h71 : s 71 = N) : s2 71 = N := (h 71 (by decide) (by decide) (by decide) (by decide) (by decide) (by decide) (by decide)).trans h71
/-- alike in the streets there are, the counts too -/
def VB (ns : Nat) (V U : Vec × (Nat → Int32)) : Prop := VE ns V.1 U.1 ∧ ∀ i, i < ns → V.2 i = U.2 i
theorem VB_st {law : Int32} {h : Hap} {i : Nat} {V U : Vec × (Nat → Int32)} (hi : i < ns) (hVU : VB ns V U) : VB ns (stB law ns h i V) (stB law ns h i U) := by
  have hq := hVU.1 i hi
  refine ⟨by rw [stB_1, stB_1]; exact VE_st hi hVU.1, fun j hj => ?_⟩
  unfold stB
  rw [hq.1, hq.2.2.1, hq.2.2.2]
  by_cases c : cnd law i h (U.1.1 i, U.1.2.2.1 i, U.1.2.2.2 i) = true
  · rw [if_pos c, if_pos c]
    show upd V.2 i _ j = upd U.2 i _ j
    rw [hVU.2 i hi]
    by_cases e : j = i
    · rw [e, upd_s, upd_s]
    · rw [upd_n _ _ e, upd_n _ _ e, hVU.2 j hj]
  · rw [if_neg c, if_neg c]
    exact hVU.2 j hj
theorem VB_step {law : Int32} {h : Hap} {V U : Vec × (Nat → Int32)} (hVU : VB ns V U) : VB ns (stepB law ns V h) (stepB law ns U h) := by
  unfold stepB
  have : ∀ m, m ≤ ns → VB ns (forN (stB law ns h) m V) (forN (stB law ns h) m U) := by
    intro m
    induction m with
    | zero => exact fun _ => hVU
    | succ m ih =>
      intro hm
      rw [forN_s, forN_s]
      exact VB_st (by omega) (ih (by omega))
  exact this ns (Nat.le_refl ns)
theorem VB_fold {law : Int32} : ∀ (L : List Hap) {V U : Vec × (Nat → Int32)}, VB ns V U → VB ns (foldB law ns L V) (foldB law ns L U)
  | [], _, _, h => h
  | _ :: L, _, _, h => VB_fold L (VB_step h)
def V0B (N : Nat → Int32) : Vec × (Nat → Int32) := (V0 N, fun _ => nI 0)
theorem foldB_1s (law : Int32) (h : Hap) (V : Vec × (Nat → Int32)) : foldB law ns [h] V = stepB law ns V h := rfl
theorem S8_run (h : s 71 = N) (hV : VN N ns ne nr np) {g : Stg} (hg : SGd s g ns) (x : Int32) :
    ∃ s2, f_X8_run x s = some s2 ∧ RG s s2 ∧ VB ns (vecR s2) (foldB (N 2) ns (allH N ns ne x g 24) (V0B N)) ∧
      ∀ H i, H < 24 → i < ns → s2 75 (7 * H + i) = (foldB (N 2) ns (allH N ns ne x g (H + 1)) (V0B N)).1.1 i ∧ s2 76 (7 * H + i) = (foldB (N 2) ns (allH N ns ne x g (H + 1)) (V0B N)).1.2.1 i := by
  have hns := hV.2.1.1
  have hne := hV.2.1.2.1
  unfold f_X8_run
  rw [nm_eq]
  generalize hG : (fun s2 : Sg => RG s s2 ∧ VB ns (vecR s2) (foldB (N 2) ns (allH N ns ne x g 24) (V0B N)) ∧ ∀ H i, H < 24 → i < ns → s2 75 (7 * H + i) = (foldB (N 2) ns (allH N ns ne x g (H + 1)) (V0B N)).1.1 i ∧ s2 76 (7 * H + i) = (foldB (N 2) ns (allH N ns ne x g (H + 1)) (V0B N)).1.2.1 i) = G
  have hG2 : ∀ s2, (RG s s2 ∧ VB ns (vecR s2) (foldB (N 2) ns (allH N ns ne x g 24) (V0B N)) ∧ ∀ H i, H < 24 → i < ns → s2 75 (7 * H + i) = (foldB (N 2) ns (allH N ns ne x g (H + 1)) (V0B N)).1.1 i ∧ s2 76 (7 * H + i) = (foldB (N 2) ns (allH N ns ne x g (H + 1)) (V0B N)).1.2.1 i) = G s2 := fun s2 => congrFun hG s2
  have goal : ∃ s2, lp2_ (b_X8_run_2 (fun s1 => lp2_ (b_X8_run_58 x) fu (nI 0) s1)) fu (nI 0) s = some s2 ∧ G s2 := by
    refine lp2_po (fun o => ∃ s2, o = some s2 ∧ G s2)
      (fun d j u => ∃ i, i + d = ns ∧ j = nI i ∧ RF s u ∧ ∀ k, k < i → u 77 k = N (5 + 4 * k + 3) ∧ u 78 k = nI 1 ∧ u 79 k = nI 0 ∧ u 80 k = nI 0 ∧ u 81 k = nI 0) ?_ fu ns _ _ (fu_ge (by omega)) ⟨0, by omega, rfl, RF.rf s, fun k hk => by omega⟩
    rintro self d j u ⟨i, e1, rfl, e2, e3⟩
    have hu := e2.n h
    unfold b_X8_run_2
    rw [S8_streets hu hV, ob_s, ifle _ _ (by omega) (by omega)]
    by_cases hd : ns ≤ i
    · left
      rw [if_pos hd]
      dsimp only
      have ei : i = ns := by omega
      subst ei
      -- the hours
      refine lp2_po (fun o => ∃ s2, o = some s2 ∧ G s2)
        (fun d j v => ∃ H, H + d = 24 ∧ j = nI H ∧ RG s v ∧ VB i (vecR v) (foldB (N 2) i (allH N i ne x g H) (V0B N)) ∧ ∀ K k, K < H → k < i → v 75 (7 * K + k) = (foldB (N 2) i (allH N i ne x g (K + 1)) (V0B N)).1.1 k ∧ v 76 (7 * K + k) = (foldB (N 2) i (allH N i ne x g (K + 1)) (V0B N)).1.2.1 k) ?_ fu 24 _ _ (fu_ge (by omega)) ⟨0, by omega, rfl, e2.g, ⟨fun k hk => ?_, fun k hk => (e3 k hk).2.2.2.2⟩, fun K k hK => by omega⟩
      · rintro self2 d2 j2 v ⟨H, a1, rfl, a2, a3, a4⟩
        have hv := a2.n h
        unfold b_X8_run_58
        rw [ifle _ _ (by decide) (by omega)]
        by_cases hd2 : 24 ≤ H
        · left
          rw [if_pos hd2]
          refine ⟨v, rfl, ?_⟩
          rw [← hG2]
          rw [show H = 24 by omega] at a3 a4
          exact ⟨a2, a3, a4⟩
        · right
          rw [if_neg hd2, nm_eq]
          generalize hK1 : (fun s6 : Sg => nm_ (fun s8 => nm_ (fun s10 => self2 (nI H + nI 1) s10) fun j11 => lp2_ (b_X8_run_184 j11 (nI H)) fu (nI 0) s8) fun j9 => lp2_ (b_X8_run_136 j9 (nI H)) fu (nI 0) s6) = K1
          -- events
          have ev : ∃ v2, lp2_ (b_X8_run_66 K1 x (nI H)) fu (nI 0) v = K1 v2 ∧ RF v v2 ∧ vecR v2 = foldB (N 2) i (evH N i x H ne) (vecR v) := by
            refine lp2_po (fun o => ∃ v2, o = K1 v2 ∧ RF v v2 ∧ vecR v2 = foldB (N 2) i (evH N i x H ne) (vecR v))
              (fun d j w => ∃ e, e + d = ne ∧ j = nI e ∧ RF v w ∧ vecR w = foldB (N 2) i (evH N i x H e) (vecR v)) ?_ fu ne _ _ (fu_ge (by omega)) ⟨0, by omega, rfl, RF.rf v, rfl⟩
            rintro self3 d3 j3 w ⟨e, b1, rfl, b2, b3⟩
            have hw := b2.n hv
            unfold b_X8_run_66
            rw [S8_events hw hV, ob_s, ifle _ _ (by omega) (by omega)]
            by_cases hd3 : ne ≤ e
            · left
              rw [if_pos hd3]
              refine ⟨w, rfl, b2, ?_⟩
              rw [show ne = e by omega]
              exact b3
            · right
              rw [if_neg hd3, nm_eq]
              have hev : evH N i x H (e + 1) = if hb x e = true ∧ N (33 + 6 * e + 2) = nI H ∧ seenN N e = true then evH N i x H e ++ [hapE N i e] else evH N i x H e := rfl
              have skip : ¬ (hb x e = true ∧ N (33 + 6 * e + 2) = nI H ∧ seenN N e = true) → ∃ e_1 c0 c1, e_1 < d3 ∧ self3 (nI e + nI 1) w = self3 c0 c1 ∧ ∃ e, e + e_1 = ne ∧ c0 = nI e ∧ RF v c1 ∧ vecR c1 = foldB (N 2) i (evH N i x H e) (vecR v) := fun hn =>
                ⟨d3 - 1, nI (e + 1), w, by omega, by rw [nadd], e + 1, by omega, rfl, b2, by rw [hev, if_neg hn]; exact b3⟩
              by_cases c1 : hb x e = true
              · rw [if_pos ((hb_1 x e).mpr c1), S8_told hw (by omega) (by decide), ob_s]
                by_cases c2 : N (33 + 6 * e + 2) = nI H
                · rw [if_pos c2, S8_told hw (by omega) (by decide), ob_s, S8_told hw (by omega) (by decide), ob_s, S8_told hw (by omega) (by decide), ob_s, S8_told hw (by omega) (by decide), ob_s, S8_told hw (by omega) (by decide), ob_s]
                  obtain ⟨p, hp, ep⟩ := (hV.2.2.2.2.1 e (by omega)).2.1
                  have epl : plN N e = p := by unfold plN; rw [ep]; exact nIc (by omega)
                  rw [Nat.add_zero, ep]
                  obtain ⟨w2, f1, f2, f3⟩ := S8_happen hw hV hp (N (33 + 6 * e)) (N (33 + 6 * e + 3)) (N (33 + 6 * e + 4)) (hapE N i e) (by show hin N i _ (plN N e) = _; rw [epl]) rfl rfl
                  have f4 : hapE N i e 0 = nI H := c2
                  have f5 : hapE N i e 2 = N (33 + 6 * e + 5) := rfl
                  rw [f4, f5] at f1
                  rw [f1, ob_s]
                  dsimp only
                  rw [nadd]
                  refine ⟨d3 - 1, nI (e + 1), w2, by omega, rfl, e + 1, by omega, rfl, b2.tr f2, ?_⟩
                  rw [f3, hev]
                  by_cases c3 : ms (N (33 + 6 * e)) ≤ N (33 + 6 * e + 3)
                  · rw [if_pos c3, if_pos ⟨c1, c2, decide_eq_true c3⟩, foldB_app, ← b3]
                    rfl
                  · rw [if_neg c3, if_neg (fun z => c3 (of_decide_eq_true z.2.2))]
                    exact b3
                · rw [if_neg c2]
                  exact skip (fun z => c2 z.2.1)
              · rw [if_neg (fun z => c1 ((hb_1 x e).mp z))]
                exact skip (fun z => c1 z.1)
          obtain ⟨v2, c1, c2, c3⟩ := ev
          rw [c1, ← hK1]
          dsimp only
          rw [nm_eq]
          generalize hK2 : (fun s8 : Sg => nm_ (fun s10 => self2 (nI H + nI 1) s10) fun j11 => lp2_ (b_X8_run_184 j11 (nI H)) fu (nI 0) s8) = K2
          have hv2 := c2.n hv
          have c9 : RG s v2 := a2.tr c2.g
          have hq70 : v2 70 = s 70 := c9 70 (by decide) (by decide) (by decide) (by decide) (by decide) (by decide) (by decide)
          have hq82 : v2 82 = s 82 := c9 82 (by decide) (by decide) (by decide) (by decide) (by decide) (by decide) (by decide)
          have hq83 : v2 83 = s 83 := c9 83 (by decide) (by decide) (by decide) (by decide) (by decide) (by decide) (by decide)
          have hq84 : v2 84 = s 84 := c9 84 (by decide) (by decide) (by decide) (by decide) (by decide) (by decide) (by decide)
          -- staged
          have sg : ∃ v3, lp2_ (b_X8_run_136 K2 (nI H)) fu (nI 0) v2 = K2 v3 ∧ RF v2 v3 ∧ vecR v3 = foldB (N 2) i (stH g H) (vecR v2) := by
            have hst : ∀ k, k < g.length → stH (g.take (k + 1)) H = stH (g.take k) H ++ (if (g.getD k (0, 0, 0)).2.1 = nI H then [hapS (g.getD k (0, 0, 0)).1 (g.getD k (0, 0, 0)).2.2 (g.getD k (0, 0, 0)).2.1] else []) := by
              intro k hk
              unfold stH
              rw [List.take_add_one, List.getElem?_eq_getElem hk, Option.toList_some, List.filter_append, List.map_append, List.getD_eq_getElem?_getD, List.getElem?_eq_getElem hk, Option.getD_some]
              congr 1
              rw [List.filter_cons]
              by_cases z : g[k].2.1 = nI H
              · rw [if_pos z, if_pos (decide_eq_true z)]; rfl
              · rw [if_neg z, if_neg (by rw [decide_eq_false z]; decide)]; rfl
            refine lp2_po (fun o => ∃ v3, o = K2 v3 ∧ RF v2 v3 ∧ vecR v3 = foldB (N 2) i (stH g H) (vecR v2))
              (fun d j w => ∃ k, k + d = g.length ∧ j = nI k ∧ RF v2 w ∧ vecR w = foldB (N 2) i (stH (g.take k) H) (vecR v2)) ?_ fu g.length _ _ (fu_ge (by have := hg.2.1; omega)) ⟨0, by omega, rfl, RF.rf v2, rfl⟩
            rintro self3 d3 j3 w ⟨k, b1, rfl, b2, b3⟩
            have hw := b2.n hv2
            have hw70 : w 70 11 = nI g.length := by rw [b2 70 (by decide) (by decide) (by decide) (by decide) (by decide), hq70]; exact hg.1
            have h2 := hg.2.1
            unfold b_X8_run_136
            rw [hw70, ifle _ _ (by omega) (by omega)]
            by_cases hd3 : g.length ≤ k
            · left
              rw [if_pos hd3]
              refine ⟨w, rfl, b2, ?_⟩
              rw [List.take_of_length_le hd3] at b3
              exact b3
            · right
              have hk : k < g.length := by omega
              obtain ⟨q1, q2, q3, q4⟩ := hg.2.2 k (g.getD k (0, 0, 0)) (by rw [List.getD_eq_getElem?_getD, List.getElem?_eq_getElem hk]; rfl)
              have hs1 := hst k hk
              generalize g.getD k (0, 0, 0) = q at q1 q2 q3 q4 hs1
              have w82 : w 82 k = nI q.1 := by rw [b2 82 (by decide) (by decide) (by decide) (by decide) (by decide), hq82]; exact q2
              have w83 : w 83 k = q.2.1 := by rw [b2 83 (by decide) (by decide) (by decide) (by decide) (by decide), hq83]; exact q3
              have w84 : w 84 k = q.2.2 := by rw [b2 84 (by decide) (by decide) (by decide) (by decide) (by decide), hq84]; exact q4
              rw [if_neg hd3, ag _ 83 (show k < 2 by omega) (by omega), ob_s, nm_eq, w83]
              by_cases z : q.2.1 = nI H
              · rw [if_pos z, ag _ 82 (show k < 2 by omega) (by omega), ob_s, ag _ 84 (show k < 2 by omega) (by omega), ob_s, w82, w84]
                obtain ⟨w2, f1, f2, f3⟩ := S8_happen hw hV q1 (nI 3) (nI 9) (nI 9) (hapS q.1 q.2.2 q.2.1) (by unfold hin; rw [if_neg (by decide)]; rfl) rfl rfl
                have f4 : hapS q.1 q.2.2 q.2.1 0 = nI H := z
                have f5 : hapS q.1 q.2.2 q.2.1 2 = q.2.2 := rfl
                rw [f4, f5] at f1
                rw [f1, ob_s]
                dsimp only
                rw [nadd]
                refine ⟨d3 - 1, nI (k + 1), w2, by omega, rfl, k + 1, by omega, rfl, b2.tr f2, ?_⟩
                rw [f3, if_pos (by decide), hs1, if_pos z, foldB_app, ← b3]
                rfl
              · rw [if_neg z]
                dsimp only
                rw [nadd]
                refine ⟨d3 - 1, nI (k + 1), w, by omega, rfl, k + 1, by omega, rfl, b2, ?_⟩
                rw [hs1, if_neg z, List.append_nil]
                exact b3
          obtain ⟨v3, d1, d2', d3⟩ := sg
          rw [d1, ← hK2]
          dsimp only
          rw [nm_eq]
          have hv3 := d2'.n hv2
          have fin : VB i (vecR v3) (foldB (N 2) i (allH N i ne x g (H + 1)) (V0B N)) := by
            show VB i (vecR v3) (foldB (N 2) i (allH N i ne x g H ++ (evH N i x H ne ++ stH g H)) (V0B N))
            rw [d3, c3, foldB_app, foldB_app]
            exact VB_fold _ (VB_fold _ a3)
          have wr : ∃ v4, lp2_ (b_X8_run_184 (fun s10 => self2 (nI H + nI 1) s10) (nI H)) fu (nI 0) v3 = self2 (nI H + nI 1) v4 ∧ (∀ c, c ≠ 75 → c ≠ 76 → v4 c = v3 c) ∧ (∀ k, k < i → v4 75 (7 * H + k) = v3 77 k ∧ v4 76 (7 * H + k) = v3 78 k) ∧ ∀ K k, K < H → k < i → v4 75 (7 * K + k) = v3 75 (7 * K + k) ∧ v4 76 (7 * K + k) = v3 76 (7 * K + k) := by
            refine lp2_po (fun o => ∃ v4, o = self2 (nI H + nI 1) v4 ∧ (∀ c, c ≠ 75 → c ≠ 76 → v4 c = v3 c) ∧ (∀ k, k < i → v4 75 (7 * H + k) = v3 77 k ∧ v4 76 (7 * H + k) = v3 78 k) ∧ ∀ K k, K < H → k < i → v4 75 (7 * K + k) = v3 75 (7 * K + k) ∧ v4 76 (7 * K + k) = v3 76 (7 * K + k))
              (fun d j w => ∃ m, m + d = i ∧ j = nI m ∧ (∀ c, c ≠ 75 → c ≠ 76 → w c = v3 c) ∧ (∀ k, k < m → w 75 (7 * H + k) = v3 77 k ∧ w 76 (7 * H + k) = v3 78 k) ∧ ∀ K k, K < H → k < i → w 75 (7 * K + k) = v3 75 (7 * K + k) ∧ w 76 (7 * K + k) = v3 76 (7 * K + k)) ?_ fu i _ _ (fu_ge (by omega)) ⟨0, by omega, rfl, fun _ _ _ => rfl, fun k hk => by omega, fun _ _ _ _ => ⟨rfl, rfl⟩⟩
            rintro self3 d3' j3 w ⟨m, b1, rfl, b2, b3, b4⟩
            have hw : w 71 = N := (b2 71 (by decide) (by decide)).trans hv3
            unfold b_X8_run_184
            rw [S8_streets hw hV, ob_s, ifle _ _ (by omega) (by omega)]
            by_cases hd3 : i ≤ m
            · left
              rw [if_pos hd3]
              rw [show m = i by omega] at b3
              exact ⟨w, rfl, b2, b3, b4⟩
            · right
              rw [if_neg hd3, ag _ 77 (show m < 7 by omega) (by omega), ob_s, nmul, nadd, as _ 75 _ (show 7 * H + m < 168 by omega), ob_s, ag _ 78 (show m < 7 by omega) (by omega), ob_s, as _ 76 _ (show 7 * H + m < 168 by omega), ob_s, nadd, b2 77 (by decide) (by decide)]
              rw [show sts w 75 (7 * H + m) (v3 77 m) 78 m = v3 78 m from by rw [sts_n _ _ _ (by decide), b2 78 (by decide) (by decide)]]
              refine ⟨d3' - 1, nI (m + 1), _, by omega, rfl, m + 1, by omega, rfl, fun c h1 h2 => ?_, fun k hk => ?_, fun K k hK hk => ?_⟩
              · rw [sts_n _ _ _ h2, sts_n _ _ _ h1, b2 c h1 h2]
              · by_cases e : k = m
                · subst e
                  exact ⟨by rw [sts_n _ _ _ (by decide), sts_s], by rw [sts_s]⟩
                · have := b3 k (by omega)
                  exact ⟨by rw [sts_n _ _ _ (by decide), sts_j _ _ _ (by omega)]; exact this.1, by rw [sts_j _ _ _ (by omega), sts_n _ _ _ (by decide)]; exact this.2⟩
              · have := b4 K k hK hk
                exact ⟨by rw [sts_n _ _ _ (by decide), sts_j _ _ _ (by omega)]; exact this.1, by rw [sts_j _ _ _ (by omega), sts_n _ _ _ (by decide)]; exact this.2⟩
          obtain ⟨v4, g1, g2, g3, g4⟩ := wr
          rw [g1, nadd]
          refine ⟨d2 - 1, nI (H + 1), v4, by omega, rfl, H + 1, by omega, rfl, fun c e1 e2 e3 e4 e5 e6 e7 => ?_, ?_, fun K k hK hk => ?_⟩
          · rw [g2 c e1 e2, d2' c e3 e4 e5 e6 e7]
            exact c9 c e1 e2 e3 e4 e5 e6 e7
          · have : vecR v4 = vecR v3 := by
              unfold vecR
              rw [g2 77 (by decide) (by decide), g2 78 (by decide) (by decide), g2 79 (by decide) (by decide), g2 80 (by decide) (by decide), g2 81 (by decide) (by decide)]
            rw [this]
            exact fin
          · by_cases e : K = H
            · subst e
              have h1 := g3 k hk
              have h2 := fin.1 k hk
              exact ⟨h1.1.trans h2.1, h1.2.trans h2.2.1⟩
            · have h1 := g4 K k (by omega) hk
              have h2 := a4 K k (by omega) hk
              rw [d2' 75 (by decide) (by decide) (by decide) (by decide) (by decide), d2' 76 (by decide) (by decide) (by decide) (by decide) (by decide), c2 75 (by decide) (by decide) (by decide) (by decide) (by decide), c2 76 (by decide) (by decide) (by decide) (by decide) (by decide)] at h1
              exact ⟨h1.1.trans h2.1, h1.2.trans h2.2⟩
      · have := e3 k hk
        exact ⟨this.1, this.2.1, this.2.2.1, this.2.2.2.1⟩
    · right
      have hi7 : i < 7 := by omega
      rw [if_neg hd, S8_has hu hi7 (by decide), ob_s, as _ 77 _ (show i < 7 from hi7), ob_s, as _ 78 _ (show i < 7 from hi7), ob_s, as _ 79 _ (show i < 7 from hi7), ob_s, as _ 80 _ (show i < 7 from hi7), ob_s, as _ 81 _ (show i < 7 from hi7), ob_s, nadd]
      refine ⟨d - 1, nI (i + 1), _, by omega, rfl, i + 1, by omega, rfl, fun c a1 a2 a3 a4 a5 => ?_, fun k hk => ?_⟩
      · rw [sts_n _ _ _ a5, sts_n _ _ _ a4, sts_n _ _ _ a3, sts_n _ _ _ a2, sts_n _ _ _ a1]
        exact e2 c a1 a2 a3 a4 a5
      · by_cases e : k = i
        · subst e
          refine ⟨?_, ?_, ?_, ?_, ?_⟩
          · rw [sts_n _ _ _ (by decide), sts_n _ _ _ (by decide), sts_n _ _ _ (by decide), sts_n _ _ _ (by decide), sts_s]
          · rw [sts_n _ _ _ (by decide), sts_n _ _ _ (by decide), sts_n _ _ _ (by decide), sts_s]
          · rw [sts_n _ _ _ (by decide), sts_n _ _ _ (by decide), sts_s]
          · rw [sts_n _ _ _ (by decide), sts_s]
          · rw [sts_s]
        · have := e3 k (by omega)
          refine ⟨?_, ?_, ?_, ?_, ?_⟩
          · rw [sts_n _ _ _ (by decide), sts_n _ _ _ (by decide), sts_n _ _ _ (by decide), sts_n _ _ _ (by decide), sts_j _ _ _ e]; exact this.1
          · rw [sts_n _ _ _ (by decide), sts_n _ _ _ (by decide), sts_n _ _ _ (by decide), sts_j _ _ _ e, sts_n _ _ _ (by decide)]; exact this.2.1
          · rw [sts_n _ _ _ (by decide), sts_n _ _ _ (by decide), sts_j _ _ _ e, sts_n _ _ _ (by decide), sts_n _ _ _ (by decide)]; exact this.2.2.1
          · rw [sts_n _ _ _ (by decide), sts_j _ _ _ e, sts_n _ _ _ (by decide), sts_n _ _ _ (by decide), sts_n _ _ _ (by decide)]; exact this.2.2.2.1
          · rw [sts_j _ _ _ e, sts_n _ _ _ (by decide), sts_n _ _ _ (by decide), sts_n _ _ _ (by decide), sts_n _ _ _ (by decide)]; exact this.2.2.2.2
  obtain ⟨s2, g1, g2⟩ := goal
  rw [← hG2] at g2
  exact ⟨s2, g1, g2⟩
end RUN
