/-! THE DAY AS PLANNED -/
def insH (L : List Hap) (h : Hap) : List Hap := L.take (tw L (h 0)) ++ h :: L.drop (tw L (h 0))
theorem insH_len (L : List Hap) (h : Hap) : (insH L h).length = L.length + 1 := by
  have := tw_le L (h 0)
  unfold insH
  rw [List.length_append, List.length_cons, List.length_take, List.length_drop]
  omega
theorem getD_ins (L : List Hap) (h : Hap) {p : Nat} (hp : p ≤ L.length) (r : Nat) : (L.take p ++ h :: L.drop p).getD r h0 = if r < p then L.getD r h0 else if r = p then h else L.getD (r - 1) h0 := by
  simp only [List.getD_eq_getElem?_getD]
  by_cases q1 : r < p
  · rw [if_pos q1, List.getElem?_append_left (by rw [List.length_take]; omega), List.getElem?_take_of_lt q1]
  · rw [if_neg q1, List.getElem?_append_right (by rw [List.length_take]; omega), List.length_take, Nat.min_eq_left hp]
    by_cases q2 : r = p
    · rw [if_pos q2, q2, Nat.sub_self]; rfl
    · rw [if_neg q2, show r - p = (r - p - 1) + 1 by omega, List.getElem?_cons_succ, List.getElem?_drop]
      congr 2
      omega
theorem getD_del (L : List Hap) {p : Nat} (hp : p < L.length) (r : Nat) : (L.take p ++ L.drop (p + 1)).getD r h0 = if r < p then L.getD r h0 else L.getD (r + 1) h0 := by
  simp only [List.getD_eq_getElem?_getD]
  by_cases q1 : r < p
  · rw [if_pos q1, List.getElem?_append_left (by rw [List.length_take]; omega), List.getElem?_take_of_lt q1]
  · rw [if_neg q1, List.getElem?_append_right (by rw [List.length_take]; omega), List.length_take, Nat.min_eq_left (by omega), List.getElem?_drop]
    congr 2
    omega
section PLAN
variable {s : Sg} {L : List Hap}
theorem S_insH (hR : HR s L) (hl : L.length < 10) {p : Nat} (hp : p ≤ L.length) (h : Hap) (hh : ∀ k, k < 6 → s 55 k = h k) : ∃ s2, f_X2_insert 53 (nI p) 55 s = some s2 ∧ HR s2 (L.take p ++ h :: L.drop p) ∧ ∀ c, c ≠ 53 → c ≠ 54 → s2 c = s c := by
  obtain ⟨s2, e1, e2⟩ := S_insert (c := 55) hR.1 kk53 hl hp (by decide) (by decide) (by decide)
  have hlen : (L.take p ++ h :: L.drop p).length = L.length + 1 := by
    rw [List.length_append, List.length_cons, List.length_take, List.length_drop]; omega
  refine ⟨s2, e1, ⟨by rw [hlen]; exact e2.w hR.1, by omega, fun r k hr hk => ?_⟩, e2.1⟩
  rw [hlen] at hr
  rw [show (54 : Nat) = 53 + 1 from rfl, e2.2.2.2, getD_ins L h hp]
  unfold insF
  by_cases q1 : r < p
  · rw [if_pos (by omega), if_pos q1, hR.2.2 r k (by omega) hk]
  · rw [if_neg (by omega), if_neg q1]
    by_cases q2 : r = p
    · rw [if_pos (by omega), if_pos q2, hh _ (by omega)]
      congr 1; omega
    · rw [if_neg (by omega), if_neg q2, if_pos (by omega), ← hR.2.2 (r - 1) k (by omega) hk]
      congr 1; omega
theorem S_delH (hR : HR s L) {p : Nat} (hp : p < L.length) : ∃ s2, f_X0_dropStaged (nI p) s = some s2 ∧ HR s2 (L.take p ++ L.drop (p + 1)) ∧ ∀ c, c ≠ 53 → c ≠ 54 → s2 c = s c := by
  obtain ⟨s2, e1, e2⟩ := S_drop hR.1 kk53 hR.2.1 hp
  have hlen : (L.take p ++ L.drop (p + 1)).length = L.length - 1 := by
    rw [List.length_append, List.length_take, List.length_drop]; omega
  have h10 := hR.2.1
  refine ⟨s2, by unfold f_X0_dropStaged; rw [e1]; rfl, ⟨by rw [hlen]; exact e2.w hR.1, by omega, fun r k hr hk => ?_⟩, e2.1⟩
  rw [hlen] at hr
  rw [show (54 : Nat) = 53 + 1 from rfl, e2.2.2.2, getD_del L hp]
  unfold drpF
  by_cases q1 : r < p
  · rw [if_pos (by omega), if_pos q1, hR.2.2 r k (by omega) hk]
  · rw [if_neg (by omega), if_neg q1, if_pos (by omega), ← hR.2.2 (r + 1) k (by omega) hk]
    congr 1; omega
end PLAN
/-- an event that happens, as a row -/
def plN (N : Nat → Int32) (e : Nat) : Nat := (N (33 + 6 * e + 1)).toNatClampNeg
noncomputable def hapE (N : Nat → Int32) (ns e : Nat) : Hap := fun k => match k with
  | 0 => N (33 + 6 * e + 2)
  | 1 => hin N ns (N (33 + 6 * e)) (plN N e)
  | 2 => N (33 + 6 * e + 5)
  | 3 => ro (N (33 + 6 * e)) (N (33 + 6 * e + 4))
  | 4 => N (33 + 6 * e + 2) + sf (N (33 + 6 * e))
  | _ => sh1 e
def seenN (N : Nat → Int32) (e : Nat) : Bool := decide (ms (N (33 + 6 * e)) ≤ N (33 + 6 * e + 3))
noncomputable def plL (N : Nat → Int32) (ns : Nat) : Nat → List Hap
  | 0 => []
  | e + 1 => if seenN N e = true then insH (plL N ns e) (hapE N ns e) else plL N ns e
theorem plL_len (N : Nat → Int32) (ns : Nat) : ∀ e, (plL N ns e).length ≤ e
  | 0 => Nat.le_refl 0
  | e + 1 => by
    have := plL_len N ns e
    unfold plL
    split
    · rw [insH_len]; omega
    · omega
def hapS (i : Nat) (w x : Int32) : Hap := fun k => match k with
  | 0 => x
  | 1 => sh1 i
  | 2 => w
  | 3 => ro (nI 3) (nI 9)
  | 4 => x + sf (nI 3)
  | _ => nI 256
section PLAN2
variable {s : Sg} {L : List Hap} {t : Nat} {N : Nat → Int32} {ns ne nr np : Nat}
theorem isT.lt {t : Nat} (h : isT t) : t + 12 ≤ 49 := by rcases h with rfl | rfl | rfl | rfl <;> decide
theorem S_planEvent (h : TR s t N ns ne nr np) (hT : isT t) (hR : HR s L) (hl : L.length < 10) {e : Nat} (he : e < ne) : ∃ s2, f_X0_planEvent t (nI e) s = some s2 ∧ HR s2 (insH L (hapE N ns e)) ∧ ∀ c, c ≠ 53 → c ≠ 54 → c ≠ 55 → s2 c = s c := by
  have ht := hT.lt
  have fr : ∀ s2 : Sg, (∀ c, c < 52 → s2 c = s c) → TR s2 t N ns ne nr np := fun s2 hf => h.fr (fun c h1 h2 => hf c (by omega))
  obtain ⟨p, hp, ep, -⟩ := T_streetsOf h hT he
  have epl : plN N e = p := by unfold plN; rw [ep]; exact nIc (by have := h.1.2.1.1; omega)
  have a55 : ∀ k, k < 6 → k < alen 55 := fun k hk => hk
  have hso : ∀ s2 : Sg, (∀ c, c < 52 → s2 c = s c) → f_X5_streetsOf t (nI e) s2 = some (hin N ns (N (33 + 6 * e)) p) := by
    intro s2 hf
    obtain ⟨p2, hp2, ep2, e3⟩ := T_streetsOf (fr s2 hf) hT he
    rw [ep] at ep2
    have : p = p2 := by
      have := h.1.2.1.1
      exact (nI_eq (by omega) (by omega)).mp ep2
    rw [this]
    exact e3
  have c1 : ∀ (s2 : Sg) (k : Nat) (v : Int32), (∀ c, c < 52 → s2 c = s c) → ∀ c, c < 52 → sts s2 55 k v c = s c := fun s2 k v hf c hc => (sts_n _ _ _ (by omega)).trans (hf c hc)
  have f0 : ∀ c, c < 52 → s c = s c := fun _ _ => rfl
  unfold f_X0_planEvent
  rw [T_ev h hT he (by decide), ob_s, as _ 55 _ (a55 0 (by decide)), ob_s, hso _ (c1 _ _ _ f0), ob_s, as _ 55 _ (a55 1 (by decide)), ob_s,
    T_ev (fr _ (c1 _ _ _ (c1 _ _ _ f0))) hT he (by decide), ob_s, as _ 55 _ (a55 2 (by decide)), ob_s, T_rank (fr _ (c1 _ _ _ (c1 _ _ _ (c1 _ _ _ f0)))) hT he, ob_s, as _ 55 _ (a55 3 (by decide)), ob_s,
    ag _ 55 (a55 0 (by decide)) (by omega), ob_s, T_hours (fr _ (c1 _ _ _ (c1 _ _ _ (c1 _ _ _ (c1 _ _ _ f0))))) hT he, ob_s, as _ 55 _ (a55 4 (by decide)), ob_s, as _ 55 _ (a55 5 (by decide)), ob_s, ag _ 55 (a55 0 (by decide)) (by omega), ob_s]
  generalize hz : sts (sts (sts (sts (sts (sts s 55 0 _) 55 1 _) 55 2 _) 55 3 _) 55 4 _) 55 5 _ = z
  have hz0 : ∀ c, c ≠ 55 → z c = s c := by
    intro c hc
    rw [← hz, sts_n _ _ _ hc, sts_n _ _ _ hc, sts_n _ _ _ hc, sts_n _ _ _ hc, sts_n _ _ _ hc, sts_n _ _ _ hc]
  have hrow : ∀ k, k < 6 → z 55 k = hapE N ns e k := by
    intro k hk
    rw [← hz]
    simp only [sts_c]
    unfold hapE
    rw [epl]
    match k, hk with
    | 0, _ => simp [upd]
    | 1, _ => simp [upd]
    | 2, _ => simp [upd]
    | 3, _ => simp [upd]
    | 4, _ => simp [upd]
    | 5, _ => simp [upd, sh1]
  have hRz : HR z L := hR.fr (hz0 53 (by decide)) (hz0 54 (by decide))
  rw [hrow 0 (by decide), S_placeBehind hRz, ob_s]
  obtain ⟨s2, e1, e2, e3⟩ := S_insH hRz hl (tw_le L _) (hapE N ns e) hrow
  rw [e1]
  exact ⟨s2, rfl, e2, fun c h1 h2 h3 => (e3 c h1 h2).trans (hz0 c h3)⟩
theorem S_addStaged (hR : HR s L) (hl : L.length < 10) {i : Nat} (w x : Int32) : ∃ s2, f_X0_addStaged (nI i) w x s = some (nI (tw L x), s2) ∧ HR s2 (insH L (hapS i w x)) ∧ ∀ c, c ≠ 53 → c ≠ 54 → c ≠ 55 → s2 c = s c := by
  have a55 : ∀ k, k < 6 → k < alen 55 := fun k hk => hk
  unfold f_X0_addStaged
  rw [S_placeBehind hR, ob_s, as _ 55 _ (a55 0 (by decide)), ob_s, as _ 55 _ (a55 1 (by decide)), ob_s, as _ 55 _ (a55 2 (by decide)), ob_s, S_rankBy (by decide), ob_s, as _ 55 _ (a55 3 (by decide)), ob_s, tg 4 (by decide) (by decide), ob_s, as _ 55 _ (a55 4 (by decide)), ob_s, as _ 55 _ (a55 5 (by decide)), ob_s]
  generalize hz : sts (sts (sts (sts (sts (sts s 55 0 _) 55 1 _) 55 2 _) 55 3 _) 55 4 _) 55 5 _ = z
  have hz0 : ∀ c, c ≠ 55 → z c = s c := by
    intro c hc
    rw [← hz, sts_n _ _ _ hc, sts_n _ _ _ hc, sts_n _ _ _ hc, sts_n _ _ _ hc, sts_n _ _ _ hc, sts_n _ _ _ hc]
  have hrow : ∀ k, k < 6 → z 55 k = hapS i w x k := by
    intro k hk
    rw [← hz]
    simp only [sts_c]
    unfold hapS
    match k, hk with
    | 0, _ => simp [upd]
    | 1, _ => simp [upd, sh1]
    | 2, _ => simp [upd]
    | 3, _ => simp [upd]
    | 4, _ =>
      rw [upd_n _ _ (by decide), upd_s]
      exact congrArg (fun y => x + y) (show (tabL 4).getD 3 0 = sf (nI 3) by decide +kernel)
    | 5, _ => simp [upd]
  have hRz : HR z L := hR.fr (hz0 53 (by decide)) (hz0 54 (by decide))
  obtain ⟨s2, e1, e2, e3⟩ := S_insH hRz hl (tw_le L x) (hapS i w x) hrow
  rw [e1]
  exact ⟨s2, rfl, e2, fun c h1 h2 h3 => (e3 c h1 h2).trans (hz0 c h3)⟩
/-- what a plan leaves: the list, the streets, the law, the first words -/
def PL (s : Sg) (L : List Hap) (N : Nat → Int32) (ns : Nat) : Prop := HR s L ∧ s 52 7 = nI ns ∧ s 52 8 = N 2 ∧ ∀ i, i < ns → s 56 i = N (5 + 4 * i + 3)
theorem S_plan (h : TR s t N ns ne nr np) (hT : isT t) (hw : s 53 0 = nI 6) : ∃ s2, f_X0_plan t s = some s2 ∧ PL s2 (plL N ns ne) N ns ∧ (∀ c, c ≠ 52 → c ≠ 53 → c ≠ 54 → c ≠ 55 → c ≠ 56 → s2 c = s c) ∧ s2 52 9 = s 52 9 := by
  have ht := hT.lt
  have hns := h.1.2.1.1
  have hne := h.1.2.1.2.1
  have fr : ∀ s2 : Sg, (∀ c, c < 52 → s2 c = s c) → TR s2 t N ns ne nr np := fun s2 hf => h.fr (fun c h1 h2 => hf c (by omega))
  unfold f_X0_plan
  rw [nm_eq, S_size, ob_s, nm_eq, nm_eq]
  have e7 : sts s 52 8 (s t 7) (t + 1) 2 = nI ns := by rw [sts_n _ _ _ (by omega)]; exact h.2.1.1.2
  rw [e7]
  refine lp2_po (fun o => ∃ s2, o = some s2 ∧ PL s2 (plL N ns ne) N ns ∧ (∀ c, c ≠ 52 → c ≠ 53 → c ≠ 54 → c ≠ 55 → c ≠ 56 → s2 c = s c) ∧ s2 52 9 = s 52 9)
    (fun d j u => ∃ i, i + d = ns ∧ j = nI i ∧ u 52 7 = nI ns ∧ u 52 8 = N 2 ∧ (∀ q, q < i → u 56 q = N (5 + 4 * q + 3)) ∧ (∀ c, c ≠ 52 → c ≠ 56 → u c = s c) ∧ u 52 9 = s 52 9) ?_ fu ns _ _ (fu_ge (by omega)) ⟨0, by omega, rfl, sts_s _ _ _ _, ?_, fun q hq => by omega, fun c h1 h2 => by rw [sts_n _ _ _ h1, sts_n _ _ _ h1], by rw [sts_j _ _ _ (by decide), sts_j _ _ _ (by decide)]⟩
  · rintro self d j u ⟨i, e1, rfl, e2, e3, e4, e5, e6⟩
    unfold b_X0_plan_21
    rw [e2, ifle _ _ (by omega) (by omega)]
    by_cases hd : ns ≤ i
    · left
      rw [if_pos hd]
      dsimp only
      rw [S_empty, ob_s]
      refine lp2_po (fun o => ∃ s2, o = some s2 ∧ PL s2 (plL N ns ne) N ns ∧ (∀ c, c ≠ 52 → c ≠ 53 → c ≠ 54 → c ≠ 55 → c ≠ 56 → s2 c = s c) ∧ s2 52 9 = s 52 9)
        (fun d j v => ∃ e, e + d = ne ∧ j = nI e ∧ PL v (plL N ns e) N ns ∧ (∀ c, c ≠ 52 → c ≠ 53 → c ≠ 54 → c ≠ 55 → c ≠ 56 → v c = s c) ∧ v 52 9 = s 52 9) ?_ fu ne _ _ (fu_ge (by omega)) ⟨0, by omega, rfl, ⟨⟨⟨?_, ?_⟩, ?_, ?_⟩, ?_, ?_, ?_⟩, ?_, ?_⟩
      · rintro self2 d2 j2 v ⟨e, a1, rfl, a2, a3, a4⟩
        have hTv := fr v (fun c hc => a3 c (by omega) (by omega) (by omega) (by omega) (by omega))
        have hlen := plL_len N ns e
        unfold b_X0_plan_59
        rw [S_size, ob_s, hTv.2.1.2.1.2, ifle _ _ (by omega) (by omega)]
        by_cases hd2 : ne ≤ e
        · left
          rw [if_pos hd2]
          refine ⟨v, rfl, ?_, a3, a4⟩
          rw [show ne = e by omega]
          exact a2
        · right
          rw [if_neg hd2, T_seen hTv hT (by omega), ob_s, nm_eq, if_bi]
          by_cases q : ms (N (33 + 6 * e)) ≤ N (33 + 6 * e + 3)
          · rw [if_pos q]
            obtain ⟨s2, b1, b2, b3⟩ := S_planEvent hTv hT a2.1 (by omega) (show e < ne by omega)
            rw [b1, ob_s]
            dsimp only
            rw [nadd]
            refine ⟨d2 - 1, _, s2, by omega, rfl, e + 1, by omega, rfl, ⟨?_, ?_, ?_, ?_⟩, fun c h1 h2 h3 h4 h5 => (b3 c h2 h3 h4).trans (a3 c h1 h2 h3 h4 h5), by rw [b3 52 (by decide) (by decide) (by decide)]; exact a4⟩
            · unfold plL
              rw [if_pos (show seenN N e = true from decide_eq_true q)]
              exact b2
            · rw [b3 52 (by decide) (by decide) (by decide)]; exact a2.2.1
            · rw [b3 52 (by decide) (by decide) (by decide)]; exact a2.2.2.1
            · rw [b3 56 (by decide) (by decide) (by decide)]; exact a2.2.2.2
          · rw [if_neg q]
            dsimp only
            rw [nadd]
            refine ⟨d2 - 1, _, v, by omega, rfl, e + 1, by omega, rfl, ?_, a3, a4⟩
            unfold plL
            rw [if_neg (by unfold seenN; rw [decide_eq_false q]; decide)]
            exact a2
      · rw [sts_j _ _ _ (by decide), e5 53 (by decide) (by decide)]; exact hw
      · rw [sts_s]; rfl
      · exact Nat.zero_le _
      · exact fun r k hr => absurd hr (Nat.not_lt_zero r)
      · rw [sts_n _ _ _ (by decide)]; exact e2
      · rw [sts_n _ _ _ (by decide)]; exact e3
      · intro q hq
        rw [sts_n _ _ _ (by decide)]
        exact e4 q (by omega)
      · intro c h1 h2 h3 h4 h5
        rw [sts_n _ _ _ h2]
        exact e5 c h1 h5
      · rw [sts_n _ _ _ (by decide)]; exact e6
    · right
      have hTu := fr u (fun c hc => e5 c (by omega) (by omega))
      rw [if_neg hd, T_st hTu hT (by omega) (by decide), ob_s, as _ 56 _ (show i < 7 by omega), ob_s, nadd]
      refine ⟨d - 1, _, _, by omega, rfl, i + 1, by omega, rfl, ?_, ?_, fun q hq => ?_, fun c h1 h2 => ?_, ?_⟩
      · rw [sts_n _ _ _ (by decide)]; exact e2
      · rw [sts_n _ _ _ (by decide)]; exact e3
      · by_cases hqi : q = i
        · subst hqi; rw [sts_s]
        · rw [sts_j _ _ _ hqi]; exact e4 q (by omega)
      · rw [sts_n _ _ _ h2]; exact e5 c h1 h2
      · rw [sts_n _ _ _ (by decide)]; exact e6
  · rw [sts_j _ _ _ (by decide), sts_s]
    exact h.2.2.1
end PLAN2
