/-! THE PLANNED LIST AND THE HOURS' LISTS ARE ONE -/
def atH (E : List Hap) (H : Nat) : List Hap := E.filter (fun h => decide (h 0 = nI H))
def bkR (E : List Hap) (a : Nat) : Nat → List Hap
  | 0 => []
  | n + 1 => bkR E a n ++ atH E (a + n)
def bkT (E : List Hap) (H : Nat) : List Hap := bkR E 0 H
theorem bkR_split (E : List Hap) (a m : Nat) : ∀ n, bkR E a (m + n) = bkR E a m ++ bkR E (a + m) n
  | 0 => by rw [Nat.add_zero]; exact (List.append_nil _).symm
  | n + 1 => by
    show bkR E a (m + n) ++ atH E (a + (m + n)) = bkR E a m ++ (bkR E (a + m) n ++ atH E (a + m + n))
    rw [bkR_split E a m n, List.append_assoc, Nat.add_assoc]
theorem bkR_mem {E : List Hap} {a : Nat} : ∀ {n : Nat} {h : Hap}, h ∈ bkR E a n → ∃ k, a ≤ k ∧ k < a + n ∧ h 0 = nI k ∧ h ∈ E
  | 0, h, q => by cases q
  | n + 1, h, q => by
    rcases List.mem_append.mp q with q | q
    · obtain ⟨k, h1, h2, h3⟩ := bkR_mem (n := n) q
      exact ⟨k, h1, by omega, h3⟩
    · obtain ⟨q1, q2⟩ := List.mem_filter.mp q
      exact ⟨a + n, by omega, by omega, of_decide_eq_true q2, q1⟩
theorem tw_split {A B : List Hap} {x : Int32} (hA : ∀ h ∈ A, h 0 ≤ x) (hB : ∀ h ∈ B, ¬ h 0 ≤ x) : tw (A ++ B) x = A.length := by
  induction A with
  | nil =>
    cases B with
    | nil => rfl
    | cons b B =>
      rw [List.nil_append, tw_cons, if_neg (hB b List.mem_cons_self)]
      rfl
  | cons a A ih =>
    rw [List.cons_append, tw_cons, if_pos (hA a List.mem_cons_self), ih (fun h hh => hA h (List.mem_cons_of_mem _ hh))]
    rfl
theorem tw_bk (E : List Hap) {H : Nat} (hH : H < 24) : tw (bkT E 24) (nI H) = (bkT E (H + 1)).length ∧ bkT E 24 = bkT E (H + 1) ++ bkR E (H + 1) (23 - H) := by
  have e : bkT E 24 = bkT E (H + 1) ++ bkR E (H + 1) (23 - H) := by
    have := bkR_split E 0 (H + 1) (23 - H)
    rw [show H + 1 + (23 - H) = 24 by omega, Nat.zero_add] at this
    exact this
  refine ⟨?_, e⟩
  rw [e]
  refine tw_split (fun h hh => ?_) (fun h hh => ?_)
  · obtain ⟨k, -, h2, h3, -⟩ := bkR_mem hh
    rw [h3]
    exact (nI_leI (by omega) (by omega)).mpr (by omega)
  · obtain ⟨k, h1, h2, h3, -⟩ := bkR_mem hh
    rw [h3]
    exact fun z => absurd ((nI_leI (by omega) (by omega)).mp z) (by omega)
theorem take_bk (E : List Hap) {H : Nat} (hH : H < 24) : (bkT E 24).take (tw (bkT E 24) (nI H)) = bkT E (H + 1) := by
  obtain ⟨h1, h2⟩ := tw_bk E hH
  rw [h1, h2, List.take_left]
theorem atH_app (A B : List Hap) (H : Nat) : atH (A ++ B) H = atH A H ++ atH B H := List.filter_append A B
theorem atH_one (x : Hap) (H : Nat) : atH [x] H = if x 0 = nI H then [x] else [] := by
  unfold atH
  by_cases q : x 0 = nI H
  · rw [if_pos q, List.filter_cons, if_pos (decide_eq_true q)]; rfl
  · rw [if_neg q, List.filter_cons, if_neg (by rw [decide_eq_false q]; decide)]; rfl
theorem bkR_skip (E : List Hap) (x : Hap) {t : Nat} (ht : x 0 = nI t) (ht2 : t < 24) (a : Nat) : ∀ n, a + n ≤ 24 → (∀ k, a ≤ k → k < a + n → k ≠ t) → bkR (E ++ [x]) a n = bkR E a n
  | 0, _, _ => rfl
  | n + 1, hn, hk => by
    show bkR (E ++ [x]) a n ++ atH (E ++ [x]) (a + n) = bkR E a n ++ atH E (a + n)
    rw [bkR_skip E x ht ht2 a n (by omega) (fun k h1 h2 => hk k h1 (by omega)), atH_app, atH_one, if_neg, List.append_nil]
    rw [ht, nI_eq (by omega) (by omega)]
    exact fun z => hk (a + n) (by omega) (by omega) z.symm
theorem ins_bk (E : List Hap) (x : Hap) (hx : rng (x 0) 24) : insH (bkT E 24) x = bkT (E ++ [x]) 24 := by
  obtain ⟨t, ht, ex⟩ := hx
  obtain ⟨h1, h2⟩ := tw_bk E ht
  have h3 : bkT (E ++ [x]) (t + 1) = bkT E (t + 1) ++ [x] := by
    show bkR (E ++ [x]) 0 t ++ atH (E ++ [x]) (0 + t) = (bkR E 0 t ++ atH E (0 + t)) ++ [x]
    rw [bkR_skip E x ex ht 0 t (by omega) (fun k _ hk => by omega), Nat.zero_add, atH_app, atH_one, if_pos ex, List.append_assoc]
  have h4 := (tw_bk (E ++ [x]) ht).2
  rw [h3, bkR_skip E x ex ht (t + 1) (23 - t) (by omega) (fun k hk _ => by omega)] at h4
  unfold insH
  rw [ex, h1, h4]
  rw [h2, List.take_left, List.drop_left, List.append_assoc]
  rfl
/-- the events that enough have seen, as rows, in their order -/
noncomputable def evL (N : Nat → Int32) (ns : Nat) : Nat → List Hap
  | 0 => []
  | e + 1 => if seenN N e = true then evL N ns e ++ [hapE N ns e] else evL N ns e
theorem bkR_nil (a : Nat) : ∀ n, bkR [] a n = []
  | 0 => rfl
  | n + 1 => by
    show bkR [] a n ++ atH [] (a + n) = []
    rw [bkR_nil a n]
    rfl
theorem plL_bk (N : Nat → Int32) (ns : Nat) : ∀ e, (∀ k, k < e → rng (N (33 + 6 * k + 2)) 24) → plL N ns e = bkT (evL N ns e) 24
  | 0, _ => (bkR_nil 0 24).symm
  | e + 1, h => by
    have ih := plL_bk N ns e (fun k hk => h k (by omega))
    unfold plL evL
    by_cases q : seenN N e = true
    · rw [if_pos q, if_pos q, ih, ins_bk _ _ (h e (by omega))]
    · rw [if_neg q, if_neg q, ih]
theorem flt_bk (hp : Int32) (E : List Hap) : ∀ n, flt hp (bkT E n) = bkT (flt hp E) n
  | 0 => rfl
  | n + 1 => by
    show flt hp (bkT E n ++ atH E (0 + n)) = bkT (flt hp E) n ++ atH (flt hp E) (0 + n)
    rw [flt_app, flt_bk hp E n]
    congr 1
    unfold flt atH
    rw [List.filter_filter, List.filter_filter]
    congr 1
    funext h
    exact Bool.and_comm _ _
/-- those of some events -/
noncomputable def evS (N : Nat → Int32) (ns : Nat) (x : Int32) : Nat → List Hap
  | 0 => []
  | e + 1 => if hb x e = true ∧ seenN N e = true then evS N ns x e ++ [hapE N ns e] else evS N ns x e
theorem sh1_hb (hp : Int32) : ∀ e, e < 9 → ((sh1 e &&& hp = 0) ↔ ¬ hb hp e = true) := by
  intro e he
  have key : (sh1 e &&& hp = 0) ↔ hp.toBitVec.getLsbD e = false := by
    have e1 : (sh1 e).toBitVec = BitVec.twoPow 32 e := by
      match e, he with
      | 0, _ => rfl
      | 1, _ => rfl
      | 2, _ => rfl
      | 3, _ => rfl
      | 4, _ => rfl
      | 5, _ => rfl
      | 6, _ => rfl
      | 7, _ => rfl
      | 8, _ => rfl
    rw [← Int32.toBitVec_inj]
    show (sh1 e).toBitVec &&& hp.toBitVec = 0#32 ↔ _
    rw [e1, BitVec.twoPow_and]
    cases hp.toBitVec.getLsbD e
    · simp
    · simp
      intro z
      have := congrArg (fun b => b.getLsbD e) z
      simp at this
      omega
  have key2 : ¬ hb hp e = true ↔ hp.toBitVec.getLsbD e = false := by
    unfold hb
    rw [decide_eq_true_iff, Classical.not_not, ← Int32.toBitVec_inj]
    have e2 : (hp >>> (nI e &&& 31)).toBitVec = hp.toBitVec.sshiftRight e := by
      show hp.toBitVec.sshiftRight ((nI e &&& 31).toBitVec.smod 32).toNat = _
      have : ((nI e &&& 31).toBitVec.smod 32).toNat = e := by
        match e, he with
        | 0, _ => rfl
        | 1, _ => rfl
        | 2, _ => rfl
        | 3, _ => rfl
        | 4, _ => rfl
        | 5, _ => rfl
        | 6, _ => rfl
        | 7, _ => rfl
        | 8, _ => rfl
      rw [this]
    show (hp >>> (nI e &&& 31)).toBitVec &&& 1#32 = 0#32 ↔ _
    rw [e2, BitVec.and_one_eq_setWidth_ofBool_getLsbD, BitVec.getLsbD_sshiftRight, Nat.add_zero]
    have : decide (32 ≤ 0) = false := rfl
    rw [this, if_pos (show e < 32 by omega)]
    cases hp.toBitVec.getLsbD e <;> simp
  rw [key, key2]
theorem flt_ev (N : Nat → Int32) (ns : Nat) (hp : Int32) : ∀ e, e ≤ 8 → flt hp (evL N ns e) = evS N ns hp e
  | 0, _ => rfl
  | e + 1, h => by
    have ih := flt_ev N ns hp e (by omega)
    have hk := sh1_hb hp e (by omega)
    unfold evL evS
    by_cases q : seenN N e = true
    · rw [if_pos q, flt_app, ih, flt_c]
      have e5 : (hapE N ns e) 5 = sh1 e := rfl
      rw [e5]
      by_cases b : hb hp e = true
      · rw [if_neg (fun z => hk.mp z b), if_pos ⟨b, q⟩]; rfl
      · rw [if_pos (hk.mpr b), if_neg (fun z => b z.1)]
        exact List.append_nil _
    · rw [if_neg q, if_neg (fun z => q z.2), ih]
theorem evS_all (N : Nat → Int32) (ns : Nat) (x : Int32) : ∀ e, (∀ k, k < e → hb x k = true) → evS N ns x e = evL N ns e
  | 0, _ => rfl
  | e + 1, h => by
    have ih := evS_all N ns x e (fun k hk => h k (by omega))
    unfold evS evL
    rw [ih]
    by_cases q : seenN N e = true
    · rw [if_pos q, if_pos ⟨h e (by omega), q⟩]
    · rw [if_neg q, if_neg (fun z => q z.2)]
theorem evS_c (N : Nat → Int32) (ns : Nat) (x y : Int32) : ∀ e, (∀ k, k < e → hb x k = hb y k) → evS N ns x e = evS N ns y e
  | 0, _ => rfl
  | e + 1, h => by
    have ih := evS_c N ns x y e (fun k hk => h k (by omega))
    unfold evS
    rw [ih, h e (by omega)]
/-- the reference's hours -/
def gS (g : Stg) : List Hap := g.map (fun q => hapS q.1 q.2.2 q.2.1)
theorem allH_bk (N : Nat → Int32) (ns ne : Nat) (x : Int32) (g : Stg) : ∀ H, allH N ns ne x g H = bkT (evS N ns x ne ++ gS g) H
  | 0 => rfl
  | H + 1 => by
    show allH N ns ne x g H ++ (evH N ns x H ne ++ stH g H) = bkT (evS N ns x ne ++ gS g) H ++ atH (evS N ns x ne ++ gS g) (0 + H)
    rw [allH_bk N ns ne x g H, atH_app, Nat.zero_add]
    have h1 : ∀ e, evH N ns x H e = atH (evS N ns x e) H := by
      intro e
      induction e with
      | zero => rfl
      | succ e ih =>
        unfold evH evS
        by_cases a : hb x e = true ∧ seenN N e = true
        · rw [if_pos a, atH_app, atH_one, ← ih]
          by_cases b : N (33 + 6 * e + 2) = nI H
          · rw [if_pos ⟨a.1, b, a.2⟩, if_pos (show hapE N ns e 0 = nI H from b)]
          · rw [if_neg (fun z => b z.2.1), if_neg (show ¬ hapE N ns e 0 = nI H from b), List.append_nil]
        · rw [if_neg a, if_neg (fun z => a ⟨z.1, z.2.2⟩), ih]
    have h2 : stH g H = atH (gS g) H := by
      unfold stH atH gS
      rw [List.filter_map]
      rfl
    rw [h1, h2]
/-! one street out of all -/
theorem stA_o (law : Int32) (ns : Nat) (h : Hap) {i j : Nat} (hj : j ≠ i) (V : Vec) : (stA law ns h j V).1 i = V.1 i ∧ (stA law ns h j V).2.2.1 i = V.2.2.1 i ∧ (stA law ns h j V).2.2.2 i = V.2.2.2 i := by
  unfold stA
  by_cases c : cnd law j h (V.1 j, V.2.2.1 j, V.2.2.2 j) = true
  · rw [if_pos c]
    exact ⟨upd_n _ _ (fun z => hj z.symm), upd_n _ _ (fun z => hj z.symm), upd_n _ _ (fun z => hj z.symm)⟩
  · rw [if_neg c]
    exact ⟨rfl, rfl, rfl⟩
def tr3 (V : Vec) (i : Nat) : Int32 × Int32 × Int32 := (V.1 i, V.2.2.1 i, V.2.2.2 i)
theorem stA_i (law : Int32) (ns : Nat) (h : Hap) (i : Nat) (V : Vec) : tr3 (stA law ns h i V) i = st1 law i (tr3 V i) h := by
  unfold stA st1 tr3
  by_cases c : cnd law i h (V.1 i, V.2.2.1 i, V.2.2.2 i) = true
  · rw [if_pos c, if_pos c]
    simp only [upd_s]
  · rw [if_neg c, if_neg c]
theorem stB_c (law : Int32) (ns : Nat) (h : Hap) (j i : Nat) (V : Vec × (Nat → Int32)) : (stB law ns h j V).2 i = if j = i ∧ cnd law i h (tr3 V.1 i) = true then V.2 i + nI 1 else V.2 i := by
  unfold stB
  by_cases c : cnd law j h (V.1.1 j, V.1.2.2.1 j, V.1.2.2.2 j) = true
  · rw [if_pos c]
    by_cases e : j = i
    · subst e
      rw [if_pos ⟨rfl, c⟩]
      exact upd_s _ _ _
    · rw [if_neg (fun z => e z.1)]
      exact upd_n _ _ (fun z => e z.symm)
  · rw [if_neg c]
    by_cases e : j = i
    · subst e
      rw [if_neg (fun z => c z.2)]
    · rw [if_neg (fun z => e z.1)]
theorem stepB_i (law : Int32) (ns : Nat) (h : Hap) (V : Vec × (Nat → Int32)) {i : Nat} (hi : i < ns) : tr3 (stepB law ns V h).1 i = st1 law i (tr3 V.1 i) h ∧ (stepB law ns V h).2 i = V.2 i + nI (if cnd law i h (tr3 V.1 i) = true then 1 else 0) := by
  unfold stepB
  have : ∀ m, (m ≤ i → tr3 (forN (stB law ns h) m V).1 i = tr3 V.1 i ∧ (forN (stB law ns h) m V).2 i = V.2 i) ∧ (i < m → tr3 (forN (stB law ns h) m V).1 i = st1 law i (tr3 V.1 i) h ∧ (forN (stB law ns h) m V).2 i = V.2 i + nI (if cnd law i h (tr3 V.1 i) = true then 1 else 0)) := by
    intro m
    induction m with
    | zero => exact ⟨fun _ => ⟨rfl, rfl⟩, fun q => absurd q (Nat.not_lt_zero i)⟩
    | succ m ih =>
      rw [forN_s]
      refine ⟨fun q => ?_, fun q => ?_⟩
      · have h1 := ih.1 (by omega)
        rw [stB_1, stB_c, if_neg (fun z => by have := z.1; omega)]
        have h2 := stA_o law ns h (show m ≠ i by omega) (forN (stB law ns h) m V).1
        refine ⟨?_, h1.2⟩
        rw [← h1.1]
        unfold tr3
        rw [h2.1, h2.2.1, h2.2.2]
      · rw [stB_1, stB_c]
        by_cases e : m = i
        · subst e
          have h1 := ih.1 (Nat.le_refl m)
          rw [stA_i, h1.1, h1.2]
          refine ⟨rfl, ?_⟩
          by_cases c : cnd law m h (tr3 V.1 m) = true
          · rw [if_pos ⟨rfl, c⟩, if_pos c]
          · rw [if_neg (fun z => c z.2), if_neg c]
            exact (Int32.add_zero _).symm
        · have h1 := ih.2 (by omega)
          rw [if_neg (fun z => e z.1)]
          have h2 := stA_o law ns h e (forN (stB law ns h) m V).1
          refine ⟨?_, h1.2⟩
          rw [← h1.1]
          unfold tr3
          rw [h2.1, h2.2.1, h2.2.2]
  exact (this ns).2 hi
theorem foldB_i (law : Int32) (ns : Nat) {i : Nat} (hi : i < ns) : ∀ (L : List Hap) (V : Vec × (Nat → Int32)), tr3 (foldB law ns L V).1 i = fold1 law i L (tr3 V.1 i) ∧ (foldB law ns L V).2 i = V.2 i + nI (cnt1 law i L (tr3 V.1 i))
  | [], V => ⟨rfl, (Int32.add_zero _).symm⟩
  | h :: L, V => by
    have h1 := stepB_i law ns h V hi
    have h2 := foldB_i law ns hi L (stepB law ns V h)
    rw [h1.1, h1.2] at h2
    refine ⟨h2.1, ?_⟩
    show (foldB law ns L (stepB law ns V h)).2 i = V.2 i + nI ((if cnd law i h (tr3 V.1 i) = true then 1 else 0) + cnt1 law i L (st1 law i (tr3 V.1 i) h))
    rw [h2.2, ← nadd, Int32.add_assoc]
