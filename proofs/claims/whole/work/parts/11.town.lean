/-! TOWNS: the numbers told, in one row N (as the reference has them), and in a town's rows -/
def isT (t : Nat) : Prop := t = 1 ∨ t = 13 ∨ t = 25 ∨ t = 37
theorem isT.k {t : Nat} (h : isT t) : RK (t + 1) 4 7 ∧ RK (t + 3) 6 8 ∧ RK (t + 5) 3 6 ∧ RK (t + 7) 50 8 ∧ alen (t + 9) = 16 ∧ alen (t + 10) = 50 ∧ alen (t + 11) = 6 := by
  rcases h with rfl | rfl | rfl | rfl <;> (unfold RK; decide)
def StOK (N : Nat → Int32) (p : Nat) : Prop := rng (N p) 8 ∧ rng (N (p + 1)) 8 ∧ N p ≠ N (p + 1) ∧ (∃ k, 0 < k ∧ k < 10 ∧ N (p + 2) = nI k) ∧ rng (N (p + 3)) 16
def EvOK (N : Nat → Int32) (p ns : Nat) : Prop := rng (N p) 6 ∧ rng (N (p + 1)) ns ∧ rng (N (p + 2)) 24 ∧ rng (N (p + 3)) 10 ∧ rng (N (p + 4)) 10 ∧ rng (N (p + 5)) 16
def RdOK (N : Nat → Int32) (p ns : Nat) : Prop := rng (N p) ns ∧ rng (N (p + 1)) 24 ∧ rng (N (p + 2)) 16
def PaOK (N : Nat → Int32) (p ns : Nat) : Prop := ∃ c, c ≤ 8 ∧ N (p + 48) = nI c ∧ rng (N (p + 49)) 3 ∧ ∀ e, e < c → EvOK N (p + 6 * e) ns
def VN (N : Nat → Int32) (ns ne nr np : Nat) : Prop :=
  (N 0 = nI ns ∧ N 1 = nI ne ∧ N 3 = nI nr ∧ N 4 = nI np) ∧ (ns ≤ 7 ∧ ne ≤ 8 ∧ nr ≤ 6 ∧ np ≤ 8) ∧ rng (N 2) 3 ∧ (∀ i, i < ns → StOK N (5 + 4 * i)) ∧ (∀ e, e < ne → EvOK N (33 + 6 * e) ns) ∧
  (∀ w, w < 16 → rng (N (81 + w)) 100) ∧ (∀ r, r < nr → RdOK N (97 + 3 * r) ns) ∧ ∀ j, j < np → PaOK N (115 + 50 * j) ns
def PaR (s : Sg) (t : Nat) (N : Nat → Int32) (j : Nat) : Prop :=
  s (t + 8) (50 * j) = N (115 + 50 * j + 49) ∧ s (t + 8) (50 * j + 1) = N (115 + 50 * j + 48) ∧ ∀ c i, N (115 + 50 * j + 48) = nI c → c ≤ 8 → i < 6 * c → s (t + 8) (50 * j + 2 + i) = N (115 + 50 * j + i)
def TR (s : Sg) (t : Nat) (N : Nat → Int32) (ns ne nr np : Nat) : Prop :=
  VN N ns ne nr np ∧ (RW s (t + 1) 4 ns ∧ RW s (t + 3) 6 ne ∧ RW s (t + 5) 3 nr ∧ RW s (t + 7) 50 np) ∧ s t 7 = N 2 ∧
  (∀ i, i < 4 * ns → s (t + 2) i = N (5 + i)) ∧ (∀ i, i < 6 * ne → s (t + 4) i = N (33 + i)) ∧ (∀ i, i < 3 * nr → s (t + 6) i = N (97 + i)) ∧ (∀ w, w < 16 → s (t + 9) w = N (81 + w)) ∧ ∀ j, j < np → PaR s t N j
theorem TR.fr {s s2 : Sg} {t : Nat} {N : Nat → Int32} {ns ne nr np : Nat} (h : TR s t N ns ne nr np) (hf : ∀ c, t ≤ c → c < t + 12 → s2 c = s c) : TR s2 t N ns ne nr np := by
  obtain ⟨h1, ⟨h2, h3, h4, h5⟩, h6, h7, h8, h9, h10, h11⟩ := h
  unfold RW at h2 h3 h4 h5
  unfold TR RW PaR
  simp only [hf t (by omega) (by omega), hf (t + 1) (by omega) (by omega), hf (t + 2) (by omega) (by omega), hf (t + 3) (by omega) (by omega), hf (t + 4) (by omega) (by omega), hf (t + 5) (by omega) (by omega), hf (t + 6) (by omega) (by omega), hf (t + 7) (by omega) (by omega), hf (t + 8) (by omega) (by omega), hf (t + 9) (by omega) (by omega)]
  exact ⟨h1, ⟨h2, h3, h4, h5⟩, h6, h7, h8, h9, h10, h11⟩
section TOWN
variable {s : Sg} {t : Nat} {N : Nat → Int32} {ns ne nr np : Nat}
theorem T_st (h : TR s t N ns ne nr np) (hT : isT t) {i k : Nat} (hi : i < ns) (hk : k < 4) : f_X2_cell (t + 1) (nI i) (nI k) s = some (N (5 + 4 * i + k)) := by
  rw [S_cell h.2.1.1 hT.k.1 h.1.2.1.1 hi hk, h.2.2.2.1 _ (by omega)]
  congr 2; omega
theorem T_ev (h : TR s t N ns ne nr np) (hT : isT t) {e k : Nat} (hi : e < ne) (hk : k < 6) : f_X2_cell (t + 3) (nI e) (nI k) s = some (N (33 + 6 * e + k)) := by
  rw [S_cell h.2.1.2.1 hT.k.2.1 h.1.2.1.2.1 hi hk, h.2.2.2.2.1 _ (by omega)]
  congr 2; omega
theorem T_rd (h : TR s t N ns ne nr np) (hT : isT t) {e k : Nat} (hi : e < nr) (hk : k < 3) : f_X2_cell (t + 5) (nI e) (nI k) s = some (N (97 + 3 * e + k)) := by
  rw [S_cell h.2.1.2.2.1 hT.k.2.2.1 h.1.2.1.2.2.1 hi hk, h.2.2.2.2.2.1 _ (by omega)]
  congr 2; omega
def ms (k : Int32) : Int32 := if k = nI 1 then nI 3 else if k = nI 3 then nI 4 else nI 2
def ro (k r : Int32) : Int32 := if k = nI 3 then r / nI 2 else if k = nI 4 then r + nI 1 else if k = nI 5 then r + nI 2 else r
def sf (k : Int32) : Int32 := if k = nI 2 then nI 9 else if k = nI 5 then nI 18 else nI 3
theorem tab_ms : ∀ k, k < 6 → (tabL 2).getD k 0 = ms (nI k) := by decide +kernel
theorem tab_sf : ∀ k, k < 6 → (tabL 4).getD k 0 = sf (nI k) := by decide +kernel
theorem T_kindOf (h : TR s t N ns ne nr np) (hT : isT t) {e : Nat} (hi : e < ne) : f_X5_kindOf t (nI e) s = some (N (33 + 6 * e)) := by
  obtain ⟨k, hk, e1⟩ := (h.1.2.2.2.2.1 e hi).1
  unfold f_X5_kindOf
  rw [T_ev h hT hi (by decide), ob_s, Nat.add_zero, S_isBelow, ob_s, e1, bi_B (by omega) (by omega), if_bi, if_pos hk]
theorem T_needed (h : TR s t N ns ne nr np) (hT : isT t) {e : Nat} (hi : e < ne) : f_X5_needed t (nI e) s = some (ms (N (33 + 6 * e))) := by
  obtain ⟨k, hk, e1⟩ := (h.1.2.2.2.2.1 e hi).1
  unfold f_X5_needed
  rw [T_kindOf h hT hi, ob_s, e1, tg 2 (by exact hk) (by decide), ob_s, tab_ms k hk]
theorem T_hours (h : TR s t N ns ne nr np) (hT : isT t) {e : Nat} (hi : e < ne) : f_X5_hoursGiven t (nI e) s = some (sf (N (33 + 6 * e))) := by
  obtain ⟨k, hk, e1⟩ := (h.1.2.2.2.2.1 e hi).1
  unfold f_X5_hoursGiven
  rw [T_kindOf h hT hi, ob_s, e1, tg 4 (by exact hk) (by decide), ob_s, tab_sf k hk]
theorem S_rankBy {k : Nat} (hk : k < 6) (r : Int32) (s : Sg) : f_X7_rankBy (nI k) r s = some (ro (nI k) r) := by
  unfold f_X7_rankBy
  by_cases h3 : k = 3
  · subst h3; rfl
  · rw [if_neg (by rw [nI_eq (by omega) (by decide)]; exact h3), S_isBelow, ob_s, bi_B (by omega) (by decide), if_bi, if_pos hk, tg 3 (by exact hk) (by decide), ob_s]
    have : ∀ k, k < 6 → k ≠ 3 → ∀ r : Int32, some (r + (tabL 3).getD k 0) = some (ro (nI k) r) := by
      intro k hk h3 r
      match k, hk with
      | 0, _ => exact congrArg some (show r + nI 0 = r from Int32.add_zero r)
      | 1, _ => exact congrArg some (show r + nI 0 = r from Int32.add_zero r)
      | 2, _ => exact congrArg some (show r + nI 0 = r from Int32.add_zero r)
      | 3, _ => exact absurd rfl h3
      | 4, _ => rfl
      | 5, _ => rfl
    exact this k hk h3 r
theorem T_rank (h : TR s t N ns ne nr np) (hT : isT t) {e : Nat} (hi : e < ne) : f_X5_rankGiven t (nI e) s = some (ro (N (33 + 6 * e)) (N (33 + 6 * e + 4))) := by
  obtain ⟨k, hk, e1⟩ := (h.1.2.2.2.2.1 e hi).1
  unfold f_X5_rankGiven
  rw [T_kindOf h hT hi, ob_s, T_ev h hT hi (by decide), ob_s, e1, S_rankBy hk]
  rfl
theorem T_seen (h : TR s t N ns ne nr np) (hT : isT t) {e : Nat} (hi : e < ne) : f_X5_isSeenByEnough t (nI e) s = some (bi (ms (N (33 + 6 * e)) ≤ N (33 + 6 * e + 3))) := by
  unfold f_X5_isSeenByEnough
  rw [T_ev h hT hi (by decide), ob_s, T_needed h hT hi, ob_s]
  by_cases q : N (33 + 6 * e + 3) < ms (N (33 + 6 * e))
  · rw [if_pos q, bi_f (Int32.not_le.mpr q)]
  · rw [if_neg q, bi_t (Int32.not_lt.mp q)]
/-- two streets have a corner in common -/
def mt (N : Nat → Int32) (i j : Nat) : Prop := N (5 + 4 * i) = N (5 + 4 * j) ∨ N (5 + 4 * i) = N (5 + 4 * j + 1) ∨ N (5 + 4 * i + 1) = N (5 + 4 * j) ∨ N (5 + 4 * i + 1) = N (5 + 4 * j + 1)
noncomputable def mtb (N : Nat → Int32) (i j : Nat) : Int32 := @ite _ (mt N i j) (Classical.propDecidable _) (nI 1) (nI 0)
theorem mt_sym {N : Nat → Int32} {i j : Nat} (h : mt N i j) : mt N j i := by
  rcases h with h | h | h | h
  · exact Or.inl h.symm
  · exact Or.inr (Or.inr (Or.inl h.symm))
  · exact Or.inr (Or.inl h.symm)
  · exact Or.inr (Or.inr (Or.inr h.symm))
theorem mtb_1 {N : Nat → Int32} {i j : Nat} (h : mt N i j) : mtb N i j = nI 1 := if_pos h
theorem mtb_0 {N : Nat → Int32} {i j : Nat} (h : ¬ mt N i j) : mtb N i j = nI 0 := if_neg h
theorem mtb_sym (N : Nat → Int32) (i j : Nat) : mtb N i j = mtb N j i := by
  by_cases h : mt N i j
  · rw [mtb_1 h, mtb_1 (mt_sym h)]
  · rw [mtb_0 h, mtb_0 (fun q => h (mt_sym q))]
theorem T_meet (h : TR s t N ns ne nr np) (hT : isT t) {i j : Nat} (hi : i < ns) (hj : j < ns) : f_X5_meet t (nI i) (nI j) s = some (mtb N i j) := by
  unfold f_X5_meet
  rw [T_st h hT hi (by decide), ob_s, T_st h hT hi (by decide), ob_s, T_st h hT hj (by decide), ob_s, T_st h hT hj (by decide), ob_s, Nat.add_zero, Nat.add_zero]
  by_cases h1 : N (5 + 4 * i) = N (5 + 4 * j)
  · rw [if_pos h1, mtb_1 (Or.inl h1)]
  rw [if_neg h1]
  by_cases h2 : N (5 + 4 * i) = N (5 + 4 * j + 1)
  · rw [if_pos h2, mtb_1 (Or.inr (Or.inl h2))]
  rw [if_neg h2]
  by_cases h3 : N (5 + 4 * i + 1) = N (5 + 4 * j)
  · rw [if_pos h3, mtb_1 (Or.inr (Or.inr (Or.inl h3)))]
  rw [if_neg h3]
  by_cases h4 : N (5 + 4 * i + 1) = N (5 + 4 * j + 1)
  · rw [if_pos h4, mtb_1 (Or.inr (Or.inr (Or.inr h4)))]
  rw [if_neg h4, mtb_0 (fun q => by rcases q with q | q | q | q; exact h1 q; exact h2 q; exact h3 q; exact h4 q)]
def sh1 (i : Nat) : Int32 := nI 1 <<< (nI i &&& 31)
/-- where an event of a kind in a street happens -/
noncomputable def hin (N : Nat → Int32) (ns : Nat) (k : Int32) (p : Nat) : Int32 := if k = nI 1 then forN (fun i b => b ||| (if mtb N i p = 0 then nI 0 else sh1 i)) ns (sh1 p) else sh1 p
theorem or0 (x : Int32) : x ||| nI 0 = x := Int32.or_zero
theorem orN (f : Nat → Int32) (a : Int32) : ∀ n, forN (fun i b => b ||| f i) n a = forN (fun i b => b ||| f i) n (nI 0) ||| a
  | 0 => (Int32.zero_or).symm
  | n + 1 => by rw [forN_s, forN_s, orN f a n, Int32.or_assoc, Int32.or_assoc, Int32.or_comm a]
theorem orN_in (f : Nat → Int32) {p : Nat} : ∀ n, p < n → forN (fun i b => b ||| f i) n (nI 0) ||| f p = forN (fun i b => b ||| f i) n (nI 0)
  | 0, h => absurd h (Nat.not_lt_zero p)
  | n + 1, h => by
    rw [forN_s]
    by_cases e : p = n
    · subst e
      rw [Int32.or_assoc, Int32.or_self]
    · rw [Int32.or_assoc, Int32.or_comm (f n), ← Int32.or_assoc, orN_in f n (by omega)]
theorem T_streetsOf (h : TR s t N ns ne nr np) (hT : isT t) {e : Nat} (hi : e < ne) : ∃ p, p < ns ∧ N (33 + 6 * e + 1) = nI p ∧ f_X5_streetsOf t (nI e) s = some (hin N ns (N (33 + 6 * e)) p) := by
  obtain ⟨p, hp, ep⟩ := (h.1.2.2.2.2.1 e hi).2.1
  have hns := h.1.2.1.1
  refine ⟨p, hp, ep, ?_⟩
  unfold f_X5_streetsOf
  rw [T_ev h hT hi (by decide), ob_s, T_kindOf h hT hi, ob_s, ep]
  unfold hin
  by_cases hk : N (33 + 6 * e) = nI 1
  · rw [if_pos hk, if_pos hk, orN]
    have hpp : (if mtb N p p = 0 then nI 0 else sh1 p) = sh1 p := by rw [mtb_1 (Or.inl rfl)]; rfl
    have hq := orN_in (fun i => if mtb N i p = 0 then nI 0 else sh1 i) ns hp
    simp only [hpp] at hq
    rw [hq]
    refine lp2_po (fun o => o = some (forN (fun i b => b ||| (if mtb N i p = 0 then nI 0 else sh1 i)) ns (nI 0))) (fun d a j => ∃ i, i + d = ns ∧ j = nI i ∧ a = forN (fun i b => b ||| (if mtb N i p = 0 then nI 0 else sh1 i)) i (nI 0)) ?_ fu ns _ _ (fu_ge (by omega)) ⟨0, by omega, rfl, rfl⟩
    rintro self d a j ⟨i, e1, rfl, rfl⟩
    unfold b_X5_streetsOf_28
    rw [S_size, ob_s, h.2.1.1.2, ifle _ _ (by omega) (by omega)]
    by_cases hd : ns ≤ i
    · left
      rw [if_pos hd, show i = ns by omega]
    · right
      rw [if_neg hd, T_meet h hT hp (by omega), ob_s, nm_eq]
      refine ⟨d - 1, _, nI (i + 1), by omega, ?_, i + 1, by omega, rfl, rfl⟩
      rw [forN_s, mtb_sym N i p]
      by_cases hm : mtb N p i = 0
      · rw [if_pos hm, if_pos hm, or0]
        show self _ (nI i + nI 1) = _
        rw [nadd]
      · rw [if_neg hm, if_neg hm, nm_eq]
        show self _ (nI i + nI 1) = _
        rw [nadd]
        rfl
  · rw [if_neg hk, if_neg hk]
    rfl
end TOWN
