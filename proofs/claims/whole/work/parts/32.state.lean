/-! CALLS THAT CHANGE: the frame; begin a town; a street; a rent -/
/-- all but town 1, what is told, what the reference has now -/
def RM (s s2 : Sg) : Prop := ∀ c, (c = 0 ∨ 13 ≤ c) → c ≠ 69 → c ≠ 71 → s2 c = s c
theorem REL.mk {s s2 : Sg} (h : REL s) (hr : RM s s2) (hT2 : ∃ ns ne nr np, TR s2 1 (s2 71) ns ne nr np) : REL s2 := by
  obtain ⟨-, hS, ⟨len, l1, l2, l3, l4⟩, ⟨b0, b1, i1, i2, i3, i4, i5, i6, i7⟩, ⟨w1, w2⟩, ⟨nb, n1, n2⟩⟩ := h
  refine ⟨hT2, ?_, ⟨len, l1, ?_, ?_, ?_⟩, ⟨b0, b1, i1, i2, ?_, ?_, ?_, ?_, ?_⟩, ⟨?_, ?_⟩, ⟨nb, n1, ?_⟩⟩
  · rw [hr 0 (by omega) (by decide) (by decide), hr 74 (by omega) (by decide) (by decide)]; exact hS
  · rw [hr 49 (by omega) (by decide) (by decide)]; exact l2
  · rw [hr 70 (by omega) (by decide) (by decide)]; exact l3
  · rw [hr 50 (by omega) (by decide) (by decide), hr 88 (by omega) (by decide) (by decide)]; exact l4
  · rw [hr 0 (by omega) (by decide) (by decide)]; exact i3
  · rw [hr 73 (by omega) (by decide) (by decide)]; exact i4
  · rw [hr 73 (by omega) (by decide) (by decide)]; exact i5
  · intro z
    obtain ⟨x1, x2, x3, x4, h5⟩ := i6 z
    exact ⟨x1, x2, x3, x4, by rw [hr 72 (by omega) (by decide) (by decide)]; exact h5.fr (fun c h1 h2 => hr c (by omega) (by omega) (by omega))⟩
  · intro z
    obtain ⟨x1, x2, x3, x4, h5⟩ := i7 z
    exact ⟨x1, x2, x3, x4, by rw [hr 72 (by omega) (by decide) (by decide)]; exact h5.fr (fun c h1 h2 => hr c (by omega) (by omega) (by omega))⟩
  · rw [hr 53 (by omega) (by decide) (by decide)]; exact w1
  · intro t ht
    have h5 := w2 t ht
    rw [hr (t + 1) (by omega) (by omega) (by omega), hr (t + 3) (by omega) (by omega) (by omega), hr (t + 5) (by omega) (by omega) (by omega), hr (t + 7) (by omega) (by omega) (by omega)]
    exact h5
  · rw [hr 52 (by omega) (by decide) (by decide)]; exact n2
/-- copied from a place to a place -/
def cpR (N M : Nat → Int32) (dst src k : Nat) : Nat → Int32 := fun i => if dst ≤ i ∧ i < dst + k then M (src + (i - dst)) else N i
theorem cpR_0 (N M : Nat → Int32) (dst src : Nat) : cpR N M dst src 0 = N := by
  funext i
  unfold cpR
  rw [if_neg (by omega)]
theorem cpR_s (N M : Nat → Int32) (dst src k : Nat) : upd (cpR N M dst src k) (dst + k) (M (src + k)) = cpR N M dst src (k + 1) := by
  funext i
  unfold upd cpR
  by_cases h : i = dst + k
  · rw [if_pos h, if_pos (by omega)]
    congr 1
    omega
  · rw [if_neg h]
    by_cases h2 : dst ≤ i ∧ i < dst + k
    · rw [if_pos h2, if_pos (by omega)]
    · rw [if_neg h2, if_neg (by omega)]
theorem cpR_o (N M : Nat → Int32) {dst src k i : Nat} (h : i < dst ∨ dst + k ≤ i) : cpR N M dst src k i = N i := by
  unfold cpR
  rw [if_neg (by omega)]
theorem cpR_i (N M : Nat → Int32) {dst src k i : Nat} (h : i < k) : cpR N M dst src k (dst + i) = M (src + i) := by
  unfold cpR
  rw [if_pos (by omega)]
  congr 1
  omega
section BEGIN
variable {s : Sg} {t : Nat} {N : Nat → Int32} {ns ne nr np : Nat}
/-- widths of a town's rows -/
def WT (s : Sg) (t : Nat) : Prop := s (t + 1) 0 = nI 4 ∧ s (t + 3) 0 = nI 6 ∧ s (t + 5) 0 = nI 3 ∧ s (t + 7) 0 = nI 50
theorem TR.wt (h : TR s t N ns ne nr np) : WT s t := ⟨h.2.1.1.1, h.2.1.2.1.1, h.2.1.2.2.1.1, h.2.1.2.2.2.1⟩
theorem TR.c (h : TR s t N ns ne nr np) {N2 : Nat → Int32} (hV : VN N2 ns ne nr np) (h2 : N2 2 = N 2) (h3 : ∀ i, i < 4 * ns → N2 (5 + i) = N (5 + i)) (h4 : ∀ i, i < 6 * ne → N2 (33 + i) = N (33 + i)) (h5 : ∀ i, i < 3 * nr → N2 (97 + i) = N (97 + i)) (h6 : ∀ w, w < 16 → N2 (81 + w) = N (81 + w)) (h7 : ∀ j i, j < np → i < 50 → N2 (115 + 50 * j + i) = N (115 + 50 * j + i)) : TR s t N2 ns ne nr np := by
  obtain ⟨_, a2, a3, a4, a5, a6, a7, a8⟩ := h
  refine ⟨hV, a2, a3.trans h2.symm, fun i hi => (a4 i hi).trans (h3 i hi).symm, fun i hi => (a5 i hi).trans (h4 i hi).symm, fun i hi => (a6 i hi).trans (h5 i hi).symm, fun i hi => (a7 i hi).trans (h6 i hi).symm, fun j hj => ?_⟩
  obtain ⟨b1, b2, b3⟩ := a8 j hj
  refine ⟨b1.trans (h7 j 49 hj (by decide)).symm, b2.trans (h7 j 48 hj (by decide)).symm, fun c i e1 e2 e3 => ?_⟩
  rw [h7 j 48 hj (by decide)] at e1
  rw [h7 j i hj (by omega)]
  exact b3 c i e1 e2 e3
theorem T_begin (hW : WT s t) (hT : isT t) {x : Int32} (hx : rng x 3) : ∃ s2, f_X5_begin t x s = some (s (t + 1) 2, s2) ∧ (∀ c, c ≠ t → c ≠ t + 1 → c ≠ t + 3 → c ≠ t + 5 → c ≠ t + 7 → c ≠ t + 9 → s2 c = s c) ∧
    ∀ N : Nat → Int32, N 0 = nI 0 → N 1 = nI 0 → N 2 = x → N 3 = nI 0 → N 4 = nI 0 → (∀ w, w < 16 → N (81 + w) = nI 0) → TR s2 t N 0 0 0 0 := by
  have ha := hT.k.2.2.2.2.1
  unfold f_X5_begin
  rw [S_size, ob_s, S_empty, ob_s, S_empty, ob_s, S_empty, ob_s, S_empty, ob_s]
  generalize hz : sts (sts (sts (sts s (t + 1) 2 (nI 0)) (t + 3) 2 (nI 0)) (t + 5) 2 (nI 0)) (t + 7) 2 (nI 0) = z
  have z1 : z (t + 1) = upd (s (t + 1)) 2 (nI 0) := by rw [← hz, sts_n _ _ _ (by omega), sts_n _ _ _ (by omega), sts_n _ _ _ (by omega), sts_c]
  have z3 : z (t + 3) = upd (s (t + 3)) 2 (nI 0) := by rw [← hz, sts_n _ _ _ (by omega), sts_n _ _ _ (by omega), sts_c, sts_n _ _ _ (by omega)]
  have z5 : z (t + 5) = upd (s (t + 5)) 2 (nI 0) := by rw [← hz, sts_n _ _ _ (by omega), sts_c, sts_n _ _ _ (by omega), sts_n _ _ _ (by omega)]
  have z7 : z (t + 7) = upd (s (t + 7)) 2 (nI 0) := by rw [← hz, sts_c, sts_n _ _ _ (by omega), sts_n _ _ _ (by omega), sts_n _ _ _ (by omega)]
  have zo : ∀ c, c ≠ t + 1 → c ≠ t + 3 → c ≠ t + 5 → c ≠ t + 7 → z c = s c := fun c c1 c2 c3 c4 => by rw [← hz, sts_n _ _ _ c4, sts_n _ _ _ c3, sts_n _ _ _ c2, sts_n _ _ _ c1]
  clear hz
  refine lp2_ix (fun o => ∃ s2, o = some (s (t + 1) 2, s2) ∧ (∀ c, c ≠ t → c ≠ t + 1 → c ≠ t + 3 → c ≠ t + 5 → c ≠ t + 7 → c ≠ t + 9 → s2 c = s c) ∧
    ∀ N : Nat → Int32, N 0 = nI 0 → N 1 = nI 0 → N 2 = x → N 3 = nI 0 → N 4 = nI 0 → (∀ w, w < 16 → N (81 + w) = nI 0) → TR s2 t N 0 0 0 0) (fun k (st : Sg) => (∀ c, c ≠ t + 9 → st c = z c) ∧ ∀ w, w < k → st (t + 9) w = nI 0) 0 16 (by omega) ?_ ?_ (by omega) _ ⟨fun _ _ => rfl, fun w hw => absurd hw (by omega)⟩
  · rintro self k st - h6 ⟨h7, h8⟩
    right
    unfold b_X5_begin_38
    rw [ifle _ _ (by omega) (by omega), if_neg (by omega), as _ (t + 9) _ (by omega), ob_s, nadd]
    refine ⟨_, rfl, fun c hc => by rw [sts_n _ _ _ hc]; exact h7 c hc, fun w hw => ?_⟩
    by_cases q : w = k
    · subst q; rw [sts_s]
    · rw [sts_j _ _ _ q]; exact h8 w (by omega)
  · rintro self st ⟨h7, h8⟩
    unfold b_X5_begin_38
    rw [ifle _ _ (by omega) (by omega), if_pos (by omega), nm_eq]
    have u : ∀ c, c ≠ t → c ≠ t + 9 → sts st t 7 x c = z c := fun c c1 c2 => by rw [sts_n _ _ _ c1]; exact h7 c c2
    refine ⟨_, rfl, fun c c1 c2 c3 c4 c5 c6 => (u c c1 c6).trans (zo c c2 c3 c4 c5), fun N n0 n1 n2 n3 n4 n5 => ⟨⟨⟨n0, n1, n3, n4⟩, ⟨by omega, by omega, by omega, by omega⟩, by rw [n2]; exact hx, fun i hi => absurd hi (by omega), fun i hi => absurd hi (by omega), fun w hw => ?_, fun i hi => absurd hi (by omega), fun i hi => absurd hi (by omega)⟩, ⟨?_, ?_, ?_, ?_⟩, ?_, fun i hi => absurd hi (by omega), fun i hi => absurd hi (by omega), fun i hi => absurd hi (by omega), fun w hw => ?_, fun i hi => absurd hi (by omega)⟩⟩
    · rw [n5 w hw]; exact rng.mk (by decide)
    · unfold RW
      rw [u _ (by omega) (by omega), z1]
      exact ⟨(upd_n _ _ (by decide)).trans hW.1, upd_s _ _ _⟩
    · unfold RW
      rw [u _ (by omega) (by omega), z3]
      exact ⟨(upd_n _ _ (by decide)).trans hW.2.1, upd_s _ _ _⟩
    · unfold RW
      rw [u _ (by omega) (by omega), z5]
      exact ⟨(upd_n _ _ (by decide)).trans hW.2.2.1, upd_s _ _ _⟩
    · unfold RW
      rw [u _ (by omega) (by omega), z7]
      exact ⟨(upd_n _ _ (by decide)).trans hW.2.2.2, upd_s _ _ _⟩
    · rw [sts_s, n2]
    · rw [sts_n _ _ _ (by omega), h8 w hw, n5 w hw]
/-- a town laid out anew -/
def bgN (N : Nat → Int32) (x : Int32) : Nat → Int32 := upd (fun i => if i < 115 then nI 0 else N i) 2 x
theorem S8_begin {c : Nat} (hc : 115 ≤ alen c) (x : Int32) (s : Sg) : ∃ s2, f_X8_begin c x s = some s2 ∧ (∀ d, d ≠ c → s2 d = s d) ∧ s2 c = bgN (s c) x := by
  unfold f_X8_begin
  refine lp2_ix (fun o => ∃ s2 : Sg, o = some s2 ∧ (∀ d, d ≠ c → s2 d = s d) ∧ s2 c = bgN (s c) x) (fun k (st : Sg) => (∀ d, d ≠ c → st d = s d) ∧ st c = fun i => if i < k then nI 0 else s c i) 0 115 (by omega) ?_ ?_ (by omega) _ ⟨fun _ _ => rfl, by funext i; rw [if_neg (by omega)]⟩
  · rintro self k st - h6 ⟨h7, h8⟩
    right
    unfold b_X8_begin_2
    rw [ifle _ _ (by omega) (by omega), if_neg (by omega), as _ c _ (by omega), ob_s, nadd]
    refine ⟨_, rfl, fun d hd => by rw [sts_n _ _ _ hd]; exact h7 d hd, ?_⟩
    rw [sts_c, h8]
    funext i
    unfold upd
    by_cases q : i = k
    · rw [if_pos q, if_pos (by omega)]
    · rw [if_neg q]
      dsimp only
      by_cases q2 : i < k
      · rw [if_pos q2, if_pos (by omega)]
      · rw [if_neg q2, if_neg (by omega)]
  · rintro self st ⟨h7, h8⟩
    unfold b_X8_begin_2
    rw [ifle _ _ (by omega) (by omega), if_pos (by omega), as _ c _ (by omega), ob_s]
    refine ⟨_, rfl, fun d hd => by rw [sts_n _ _ _ hd]; exact h7 d hd, ?_⟩
    rw [sts_c, h8]
    rfl
end BEGIN
