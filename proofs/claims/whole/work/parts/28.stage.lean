/-! stage -/
theorem del_ins (L : List Hap) (h : Hap) : (insH L h).take (tw L (h 0)) ++ (insH L h).drop (tw L (h 0) + 1) = L := by
  have hl := tw_le L (h 0)
  have e : (L.take (tw L (h 0))).length = tw L (h 0) := by rw [List.length_take]; omega
  unfold insH
  have e1 : (L.take (tw L (h 0)) ++ h :: L.drop (tw L (h 0))).take (tw L (h 0)) = L.take (tw L (h 0)) := by
    conv => lhs; arg 1; rw [← e]
    rw [List.take_left]
  have e2 : (L.take (tw L (h 0)) ++ h :: L.drop (tw L (h 0))).drop (tw L (h 0) + 1) = L.drop (tw L (h 0)) := by
    rw [← List.drop_drop]
    have : (L.take (tw L (h 0)) ++ h :: L.drop (tw L (h 0))).drop (tw L (h 0)) = h :: L.drop (tw L (h 0)) := by
      conv => lhs; arg 1; rw [← e]
      rw [List.drop_left]
    rw [this]
    rfl
  rw [e1, e2, List.take_append_drop]
section STAGE
variable {s : Sg} {N : Nat → Int32} {ns ne nr np : Nat} {E : List Hap} {g : Stg}
theorem S_add2 (hP : PL s (bkT E 24) N ns) (hl : (bkT E 24).length < 10) (hx : NX s) {i H : Nat} (hH : H < 24) (w : Int32) : ∃ s2, f_X0_addStaged (nI i) w (nI H) s = some (nI (tw (bkT E 24) (nI H)), s2) ∧ PL s2 (bkT (E ++ [hapS i w (nI H)]) 24) N ns ∧ SC s s2 ∧ s2 63 = s 63 := by
  obtain ⟨s2, e1, e2, e3⟩ := S_addStaged hP.1 hl (i := i) w (nI H)
  rw [ins_bk E _ (show rng (hapS i w (nI H) 0) 24 from rng.mk hH)] at e2
  obtain ⟨b, hb, hb2⟩ := hx
  exact ⟨s2, e1, ⟨e2, by rw [e3 52 (by decide) (by decide) (by decide)]; exact hP.2.1, by rw [e3 52 (by decide) (by decide) (by decide)]; exact hP.2.2.1, fun i hi => by rw [e3 56 (by decide) (by decide) (by decide)]; exact hP.2.2.2 i hi⟩,
    ⟨fun c hc => e3 c (by omega) (by omega) (by omega), e2.1.1, ⟨b, hb, by rw [e3 52 (by decide) (by decide) (by decide)]; exact hb2⟩⟩, e3 63 (by decide) (by decide) (by decide)⟩
theorem S_drop2 {i H : Nat} (hH : H < 24) (w : Int32) (hP : PL s (bkT (E ++ [hapS i w (nI H)]) 24) N ns) (hx : NX s) : ∃ s2, f_X0_dropStaged (nI (tw (bkT E 24) (nI H))) s = some s2 ∧ PL s2 (bkT E 24) N ns ∧ SC s s2 ∧ s2 63 = s 63 := by
  rw [← ins_bk E _ (show rng (hapS i w (nI H) 0) 24 from rng.mk hH)] at hP
  have hl := tw_le (bkT E 24) (nI H)
  obtain ⟨s2, e1, e2, e3⟩ := S_delH hP.1 (p := tw (bkT E 24) (nI H)) (by rw [insH_len]; omega)
  rw [show tw (bkT E 24) (nI H) = tw (bkT E 24) (hapS i w (nI H) 0) from rfl, del_ins] at e2
  obtain ⟨b, hb, hb2⟩ := hx
  exact ⟨s2, e1, ⟨e2, by rw [e3 52 (by decide) (by decide)]; exact hP.2.1, by rw [e3 52 (by decide) (by decide)]; exact hP.2.2.1, fun i hi => by rw [e3 56 (by decide) (by decide)]; exact hP.2.2.2 i hi⟩,
    ⟨fun c hc => e3 c (by omega) (by omega), e2.1.1, ⟨b, hb, by rw [e3 52 (by decide) (by decide)]; exact hb2⟩⟩, e3 63 (by decide) (by decide)⟩
theorem bk_add_len (E : List Hap) (x : Hap) (hx : rng (x 0) 24) : (bkT (E ++ [x]) 24).length = (bkT E 24).length + 1 := by rw [← ins_bk E x hx, insH_len]
noncomputable def EG (N : Nat → Int32) (ns ne : Nat) (g : Stg) : List Hap := evL N ns ne ++ gS g
theorem EG_add (g : Stg) (i : Nat) (x w : Int32) : EG N ns ne g ++ [hapS i w x] = EG N ns ne (g ++ [(i, x, w)]) := by
  unfold EG gS
  rw [List.map_append, List.append_assoc]
  rfl
theorem EG_0 : EG N ns ne [] = evL N ns ne := List.append_nil _
theorem EG_len (hV : VN N ns ne nr np) : (bkT (EG N ns ne []) 24).length ≤ 8 := by
  have h1 := plL_len N ns ne
  rw [plL_bk N ns ne hV.hrs] at h1
  rw [EG_0]
  have := hV.2.1.2.1
  omega
def ffR (p : Nat → Bool) : Nat → Nat → Option Nat
  | _, 0 => none
  | a, c + 1 => if p a = true then some a else ffR p (a + 1) c
theorem ffR_s (p : Nat → Bool) (a c : Nat) : ffR p a (c + 1) = if p a = true then some a else ffR p (a + 1) c := rfl
theorem ffR_lt (p : Nat → Bool) : ∀ c a j, ffR p a c = some j → a ≤ j ∧ j < a + c := by
  intro c
  induction c with
  | zero => intro a j h; exact absurd h (by simp [ffR])
  | succ c ih =>
    intro a j h
    rw [ffR_s] at h
    split at h
    · cases h; omega
    · have := ih (a + 1) j h
      omega
noncomputable def pG (N : Nat → Int32) (ns ne i H : Nat) (w : Int32) (g : Stg) : Bool := decide (WD N (EG N ns ne g) i H = w)
theorem S_hourOfOne (hP : PL s (bkT (EG N ns ne g) 24) N ns) (hl : (bkT (EG N ns ne g) 24).length < 10) (hne : ne ≤ 8) (hns : ns ≤ 7) (hw : s 53 0 = nI 6) (hx : NX s) {i H a : Nat} (hi : i < ns) (hH : H < 24) (ha : a ≤ H + 1) (w : Int32) :
    ∃ s2, f_X3_hourOfOne (nI i) w (nI a) (nI H) s = some (opN (ffR (fun j => pG N ns ne i H w (g ++ [(i, nI j, w)])) a (H + 1 - a)), s2) ∧ PL s2 (bkT (EG N ns ne g) 24) N ns ∧ SC s s2 ∧ s2 63 = s 63 := by
  refine lp2_ix (fun o => ∃ s2, o = some (opN (ffR (fun j => pG N ns ne i H w (g ++ [(i, nI j, w)])) a (H + 1 - a)), s2) ∧ PL s2 (bkT (EG N ns ne g) 24) N ns ∧ SC s s2 ∧ s2 63 = s 63) (fun j st => ffR (fun j => pG N ns ne i H w (g ++ [(i, nI j, w)])) a (H + 1 - a) = ffR (fun j => pG N ns ne i H w (g ++ [(i, nI j, w)])) j (H + 1 - j) ∧ PL st (bkT (EG N ns ne g) 24) N ns ∧ SC s st ∧ st 63 = s 63) a (H + 1) (by omega) ?_ ?_ ha _ ⟨rfl, hP, ⟨fun _ _ => rfl, hw, hx⟩, rfl⟩
  · rintro self j st h5 h6 ⟨h7, h8, h9, h10⟩
    obtain ⟨s3, a1, a2, a3, a4⟩ := S_add2 h8 hl h9.2.2 (i := i) (show j < 24 by omega) w
    have a2' := a2
    rw [EG_add] at a2'
    obtain ⟨s4, b1, b2, b3⟩ := S_word a2' hns hi hH (-1)
    rw [show flt (-1) (EG N ns ne (g ++ [(i, nI j, w)])) = EG N ns ne (g ++ [(i, nI j, w)]) from E_m1 N ns hne _] at b1
    have b4 := b2.pl a2
    obtain ⟨s5, c1, c2, c3, c4⟩ := S_drop2 (show j < 24 by omega) w b4 b3
    have d1 : SC s s5 := ((h9.tr a3).tr (b2.sc b3 a3.2.1)).tr c3
    have d2 : s5 63 = s 63 := c4.trans (b2.s63.trans (a4.trans h10))
    unfold b_X3_hourOfOne_3
    rw [ifl _ _ (by omega) (by omega), if_neg (by omega), a1, ob2_some, b1, ob2_some, nm_eq]
    by_cases q : WD N (EG N ns ne (g ++ [(i, nI j, w)])) i H = w
    · left
      rw [if_pos q]
      dsimp only
      rw [c1, ob_s, if_neg (by decide), h7, show H + 1 - j = (H - j) + 1 by omega, ffR_s, if_pos (show pG N ns ne i H w (g ++ [(i, nI j, w)]) = true from decide_eq_true q)]
      exact ⟨s5, rfl, c2, d1, d2⟩
    · right
      rw [if_neg q]
      dsimp only
      rw [c1, ob_s, if_pos (show nI 0 = 0 from rfl), nadd]
      refine ⟨s5, rfl, ?_, c2, d1, d2⟩
      rw [h7, show H + 1 - j = (H - j) + 1 by omega, ffR_s, if_neg (show ¬ pG N ns ne i H w (g ++ [(i, nI j, w)]) = true from fun z => q (of_decide_eq_true z)), show H + 1 - (j + 1) = H - j by omega]
  · rintro self st ⟨h7, h8, h9, h10⟩
    unfold b_X3_hourOfOne_3
    rw [ifl _ _ (by omega) (by omega), if_pos (by omega), h7, Nat.sub_self]
    exact ⟨st, rfl, h8, h9, h10⟩
noncomputable def st2 (N : Nat → Int32) (ns ne i H : Nat) (w : Int32) : Nat → Nat → Option (Nat × Nat)
  | _, 0 => none
  | a, c + 1 => match ffR (fun j => pG N ns ne i H w ([(i, nI a, w)] ++ [(i, nI j, w)])) (a + 1) (H + 1 - (a + 1)) with
    | some j => some (a, j)
    | none => st2 N ns ne i H w (a + 1) c
theorem st2_s (i H : Nat) (w : Int32) (a c : Nat) : st2 N ns ne i H w a (c + 1) = (match ffR (fun j => pG N ns ne i H w ([(i, nI a, w)] ++ [(i, nI j, w)])) (a + 1) (H + 1 - (a + 1)) with
    | some j => some (a, j)
    | none => st2 N ns ne i H w (a + 1) c) := rfl
/-- how many must be staged, and when -/
noncomputable def stR (N : Nat → Int32) (ns ne i H : Nat) (w : Int32) : Option (Nat × Nat × Nat) :=
  if pG N ns ne i H w [] = true then some (0, 0, 0) else
    match ffR (fun j => pG N ns ne i H w [(i, nI j, w)]) 0 (H + 1) with
    | some j => some (1, j, 0)
    | none => match st2 N ns ne i H w 0 (H + 1) with
      | some p => some (2, p.1, p.2)
      | none => none
theorem stR_le {i H : Nat} {w : Int32} {c a b : Nat} (h : stR N ns ne i H w = some (c, a, b)) : c ≤ 2 := by
  unfold stR at h
  split at h
  · cases h; decide
  · split at h
    · cases h; decide
    · split at h
      · cases h; decide
      · cases h
/-- what a search leaves in the component -/
def SR (r : Option (Nat × Nat × Nat)) (v : Int32) (s2 : Sg) : Prop := match r with
  | none => v = -1
  | some (c, a, b) => v = nI c ∧ (1 ≤ c → s2 63 3 = nI a) ∧ (c = 2 → s2 63 4 = nI b)
theorem S_fewest (h0 : VN N ns ne nr np) (hP : PL s (bkT (evL N ns ne) 24) N ns) (hw : s 53 0 = nI 6) (hx : NX s) {i H : Nat} (hi : i < ns) (hH : H < 24) (w : Int32) :
    ∃ v s2, f_X3_fewestStaged (nI i) w (nI H) s = some (v, s2) ∧ SC s s2 ∧ SR (stR N ns ne i H w) v s2 := by
  have hns := h0.2.1.1
  have hne := h0.2.1.2.1
  have hl := EG_len h0
  rw [← EG_0 (N := N) (ns := ns) (ne := ne)] at hP
  obtain ⟨s1, e1, e2, e3⟩ := S_word hP hns hi hH (-1)
  rw [show flt (-1) (EG N ns ne []) = EG N ns ne [] from E_m1 N ns hne _] at e1
  have e4 := e2.pl hP
  have e5 := e2.sc e3 hw
  unfold f_X3_fewestStaged
  rw [e1, ob2_some]
  by_cases q : WD N (EG N ns ne []) i H = w
  · rw [if_pos q]
    refine ⟨_, s1, rfl, e5, ?_⟩
    unfold stR
    rw [if_pos (show pG N ns ne i H w [] = true from decide_eq_true q)]
    exact ⟨rfl, fun z => absurd z (by decide), fun z => absurd z (by decide)⟩
  rw [if_neg q]
  obtain ⟨s2, f1, f2, f3, _⟩ := S_hourOfOne e4 (by omega) hne hns e5.2.1 e3 hi hH (show 0 ≤ H + 1 by omega) w
  rw [f1, ob2_some, nm_eq, sts_s]
  rw [show (fun j => pG N ns ne i H w ([] ++ [(i, nI j, w)])) = (fun j => pG N ns ne i H w [(i, nI j, w)]) from rfl, Nat.sub_zero] at *
  have eR : stR N ns ne i H w = (match ffR (fun j => pG N ns ne i H w [(i, nI j, w)]) 0 (H + 1) with
    | some j => some (1, j, 0)
    | none => match st2 N ns ne i H w 0 (H + 1) with
      | some p => some (2, p.1, p.2)
      | none => none) := by
    unfold stR
    rw [if_neg (show ¬ pG N ns ne i H w [] = true from fun z => q (of_decide_eq_true z))]
  cases hf : ffR (fun j => pG N ns ne i H w [(i, nI j, w)]) 0 (H + 1) with
  | some j =>
    have hj := ffR_lt _ _ _ _ hf
    rw [hf] at eR
    rw [opN_1, if_neg (nI_m1 j (by omega)), eR]
    exact ⟨_, _, rfl, (e5.tr f3).s63 _ _, rfl, fun _ => sts_s _ _ _ _, fun z => absurd z (by decide)⟩
  | none =>
    rw [hf] at eR
    rw [opN_0, if_pos rfl, eR]
    dsimp only
    refine lp2_ix (fun o => ∃ v s2, o = some (v, s2) ∧ SC s s2 ∧ SR (match st2 N ns ne i H w 0 (H + 1) with
      | some p => some (2, p.1, p.2)
      | none => none) v s2) (fun a st => st2 N ns ne i H w 0 (H + 1) = st2 N ns ne i H w a (H + 1 - a) ∧ SC s st ∧ PL st (bkT (EG N ns ne []) 24) N ns) 0 H (by omega) ?_ ?_ (by omega) _ ⟨rfl, (e5.tr f3).s63 _ _, f2.s63 _ _⟩
    · rintro self a st - h6 ⟨h7, h8, h9⟩
      obtain ⟨s3, a1, a2, a3, _⟩ := S_add2 h9 (by omega) h8.2.2 (i := i) (show a < 24 by omega) w
      have hl2 := bk_add_len (EG N ns ne []) (hapS i w (nI a)) (rng.mk (show a < 24 by omega))
      have a2' := a2
      rw [EG_add] at a2' hl2
      obtain ⟨s4, b1, b2, b3, _⟩ := S_hourOfOne a2' (by omega) hne hns a3.2.1 a3.2.2 hi hH (show a + 1 ≤ H + 1 by omega) w
      rw [← EG_add] at b2
      obtain ⟨s5, c1, c2, c3, c4⟩ := S_drop2 (show a < 24 by omega) w (b2.s63 4 _) (((h8.tr a3).tr b3).s63 4 _).2.2
      unfold b_X3_fewestStaged_41
      rw [ifle _ _ (by omega) (by omega), if_neg (by omega), a1, ob2_some, nadd, b1, ob2_some, nm_eq, c1, ob_s, c4, sts_s]
      rw [show H + 1 - a = (H - a) + 1 by omega, st2_s i H w a (H - a)] at h7
      rw [show (fun j => pG N ns ne i H w ([] ++ [(i, nI a, w)] ++ [(i, nI j, w)])) = (fun j => pG N ns ne i H w ([(i, nI a, w)] ++ [(i, nI j, w)])) from rfl]
      cases hg : ffR (fun j => pG N ns ne i H w ([(i, nI a, w)] ++ [(i, nI j, w)])) (a + 1) (H + 1 - (a + 1)) with
      | some j =>
        have hj := ffR_lt _ _ _ _ hg
        rw [hg] at h7
        left
        rw [opN_1, if_neg (nI_m1 j (by omega)), nm_eq, h7]
        refine ⟨_, _, rfl, ((((h8.tr a3).tr b3).s63 4 _).tr c3).s63 3 _, rfl, fun _ => sts_s _ _ _ _, fun _ => ?_⟩
        rw [sts_j _ _ _ (by decide), c4, sts_s, show (fun j => pG N ns ne i H w ([] ++ [(i, nI a, w)] ++ [(i, nI j, w)])) = (fun j => pG N ns ne i H w ([(i, nI a, w)] ++ [(i, nI j, w)])) from rfl, hg]
        rfl
      | none =>
        rw [hg] at h7
        right
        rw [opN_0, if_pos rfl]
        exact ⟨s5, rfl, by rw [h7, show H + 1 - (a + 1) = H - a by omega], (((h8.tr a3).tr b3).s63 4 _).tr c3, c2⟩
    · rintro self st ⟨h7, h8, h9⟩
      unfold b_X3_fewestStaged_41
      rw [ifle _ _ (by omega) (by omega), if_pos (by omega)]
      rw [show H + 1 - H = 0 + 1 by omega, st2_s i H w H 0, show H + 1 - (H + 1) = 0 by omega] at h7
      rw [h7]
      exact ⟨_, st, rfl, h8, rfl⟩
end STAGE
