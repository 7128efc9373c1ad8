/-! NAMES OF ALL HOURS; bits -/
def SC (s s2 : Sg) : Prop := (∀ c, (c < 52 ∨ 69 < c) → s2 c = s c) ∧ s2 53 0 = nI 6 ∧ NX s2
theorem SC.tr {s s2 s3 : Sg} (h : SC s s2) (h' : SC s2 s3) : SC s s3 := ⟨fun c hc => (h'.1 c hc).trans (h.1 c hc), h'.2⟩
theorem nand (a b : Nat) : nI a &&& nI b = nI (a &&& b) := by
  apply Int32.toBitVec_inj.mp
  show BitVec.ofNat 32 a &&& BitVec.ofNat 32 b = BitVec.ofNat 32 (a &&& b)
  exact (BitVec.ofNat_and ..).symm
theorem nor (a b : Nat) : nI a ||| nI b = nI (a ||| b) := by
  apply Int32.toBitVec_inj.mp
  show BitVec.ofNat 32 a ||| BitVec.ofNat 32 b = BitVec.ofNat 32 (a ||| b)
  exact (BitVec.ofNat_or ..).symm
theorem sh1_n : ∀ i, i < 31 → sh1 i = nI (2 ^ i) := by decide +kernel
/-- streets (or events) as bits -/
def mkN (p : Nat → Bool) : Nat → Nat
  | 0 => 0
  | n + 1 => if p n = true then mkN p n + 2 ^ n else mkN p n
theorem mkN_s (p : Nat → Bool) (n : Nat) : mkN p (n + 1) = if p n = true then mkN p n + 2 ^ n else mkN p n := rfl
theorem mkN_lt (p : Nat → Bool) : ∀ n, mkN p n < 2 ^ n
  | 0 => Nat.lt_succ_self 0
  | n + 1 => by
    have := mkN_lt p n
    unfold mkN
    rw [Nat.pow_succ]
    split <;> omega
theorem mkN_or (p : Nat → Bool) (n : Nat) : mkN p n ||| 2 ^ n = mkN p n + 2 ^ n := by
  have := mkN_lt p n
  rw [Nat.or_comm, Nat.add_comm]
  have h := Nat.two_pow_add_eq_or_of_lt this 1
  rw [Nat.mul_one] at h
  exact h.symm
theorem orB (p : Nat → Bool) : ∀ n, n ≤ 30 → forN (fun i b => b ||| (if p i = true then sh1 i else nI 0)) n (nI 0) = nI (mkN p n)
  | 0, _ => rfl
  | n + 1, h => by
    rw [forN_s, orB p n (by omega), mkN_s]
    by_cases q : p n = true
    · rw [if_pos q, if_pos q, sh1_n n (by omega), nor, mkN_or]
    · rw [if_neg q, if_neg q, or0]
theorem mkN_bit (p : Nat → Bool) : ∀ n i, i < n → (mkN p n).testBit i = p i
  | 0, i, h => absurd h (Nat.not_lt_zero i)
  | n + 1, i, h => by
    have hl := mkN_lt p n
    unfold mkN
    by_cases q : p n = true
    · rw [if_pos q, ← mkN_or, Nat.testBit_or, Nat.testBit_two_pow]
      by_cases e : i = n
      · subst e
        rw [q, decide_eq_true rfl, Bool.or_true]
      · rw [mkN_bit p n i (by omega), decide_eq_false (fun z => e z.symm), Bool.or_false]
    · rw [if_neg q]
      by_cases e : i = n
      · subst e
        rw [Nat.testBit_lt_two_pow hl, Bool.eq_false_iff.mpr q]
      · exact mkN_bit p n i (by omega)
def pc (m : Nat) : Nat := forN (fun i c => if m.testBit i = true then c + 1 else c) 8 0
theorem bitC_all : ∀ m, m < 256 → f_J6_bitCount_0f7a4 (nI m) (fun _ _ => 0) = some (nI (pc m)) := by decide +kernel
theorem S_bitCount {m : Nat} (h : m < 256) (s : Sg) : f_J6_bitCount_0f7a4 (nI m) s = some (nI (pc m)) := bitC_all m h
theorem pc_le : ∀ m, m < 256 → pc m ≤ 8 := by decide +kernel
theorem hb_bit : ∀ m, m < 256 → ∀ i, i < 8 → hb (nI m) i = m.testBit i := by decide +kernel
section NAMES
variable {s : Sg} {L : List Hap} {N : Nat → Int32} {t ns ne nr np : Nat}
/-- the names of all hours lie there -/
def NMS (s : Sg) (N : Nat → Int32) (ns : Nat) (L : List Hap) : Prop := s 52 7 = nI ns ∧ ∀ H i, H < 24 → i < ns → s 62 (7 * H + i) = nmA N ns L H i
theorem S_isHour {H : Int32} : f_X7_isHour H s = some (bi (0 ≤ H ∧ H < nI 24)) := by
  unfold f_X7_isHour
  rw [S_isBelow, ob_s, show ((1 : Int32)) = 1 from rfl, bi_and]
theorem S_write (h : TR s t N ns ne nr np) (hT : isT t) (hw : s 53 0 = nI 6) (hx : NX s) : ∃ s2, f_X1_write t s = some s2 ∧ NMS s2 N ns (plL N ns ne) ∧ SC s s2 := by
  have hns := h.1.2.1.1
  have hne := h.1.2.1.2.1
  obtain ⟨s1, a1, a2, a3⟩ := S_plan h hT hw
  unfold f_X1_write
  rw [a1, ob_s]
  generalize hL : plL N ns ne = L at a2
  have hb : ∃ s2 b, f_X0_beginAll s1 = some s2 ∧ s2 52 9 = nI b ∧ b ≤ 10 ∧ (ns = 0 → L = []) ∧ (0 < ns → b = 0) ∧ VE ns (vec s2) (V0 N) ∧ KP s1 s2 := by
    rcases Nat.eq_zero_or_pos ns with q | q
    · obtain ⟨b, hb, hb2⟩ := hx
      have he : L = [] := by
        subst q
        rw [← hL]
        have : ne = 0 := by
          rcases Nat.eq_zero_or_pos ne with z | z
          · exact z
          · obtain ⟨p, hp, -⟩ := (h.1.2.2.2.2.1 0 z).2.1
            exact absurd hp (Nat.not_lt_zero p)
        rw [this]; rfl
      refine ⟨s1, b, ?_, ?_, hb, fun _ => he, fun z => by omega, fun i hi => by omega, KP.rf s1⟩
      · unfold f_X0_beginAll
        obtain ⟨k, hk⟩ : ∃ k, fu = k + 1 := ⟨fu - 1, by have := fu_ge (show 1 < 1000000 by decide); omega⟩
        rw [hk]
        show b_X0_beginAll_2 (lp2_ b_X0_beginAll_2 k) (nI 0) s1 = some s1
        unfold b_X0_beginAll_2
        rw [a2.2.1, q, ifle _ _ (by decide) (by decide), if_pos (Nat.le_refl 0)]
      · have : s1 52 9 = s 52 9 := a3.2
        rw [this]; exact hb2
    · obtain ⟨s2, b1, b2, b3, b4⟩ := S_beginAll a2 hns q
      exact ⟨s2, 0, b1, b2, Nat.zero_le _, fun z => by omega, fun _ => rfl, b3, b4⟩
  obtain ⟨s2, b, b1, b2, b3, b0, b4, b5, b6⟩ := hb
  rw [b1, ob_s]
  have hbt : b ≤ tw L (nI 0) ∨ L = [] := by
    rcases Nat.eq_zero_or_pos ns with q | q
    · exact Or.inr (b0 q)
    · exact Or.inl (by rw [b4 q]; exact Nat.zero_le _)
  refine lp2_po (fun o => ∃ s3, o = some s3 ∧ NMS s3 N ns L ∧ SC s s3)
    (fun d j u => ∃ H b, H + d = 24 ∧ j = nI H ∧ (b ≤ tw L (nI H) ∨ L = []) ∧ b ≤ 10 ∧ u 52 9 = nI b ∧ VE ns (vec u) (foldA (N 2) ns (L.take b) (V0 N)) ∧ PL u L N ns ∧ (∀ c, (c < 52 ∨ 69 < c) → u c = s c) ∧ ∀ G i, G < H → i < ns → u 62 (7 * G + i) = nmA N ns L G i) ?_ fu 24 _ _ (fu_ge (by omega)) ⟨0, b, by omega, rfl, hbt, b3, b2, ?_, b6.pl a2, ?_, fun G i hG => by omega⟩
  · rintro self d j u ⟨H, b, e1, rfl, e2, e3, e4, e5, e6, e7, e8⟩
    unfold b_X1_write_17
    rw [ifle _ _ (by decide) (by omega)]
    by_cases hd : 24 ≤ H
    · left
      rw [if_pos hd]
      rw [show H = 24 by omega] at e8
      exact ⟨u, rfl, ⟨e6.2.1, e8⟩, e7, e6.1.1.1, b, e3, e4⟩
    · right
      rw [if_neg hd]
      have key : ∃ u2, f_X0_liveAll (nI H) u = some u2 ∧ (∃ b2, b2 ≤ 10 ∧ (b2 ≤ tw L (nI (H + 1)) ∨ L = []) ∧ u2 52 9 = nI b2 ∧ VE ns (vec u2) (foldA (N 2) ns (L.take b2) (V0 N))) ∧ VE ns (vec u2) (foldA (N 2) ns (L.take (tw L (nI H))) (V0 N)) ∧ KP u u2 := by
        rcases e2 with e2 | e2
        · obtain ⟨u2, c1, c2, c3, c4⟩ := S_liveAll e6 hns (nI H) e2 e4
          have c5 : VE ns (vec u2) (foldA (N 2) ns (L.take (tw L (nI H))) (V0 N)) := by
            rw [c3, take_slc L e2, foldA_app]
            exact VE_fold _ e5
          exact ⟨u2, c1, ⟨tw L (nI H), Nat.le_trans (tw_le L _) e6.1.2.1, Or.inl (tw_mono ((nI_leI (by omega) (by omega)).mpr (by omega))), c2, c5⟩, c5, c4⟩
        · refine ⟨u, ?_, ⟨b, e3, Or.inr e2, e4, e5⟩, ?_, KP.rf u⟩
          · unfold f_X0_liveAll
            obtain ⟨k, hk⟩ : ∃ k, fu = k + 1 := ⟨fu - 1, by have := fu_ge (show 1 < 1000000 by decide); omega⟩
            rw [hk]
            show b_X0_liveAll_0 (nI H) (lp1_ (b_X0_liveAll_0 (nI H)) k) u = some u
            unfold b_X0_liveAll_0
            rw [S_size, ob_s, e6.1.1.2, e4, e2, ifle _ _ (by decide) (by omega), if_pos (show ([] : List Hap).length ≤ b from Nat.zero_le b)]
          · rw [e2] at e5 ⊢
            rw [List.take_nil] at e5 ⊢
            exact e5
      obtain ⟨u2, c1, ⟨b9, c6, c7, c8, c9⟩, c3, c4⟩ := key
      rw [c1, ob_s, nm_eq]
      have hP2 := c4.pl e6
      have k2 : ∃ u3, lp2_ (b_X1_write_33 (fun s7 => self (nI H + nI 1) s7) (nI H)) fu (nI 0) u2 = self (nI (H + 1)) u3 ∧ (∀ c, c ≠ 62 → u3 c = u2 c) ∧ (∀ i, i < ns → u3 62 (7 * H + i) = nmV (vec u2) i) ∧ ∀ G i, G < H → i < ns → u3 62 (7 * G + i) = u2 62 (7 * G + i) := by
        refine lp2_po (fun o => ∃ u3, o = self (nI (H + 1)) u3 ∧ (∀ c, c ≠ 62 → u3 c = u2 c) ∧ (∀ i, i < ns → u3 62 (7 * H + i) = nmV (vec u2) i) ∧ ∀ G i, G < H → i < ns → u3 62 (7 * G + i) = u2 62 (7 * G + i))
          (fun d j v => ∃ m, m + d = ns ∧ j = nI m ∧ (∀ c, c ≠ 62 → v c = u2 c) ∧ (∀ i, i < m → v 62 (7 * H + i) = nmV (vec u2) i) ∧ ∀ G i, G < H → i < ns → v 62 (7 * G + i) = u2 62 (7 * G + i)) ?_ fu ns _ _ (fu_ge (by omega)) ⟨0, by omega, rfl, fun _ _ => rfl, fun i hi => by omega, fun _ _ _ _ => rfl⟩
        rintro self2 d2 j v ⟨m, f1, rfl, f2, f3, f4⟩
        unfold b_X1_write_33 f_X0_streets
        rw [ob_s, f2 52 (by decide), hP2.2.1, ifle _ _ (by omega) (by omega)]
        by_cases hd2 : ns ≤ m
        · left
          rw [if_pos hd2, nadd]
          rw [show m = ns by omega] at f3
          exact ⟨v, rfl, f2, f3, f4⟩
        · right
          rw [if_neg hd2, S_nameNow (by omega), ob_s, nmul, nadd, as _ 62 _ (show H * 7 + m < 168 by omega), ob_s, nadd, f2 58 (by decide), f2 57 (by decide)]
          refine ⟨d2 - 1, _, _, by omega, rfl, m + 1, by omega, rfl, fun c hc => (sts_n _ _ _ hc).trans (f2 c hc), fun i hi => ?_, fun G i hG hi => ?_⟩
          · by_cases q : i = m
            · subst q
              rw [show H * 7 + i = 7 * H + i by omega, sts_s]
              rfl
            · rw [sts_j _ _ _ (by omega)]
              exact f3 i (by omega)
          · rw [sts_j _ _ _ (by omega)]
            exact f4 G i hG hi
      obtain ⟨u3, g1, g2, g3, g4⟩ := k2
      rw [g1]
      refine ⟨d - 1, _, u3, by omega, rfl, H + 1, b9, by omega, rfl, c7, c6, ?_, ?_, ?_, ?_, ?_⟩
      · rw [g2 52 (by decide)]; exact c8
      · unfold vec
        rw [g2 57 (by decide), g2 58 (by decide), g2 59 (by decide), g2 60 (by decide)]
        exact c9
      · refine ⟨hP2.1.fr (g2 53 (by decide)) (g2 54 (by decide)), by rw [g2 52 (by decide)]; exact hP2.2.1, by rw [g2 52 (by decide)]; exact hP2.2.2.1, fun i hi => by rw [g2 56 (by decide)]; exact hP2.2.2.2 i hi⟩
      · intro c hc
        rw [g2 c (by omega), c4.1 c (by omega) (by omega) (by omega) (by omega) (by omega), e7 c hc]
      · intro G i hG hi
        by_cases q : G = H
        · subst q
          rw [g3 i hi, nmV_e c3 hi]
          rfl
        · rw [g4 G i (by omega) hi, c4.1 62 (by decide) (by decide) (by decide) (by decide) (by decide)]
          exact e8 G i (by omega) hi
  · rcases Nat.eq_zero_or_pos ns with q | q
    · intro i hi; omega
    · rw [b4 q, List.take_zero]
      exact b5
  · intro c hc
    rw [b6.1 c (by omega) (by omega) (by omega) (by omega) (by omega), a3.1 c (by omega) (by omega) (by omega) (by omega) (by omega)]
end NAMES
