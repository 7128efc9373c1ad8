/-! READ: the class reads -/
def M0N (x : Int32) : Nat → Int32 := upd (fun _ => nI 0) 2 x
def apM (kd : Nat) (M : Nat → Int32) (ns ne : Nat) (r : Nat → Int32) : Nat → Int32 := if kd = 0 then M0N (r 0) else if kd = 1 then strN M ns r else if kd = 2 then evtN M ne r else upd M (81 + (r 0).toNatClampNeg) (r 1)
def apS (kd ns : Nat) : Nat := if kd = 0 then 0 else if kd = 1 then ns + 1 else ns
def apE (kd ne : Nat) : Nat := if kd = 0 then 0 else if kd = 2 then ne + 1 else ne
/-- the town that is being read -/
def TW (s : Sg) (M : Nat → Int32) (ns ne : Nat) : Prop := ∃ N np, TR s 13 N ns ne 0 np ∧ ∀ i, i < 115 → i ≠ 4 → N i = M i
theorem T13 : isT 13 := Or.inr (Or.inl rfl)
section READ
variable {s : Sg} {T : Nat → Nat} {len p : Nat} {M : Nat → Int32} {ns ne : Nat}
theorem TW.c {s2 : Sg} (h : TW s M ns ne) (hf : ∀ c, 13 ≤ c → c < 25 → s2 c = s c) : TW s2 M ns ne := by
  obtain ⟨N, np, h1, h2⟩ := h
  exact ⟨N, np, h1.fr (fun c c1 c2 => hf c c1 c2), h2⟩
theorem S_takeW {kd : Nat} {r : Nat → Int32} (hkd : kd < 4) (hfit : fitA kd (s 51) ns) (hr : ∀ i, i < cntN kd → s 51 i = r i) (hW : WT s 13) (hTW : kd ≠ 0 → TW s M ns ne) (h1 : ¬ (kd = 1 ∧ ns = 7)) (h2 : ¬ (kd = 2 ∧ ne = 8)) : ∃ v s2, f_X5_take 13 (nI kd) 51 s = some (v, s2) ∧ (∀ c, (c < 13 ∨ 25 ≤ c) → s2 c = s c) ∧ TW s2 (apM kd M ns ne r) (apS kd ns) (apE kd ne) := by
  match kd, hkd with
  | 0, _ =>
    have e0 := hr 0 (by decide)
    obtain ⟨s2, f1, f2, f3⟩ := T_begin (t := 13) hW T13 (rngB (by decide) ((fit0_iff _ _).mp hfit))
    unfold f_X5_take
    rw [if_pos rfl, ag _ 51 (show 0 < 6 by decide) (by decide), ob_s, f1, ob2_some]
    refine ⟨_, s2, rfl, fun c hc => f2 c (by omega) (by omega) (by omega) (by omega) (by omega) (by omega), M0N (s 51 0), 0, f3 _ rfl rfl (upd_s _ _ _) rfl rfl (fun w hw => upd_n _ _ (by omega)), fun i hi h4 => ?_⟩
    unfold apM
    rw [if_pos rfl, e0]
  | 1, _ =>
    obtain ⟨N, np, hT, hN⟩ := hTW (by decide)
    have b1 := hT.1.2.1.1
    obtain ⟨s2, f1, f2, f3⟩ := T_street hT T13 (by omega) (c := 51) (by decide) rfl hfit
    refine ⟨_, s2, f1, fun c hc => f2 c (by omega) (by omega) (by omega), strN N ns (s 51), 0, f3, fun i hi h4 => ?_⟩
    show strN N ns (s 51) i = strN M ns r i
    unfold strN
    by_cases q0 : i = 0
    · rw [if_pos q0, if_pos q0]
    rw [if_neg q0, if_neg q0, if_neg h4, if_neg h4]
    by_cases q : 5 + 4 * ns ≤ i ∧ i < 5 + 4 * ns + 4
    · rw [if_pos q, if_pos q]
      exact hr _ (show _ < 4 by omega)
    · rw [if_neg q, if_neg q]
      exact hN i hi h4
  | 2, _ =>
    obtain ⟨N, np, hT, hN⟩ := hTW (by decide)
    have b1 := hT.1.2.1.2.1
    obtain ⟨s2, f1, f2, f3⟩ := T_event hT T13 (by omega) (c := 51) (by decide) rfl hfit
    refine ⟨_, s2, f1, fun c hc => f2 c (by omega), _, _, f3, fun i hi h4 => ?_⟩
    show evtN (kpN N np) ne (s 51) i = evtN M ne r i
    unfold evtN
    by_cases q0 : i = 1
    · rw [if_pos q0, if_pos q0]
    rw [if_neg q0, if_neg q0]
    by_cases q : 33 + 6 * ne ≤ i ∧ i < 33 + 6 * ne + 6
    · rw [if_pos q, if_pos q]
      exact hr _ (show _ < 6 by omega)
    · rw [if_neg q, if_neg q, kpN_lo _ _ hi h4]
      exact hN i hi h4
  | 3, _ =>
    obtain ⟨N, np, hT, hN⟩ := hTW (by decide)
    obtain ⟨g1, g2⟩ := (fit3_iff _ _).mp hfit
    obtain ⟨w, hw, ew⟩ := rngB (by decide) g1
    obtain ⟨s2, f1, f2, f3⟩ := T_rent hT T13 hw (c := 51) rfl ew (rngB (by decide) g2)
    refine ⟨_, s2, f1, fun c hc => f2 c (by omega), _, _, f3, fun i hi h4 => ?_⟩
    unfold apM
    rw [if_neg (by decide), if_neg (by decide), if_neg (by decide), ← hr 0 (by decide), ← hr 1 (by decide), ew, nIc (by omega)]
    by_cases q : i = 81 + w
    · rw [q, upd_s, upd_s]
    · rw [upd_n _ _ q, upd_n _ _ q]
      exact hN i hi h4
/-- what comes of an item's numbers -/
def itV (T : Nat → Nat) (len kd : Nat) : Nat ⊕ ((Nat → Int32) × Nat) → Nat ⊕ (Nat × (Nat → Int32) × Nat)
  | .inl e => .inl e
  | .inr (r, q) => if tK T len q = 3 then .inr (kd, r, tE T len q) else .inl (tS T len q)
/-- an item at p: the place of a fault, or its kind, its numbers, and the place behind -/
noncomputable def itS (T : Nat → Nat) (len b ns ne p : Nat) : Nat ⊕ (Nat × (Nat → Int32) × Nat) :=
  @ite _ (nkd T len p < 4 ∧ (b = 1 ↔ nkd T len p = 0) ∧ ¬ (nkd T len p = 1 ∧ ns = 7) ∧ ¬ (nkd T len p = 2 ∧ ne = 8)) (Classical.propDecidable _) (itV T len (nkd T len p) (vlS T len (nkd T len p) ns (cntN (nkd T len p)) 0 (fun _ => nI 0) (tE T len p))) (.inl (tS T len p))
theorem itS_s {b : Nat} (h : nkd T len p < 4 ∧ (b = 1 ↔ nkd T len p = 0) ∧ ¬ (nkd T len p = 1 ∧ ns = 7) ∧ ¬ (nkd T len p = 2 ∧ ne = 8)) : itS T len b ns ne p = itV T len (nkd T len p) (vlS T len (nkd T len p) ns (cntN (nkd T len p)) 0 (fun _ => nI 0) (tE T len p)) := if_pos h
theorem itS_e {b : Nat} (h : ¬ (nkd T len p < 4 ∧ (b = 1 ↔ nkd T len p = 0) ∧ ¬ (nkd T len p = 1 ∧ ns = 7) ∧ ¬ (nkd T len p = 2 ∧ ne = 8))) : itS T len b ns ne p = .inl (tS T len p) := if_neg h
theorem vlS_0 (ns2 : Nat) : ∀ n k r p, vlS T len 0 ns n k r p = vlS T len 0 ns2 n k r p
  | 0, _, _, _ => rfl
  | n + 1, k, r, p => by
    have hf : fitP 0 k (upd r k (tV T len p)) ns ↔ fitP 0 k (upd r k (tV T len p)) ns2 := by
      unfold fitP
      constructor
      · rintro ⟨a, b, _, d⟩
        exact ⟨a, b, fun z => absurd z.1 (by decide), d⟩
      · rintro ⟨a, b, _, d⟩
        exact ⟨a, b, fun z => absurd z.1 (by decide), d⟩
    by_cases g : tK T len p = 2 ∧ fitP 0 k (upd r k (tV T len p)) ns
    · rw [vlS_s _ _ _ _ _ _ g, vlS_s _ _ _ _ _ _ ⟨g.1, hf.mp g.2⟩]
      exact vlS_0 ns2 n _ _ _
    · rw [vlS_e _ _ _ _ _ _ g, vlS_e _ _ _ _ _ _ (fun z => g ⟨z.1, hf.mpr z.2⟩)]
theorem nI_all (x : Int32) : ∃ n, x = nI n := by
  refine ⟨x.toBitVec.toNat, Int32.toBitVec_inj.mp ?_⟩
  show x.toBitVec = BitVec.ofNat 32 x.toBitVec.toNat
  simp
/-- all but the read town and the text's own cells stay -/
def KW (s s2 : Sg) : Prop := (∀ c, (c < 13 ∨ 25 ≤ c) → c ≠ 49 → c ≠ 51 → s2 c = s c) ∧ s2 49 2 = s 49 2
theorem KW.rf (s : Sg) : KW s s := ⟨fun _ _ _ _ => rfl, rfl⟩
theorem KW.tr {s s2 s3 : Sg} (h : KW s s2) (h' : KW s2 s3) : KW s s3 := ⟨fun c a b d => (h'.1 c a b d).trans (h.1 c a b d), h'.2.trans h.2⟩
theorem KV.kw {s s2 : Sg} (h : KV s s2) : KW s s2 := ⟨fun c _ a b => h.1 c a b, h.2⟩
theorem TX.w {s2 : Sg} (h : TX s T len) (hk : KW s s2) : TX s2 T len := ⟨h.1, hk.2.trans h.2.1, fun i hi => by rw [hk.1 50 (by omega) (by decide) (by decide)]; exact h.2.2 i hi⟩
theorem WT.v {s2 : Sg} (h : WT s 13) (hk : KV s s2) : WT s2 13 := by
  unfold WT
  rw [hk.1 _ (by decide) (by decide), hk.1 _ (by decide) (by decide), hk.1 _ (by decide) (by decide), hk.1 _ (by decide) (by decide)]
  exact h
def PI (s : Sg) (len p0 : Nat) (M : Nat → Int32) (ns ne : Nat) (R : Nat ⊕ (Nat × (Nat → Int32) × Nat)) (o : Option (Int32 × Sg)) : Prop := match R with
  | .inl e => ∃ s2, o = some (nI 0, s2) ∧ KW s s2 ∧ WT s2 13 ∧ s2 49 5 = nI e ∧ e ≤ len
  | .inr (kd, r, q) => ∃ s2, o = some (nI 1, s2) ∧ KW s s2 ∧ s2 49 3 = nI q ∧ q ≤ len ∧ p0 < q ∧ TW s2 (apM kd M ns ne r) (apS kd ns) (apE kd ne)
theorem S_takeItem (h : TX s T len) (hp : p ≤ len) (ht : TK s T len p) {b : Nat} (hb : b = 0 ∨ b = 1) (hW : WT s 13) (hTW : b = 0 → TW s M ns ne) : PI s len p M ns ne (itS T len b ns ne p) (f_X4_takeItem 13 (nI b) s) := by
  have hl := h.1
  obtain ⟨b1, b2⟩ := tE_le (T := T) hp
  have fail : ∀ R, R = .inl (tS T len p) → PI s len p M ns ne R (some (nI 0, s)) := fun R hR => by
    rw [hR]
    exact ⟨s, rfl, KW.rf s, hW, ht.2.2, by omega⟩
  unfold f_X4_takeItem
  rw [S_itemCalled h hp ht, ob2_some]
  have hk4 := nkd_le (T := T) (len := len) (p := p)
  by_cases g4 : nkd T len p = 4
  · rw [if_pos g4, if_pos rfl]
    exact fail _ (itS_e (fun z => absurd z.1 (by omega)))
  have hlt : nkd T len p < 4 := by omega
  have hgt : p < tE T len p := tE_gt hp (by rw [nkd_K hlt]; decide)
  rw [if_neg g4, if_neg (nI_m1 _ (by omega)), nm_eq]
  -- the right kind of word, and room
  have body : (if nI b = (if nkd T len p = 0 then nI 1 else nI 0) then (f_X5_hasNoRoomFor 13 (nI (nkd T len p)) s).bind fun v5 => if v5 = 0 then nm_ (fun (s6 : Sg) => (f_X4_findToken s6).bind fun s8 => if (s8 49 4) = (nI 3) then ob2 (f_X5_take 13 (nI (nkd T len p)) 51 s8) fun (v9 : Int32) (s10 : Sg) => some ((nI 1), s10) else some ((nI 0), s8)) fun j7 => lp2_ (b_X4_takeItem_36 (nI (nkd T len p)) j7 13) fu (nI 0) s else some ((nI 0), s) else some ((nI 0), s)) = (if nI (nkd T len p) = 0 then (fun (a3 : Int32) => if nI b = a3 then (f_X5_hasNoRoomFor 13 (nI (nkd T len p)) s).bind fun v5 => if v5 = 0 then nm_ (fun (s6 : Sg) => (f_X4_findToken s6).bind fun s8 => if (s8 49 4) = (nI 3) then ob2 (f_X5_take 13 (nI (nkd T len p)) 51 s8) fun (v9 : Int32) (s10 : Sg) => some ((nI 1), s10) else some ((nI 0), s8)) fun j7 => lp2_ (b_X4_takeItem_36 (nI (nkd T len p)) j7 13) fu (nI 0) s else some ((nI 0), s) else some ((nI 0), s)) (nI 1) else (fun (a3 : Int32) => if nI b = a3 then (f_X5_hasNoRoomFor 13 (nI (nkd T len p)) s).bind fun v5 => if v5 = 0 then nm_ (fun (s6 : Sg) => (f_X4_findToken s6).bind fun s8 => if (s8 49 4) = (nI 3) then ob2 (f_X5_take 13 (nI (nkd T len p)) 51 s8) fun (v9 : Int32) (s10 : Sg) => some ((nI 1), s10) else some ((nI 0), s8)) fun j7 => lp2_ (b_X4_takeItem_36 (nI (nkd T len p)) j7 13) fu (nI 0) s else some ((nI 0), s) else some ((nI 0), s)) (nI 0)) := by
    by_cases z : nkd T len p = 0
    · rw [if_pos z, if_pos (show nI (nkd T len p) = 0 by rw [z]; rfl)]
    · rw [if_neg z, if_neg (show ¬ nI (nkd T len p) = 0 from nI_ne0 (by omega) (by omega))]
  rw [← body]
  clear body
  have hcond : (nI b = (if nkd T len p = 0 then nI 1 else nI 0)) ↔ (b = 1 ↔ nkd T len p = 0) := by
    by_cases z : nkd T len p = 0
    · rw [if_pos z, nI_eq (by omega) (by decide)]
      exact ⟨fun y => ⟨fun _ => z, fun _ => y⟩, fun y => y.mpr z⟩
    · rw [if_neg z, nI_eq (by omega) (by decide)]
      exact ⟨fun y => ⟨fun w => by omega, fun w => absurd w z⟩, fun y => by
        rcases hb with e | e
        · exact e
        · exact absurd (y.mp e) z⟩
  by_cases gb0 : ¬ (b = 1 ↔ nkd T len p = 0)
  · rw [if_neg (fun z => gb0 (hcond.mp z))]
    exact fail _ (itS_e (fun z => gb0 z.2.1))
  have gb := Classical.not_not.mp gb0
  rw [if_pos (hcond.mpr gb)]
  have room : f_X5_hasNoRoomFor 13 (nI (nkd T len p)) s = some (bi ((nkd T len p = 1 ∧ ns = 7) ∨ (nkd T len p = 2 ∧ ne = 8))) := by
    rcases hb with e | e
    · obtain ⟨N, np, hT, _⟩ := hTW e
      exact S_room hT T13 hlt
    · have z := gb.mp e
      rw [z, bi_f (by omega)]
      unfold f_X5_hasNoRoomFor
      rw [nm_eq, if_neg (by decide), if_neg (by decide)]
  rw [room, ob_s]
  by_cases gr : (nkd T len p = 1 ∧ ns = 7) ∨ (nkd T len p = 2 ∧ ne = 8)
  · rw [if_bi' _ _ gr]
    exact fail _ (itS_e (fun z => by rcases gr with y | y; exact z.2.2.1 y; exact z.2.2.2 y))
  rw [if_bi0 _ _ gr, nm_eq, itS_s ⟨hlt, gb, fun z => gr (Or.inl z), fun z => gr (Or.inr z)⟩]
  -- its numbers
  obtain ⟨ns1, hns1, hv1⟩ : ∃ ns1, s 14 2 = nI ns1 ∧ vlS T len (nkd T len p) ns (cntN (nkd T len p)) 0 (fun _ => nI 0) (tE T len p) = vlS T len (nkd T len p) ns1 (cntN (nkd T len p)) 0 (fun _ => nI 0) (tE T len p) ∧ (b = 0 → ns1 = ns) := by
    rcases hb with e | e
    · obtain ⟨N, np, hT, _⟩ := hTW e
      exact ⟨ns, hT.2.1.1.2, rfl, fun _ => rfl⟩
    · obtain ⟨n, hn⟩ := nI_all (s 14 2)
      have z := gb.mp e
      exact ⟨n, hn, by rw [z]; exact vlS_0 n _ _ _ _, fun y => by omega⟩
  have hv := S_vals h b2 ht.1 hlt ⟨hW.1, hns1⟩ (fun (s6 : Sg) => (f_X4_findToken s6).bind fun s8 => if (s8 49 4) = (nI 3) then ob2 (f_X5_take 13 (nI (nkd T len p)) 51 s8) fun (v9 : Int32) (s10 : Sg) => some ((nI 1), s10) else some ((nI 0), s8))
  rw [hv1.1]
  generalize vlS T len (nkd T len p) ns1 (cntN (nkd T len p)) 0 (fun _ => nI 0) (tE T len p) = R at hv
  cases R with
  | inl e =>
    obtain ⟨s2, f1, f2, f3, f4⟩ := hv
    exact ⟨s2, f1, f2.kw, hW.v f2, f3, f4⟩
  | inr x =>
    obtain ⟨r, q⟩ := x
    obtain ⟨s2, f1, f2, f3, f4, f4', f5, f6⟩ := hv
    rw [f1]
    obtain ⟨c1, c2⟩ := tE_le (T := T) f4
    obtain ⟨s3, d1, d2, d3, d4, d5⟩ := S_find (h.v f2) f4 f3
    have kk := tK_lt (T := T) (len := len) (p := q)
    have k3 : KV s s3 := f2.tr d2.kv
    show PI s len p M ns ne (if tK T len q = 3 then .inr (nkd T len p, r, tE T len q) else .inl (tS T len q)) _
    dsimp only
    rw [d1, ob_s, d4, ife _ _ (by omega) (by decide)]
    by_cases g3 : tK T len q = 3
    · rw [if_pos g3, if_pos g3]
      have e51 : s3 51 = s2 51 := d2.1 51 (by decide)
      have hfit : fitA (nkd T len p) (s3 51) ns := by
        rw [e51]
        rcases hb with e | e
        · rw [← hv1.2 e]; exact f6
        · have z := gb.mp e
          rw [z] at f6 ⊢
          exact (fit0_iff _ _).mpr ((fit0_iff _ _).mp f6)
      obtain ⟨v, s4, e1, e2, e3⟩ := S_takeW (M := M) (ns := ns) (ne := ne) (r := r) hlt hfit (fun i hi => by rw [e51]; exact f5 i hi) (hW.v k3) (fun z => by
        have : b = 0 := by
          rcases hb with e | e
          · exact e
          · exact absurd (gb.mp e) z
        exact (hTW this).c (fun c c1 c2 => k3.1 c (by omega) (by omega))) (fun z => gr (Or.inl z)) (fun z => gr (Or.inr z))
      rw [e1, ob2_some]
      have hq := tE_gt f4 (show tK T len q ≠ 0 by rw [g3]; decide)
      refine ⟨s4, rfl, k3.kw.tr ⟨fun c a _ _ => e2 c a, by rw [e2 49 (by omega)]⟩, by rw [e2 49 (by omega), d3], c2, by omega, e3⟩
    · rw [if_neg g3, if_neg g3]
      exact ⟨s3, rfl, k3.kw, hW.v k3, d5, by omega⟩
/-- a text from p on: the place of a fault, or the items and the town told -/
noncomputable def rdS (T : Nat → Nat) (len : Nat) : Nat → Nat → (Nat → Int32) → Nat → Nat → Nat → Nat ⊕ (Nat × (Nat → Int32) × Nat × Nat)
  | 0, _, _, _, _, _ => .inl 0
  | n + 1, i, M, ns, ne, p => if tK T len p = 0 ∧ 0 < i then .inr (i, M, ns, ne) else match itS T len (if i = 0 then 1 else 0) ns ne p with
    | .inl e => .inl e
    | .inr (kd, r, q) => rdS T len n (i + 1) (apM kd M ns ne r) (apS kd ns) (apE kd ne) q
def PR (s : Sg) (len : Nat) (R : Nat ⊕ (Nat × (Nat → Int32) × Nat × Nat)) (o : Option (Int32 × Sg)) : Prop := match R with
  | .inl e => ∃ s2, o = some (-10 - nI e, s2) ∧ KW s s2 ∧ WT s2 13 ∧ e ≤ len
  | .inr (i, M, ns, ne) => ∃ s2, o = some (nI i, s2) ∧ KW s s2 ∧ i ≤ 150 ∧ ∃ N, TR s2 13 N ns ne 0 0 ∧ ∀ k, k < 115 → k ≠ 4 → N k = M k
theorem T_forget {N : Nat → Int32} {nr np t : Nat} (h : TR s t N ns ne nr np) : TR (sts s (t + 7) 2 (nI 0)) t (upd N 4 (nI 0)) ns ne nr 0 := by
  obtain ⟨⟨⟨c0, c1, c3, c4⟩, ⟨b1, b2, b3, b4⟩, vl, vs, ve, vr, vd, vp⟩, ⟨r1, r2, r3, r4⟩, tl, ts, te, td, tr, tp⟩ := id h
  have lo : ∀ i, i ≠ 4 → upd N 4 (nI 0) i = N i := fun i h1 => upd_n _ _ h1
  have f1 : ∀ d, d ≠ t + 7 → sts s (t + 7) 2 (nI 0) d = s d := fun d hd => sts_n _ _ _ hd
  refine ⟨⟨⟨?_, ?_, ?_, upd_s _ _ _⟩, ⟨b1, b2, b3, by omega⟩, ?_, fun i hi => ?_, fun e he => ?_, fun w hw => ?_, fun r hr => ?_, fun j hj => absurd hj (by omega)⟩, ⟨?_, ?_, ?_, ⟨(sts_j _ _ _ (by decide)).trans r4.1, sts_s _ _ _ _⟩⟩, ?_, fun i hi => ?_, fun i hi => ?_, fun i hi => ?_, fun w hw => ?_, fun j hj => absurd hj (by omega)⟩
  · rw [lo _ (by decide)]; exact c0
  · rw [lo _ (by decide)]; exact c1
  · rw [lo _ (by decide)]; exact c3
  · rw [lo _ (by decide)]; exact vl
  · exact (vs i hi).c (fun k hk => lo _ (by omega))
  · exact (ve e he).c (Nat.le_refl _) (fun k hk => lo _ (by omega))
  · rw [lo _ (by omega)]; exact vr w hw
  · exact (vd r hr).c (Nat.le_refl _) (fun k hk => lo _ (by omega))
  · unfold RW; rw [f1 _ (by omega)]; exact r1
  · unfold RW; rw [f1 _ (by omega)]; exact r2
  · unfold RW; rw [f1 _ (by omega)]; exact r3
  · rw [f1 _ (by omega), lo _ (by decide)]; exact tl
  · rw [f1 _ (by omega), lo _ (by omega)]; exact ts i hi
  · rw [f1 _ (by omega), lo _ (by omega)]; exact te i hi
  · rw [f1 _ (by omega), lo _ (by omega)]; exact td i hi
  · rw [f1 _ (by omega), lo _ (by omega)]; exact tr w hw
theorem S_readInto (h : TX s T len) (hW : WT s 13) : PR s len (rdS T len 151 0 (fun _ => nI 0) 0 0 0) (f_X4_readInto 13 s) := by
  have hl := h.1
  generalize hR : rdS T len 151 0 (fun _ => nI 0) 0 0 0 = R
  unfold f_X4_readInto
  rw [nm_eq]
  have k0 : KW s (sts s 49 3 (nI 0)) := (K4.st s _ (by decide)).kv.kw
  have z0 : sts s 49 3 (nI 0) 49 3 = nI 0 := sts_s _ _ _ _
  have w0 : WT (sts s 49 3 (nI 0)) 13 := hW.v (K4.st s _ (by decide)).kv
  generalize sts s 49 3 (nI 0) = s0 at k0 z0 w0
  refine lp2_po (fun o => PR s len R o) (fun d (j : Int32) (st : Sg) => ∃ (i : Nat) (M : Nat → Int32) (ns ne p : Nat), j = nI i ∧ rdS T len d i M ns ne p = R ∧ KW s st ∧ WT st 13 ∧ st 49 3 = nI p ∧ p ≤ len ∧ len < p + d ∧ i ≤ p ∧ (0 < i → TW st M ns ne)) ?_ fu 151 _ _ (fu_ge (by omega)) ⟨0, _, 0, 0, 0, rfl, hR, k0, w0, z0, by omega, by omega, by omega, fun z => absurd z (by omega)⟩
  rintro self d j st ⟨i, M, ns, ne, p, rfl, hr, k1, w1, k3, hp, hd, hi, hTW⟩
  obtain ⟨d, rfl⟩ : ∃ d', d = d' + 1 := ⟨d - 1, by omega⟩
  have hx := h.w k1
  obtain ⟨b1, b2⟩ := tE_le (T := T) hp
  obtain ⟨s5, e1, e2, e3, e4, e5⟩ := S_find hx hp k3
  have kk := tK_lt (T := T) (len := len) (p := p)
  unfold b_X4_readInto_7
  rw [ifl _ _ (by decide) (by omega), if_neg (by omega), e1, ob_s, nm_eq]
  have k5 : KW s s5 := k1.tr e2.kv.kw
  have w5 : WT s5 13 := w1.v e2.kv
  have ht : TK s5 T len p := ⟨e3, e4, e5⟩
  have z4 : (s5 49 4 = 0) ↔ tK T len p = 0 := by
    rw [e4]
    exact nI_eq (b := 0) (by omega) (by decide)
  have zi : (nI i ≤ 0) ↔ ¬ 0 < i := by
    show nI i ≤ nI 0 ↔ _
    rw [nI_leI (by omega) (by decide)]
    omega
  by_cases ge : tK T len p = 0 ∧ 0 < i
  · left
    rw [if_pos (z4.mpr ge.1), if_neg (fun y => zi.mp y ge.2)]
    have : rdS T len (d + 1) i M ns ne p = .inr (i, M, ns, ne) := if_pos ge
    rw [← hr, this]
    obtain ⟨N, np, hT, hN⟩ := hTW ge.2
    have hT5 : TR s5 13 N ns ne 0 np := hT.fr (fun c c1 c2 => e2.1 c (by omega))
    unfold f_X5_forgetPast
    rw [S_empty, ob_s, ob_s]
    refine ⟨_, rfl, k5.tr ⟨fun c c1 _ _ => sts_n _ _ _ (by omega), by rw [sts_n _ _ _ (by decide)]⟩, by omega, _, T_forget hT5, fun k k1 k2 => by rw [upd_n _ _ k2]; exact hN k k1 k2⟩
  · have hrd : rdS T len (d + 1) i M ns ne p = match itS T len (if i = 0 then 1 else 0) ns ne p with
        | .inl e => .inl e
        | .inr (kd, r, q) => rdS T len d (i + 1) (apM kd M ns ne r) (apS kd ns) (apE kd ne) q := if_neg ge
    rw [hrd] at hr
    have hpi := S_takeItem (s := s5) (M := M) (ns := ns) (ne := ne) (hx.k e2) hp ht (b := if i = 0 then 1 else 0) (by by_cases z : i = 0; exact Or.inr (if_pos z); exact Or.inl (if_neg z)) w5 (fun z => by
      have : 0 < i := by
        by_cases y : i = 0
        · rw [if_pos y] at z; omega
        · omega
      exact (hTW this).c (fun c c1 c2 => e2.1 c (by omega)))
    have fin : ∀ o, o = (ob2 (f_X4_takeItem 13 (nI (if i = 0 then 1 else 0)) s5) fun (v9 : Int32) (s10 : Sg) => if v9 = 0 then some (-10 - (s10 49 5), s10) else self (nI i + nI 1) s10) → (PR s len R o ∨ ∃ (e : Nat) (c0 : Int32) (c1 : Sg), e < d + 1 ∧ o = self c0 c1 ∧ ∃ (i : Nat) (M : Nat → Int32) (ns ne p : Nat), c0 = nI i ∧ rdS T len e i M ns ne p = R ∧ KW s c1 ∧ WT c1 13 ∧ c1 49 3 = nI p ∧ p ≤ len ∧ len < p + e ∧ i ≤ p ∧ (0 < i → TW c1 M ns ne)) := by
      intro o ho
      generalize itS T len (if i = 0 then 1 else 0) ns ne p = I at hr hpi
      cases I with
      | inl e =>
        left
        obtain ⟨s6, f1, f2, f3, f4, f5⟩ := hpi
        rw [ho, f1, ob2_some, if_pos (show nI 0 = 0 from rfl), f4, ← hr]
        exact ⟨s6, rfl, k5.tr f2, f3, f5⟩
      | inr x =>
        right
        obtain ⟨kd, r, q⟩ := x
        obtain ⟨s6, f1, f2, f3, f4, f5, f6⟩ := hpi
        rw [ho, f1, ob2_some, if_neg (show ¬ nI 1 = 0 by decide), nadd]
        have hw6 : WT s6 13 := by
          obtain ⟨N, np, hT, _⟩ := f6
          exact hT.wt
        exact ⟨d, _, _, by omega, rfl, i + 1, _, _, _, q, rfl, hr, k5.tr f2, hw6, f3, f4, by omega, by omega, fun _ => f6⟩
    have hcall : ∀ (z : Option (Int32 × Sg)), z = (nm_ (fun (a7 : Int32) => ob2 (f_X4_takeItem 13 a7 s5) fun (v9 : Int32) (s10 : Sg) => if v9 = 0 then some (-10 - (s10 49 5), s10) else self (nI i + nI 1) s10) fun j8 => if nI i = 0 then j8 (nI 1) else j8 (nI 0)) → z = (ob2 (f_X4_takeItem 13 (nI (if i = 0 then 1 else 0)) s5) fun (v9 : Int32) (s10 : Sg) => if v9 = 0 then some (-10 - (s10 49 5), s10) else self (nI i + nI 1) s10) := by
      intro z hz
      rw [hz, nm_eq]
      by_cases y : i = 0
      · subst y
        rw [if_pos (show nI 0 = 0 from rfl), if_pos rfl]
      · rw [if_neg (show ¬ nI i = 0 from nI_ne0 (by omega) (by omega)), if_neg y]
    by_cases g0 : tK T len p = 0
    · have gi : ¬ 0 < i := fun z => ge ⟨g0, z⟩
      rw [if_pos (z4.mpr g0), if_pos (zi.mpr gi)]
      exact fin _ (hcall _ rfl)
    · rw [if_neg (fun z => g0 (z4.mp z))]
      exact fin _ (hcall _ rfl)
end READ
