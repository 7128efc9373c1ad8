/-! ROUND: walks; the class's way -/
def cA (N : Nat → Int32) (i : Nat) : Nat := (N (5 + 4 * i)).toNatClampNeg
def cB (N : Nat → Int32) (i : Nat) : Nat := (N (5 + 4 * i + 1)).toNatClampNeg
def cL (N : Nat → Int32) (i : Nat) : Nat := (N (5 + 4 * i + 2)).toNatClampNeg
/-- a street may be walked from p to q -/
def AR (N : Nat → Int32) (ns i p q : Nat) : Prop := i < ns ∧ ((p = cA N i ∧ q = cB N i) ∨ (p = cB N i ∧ q = cA N i))
/-- a walk from x to a corner, along the streets of a set, of a length -/
def WK (N : Nat → Int32) (ns x c S L : Nat) : Prop := ∀ P : Nat → Nat → Nat → Prop, P x 0 0 → (∀ p q S L i, AR N ns i p q → P p S L → P q (S ||| 2 ^ i) (L + cL N i)) → P c S L
/-- a set in a set -/
def SB (S T : Nat) : Prop := ∀ b, S.testBit b = true → T.testBit b = true
theorem SB.rf (S : Nat) : SB S S := fun _ h => h
theorem SB.tr {S T U : Nat} (h : SB S T) (h' : SB T U) : SB S U := fun b q => h' b (h b q)
theorem SB.or {S T : Nat} (h : SB S T) (u : Nat) : SB (S ||| u) (T ||| u) := by
  intro b q
  rw [Nat.testBit_or] at q ⊢
  cases hS : S.testBit b with
  | true => rw [h b hS, Bool.true_or]
  | false => rw [hS, Bool.false_or] at q; rw [q, Bool.or_true]
theorem SB.l (S u : Nat) : SB S (S ||| u) := by
  intro b q
  rw [Nat.testBit_or, q, Bool.true_or]
theorem SB.z (S : Nat) : SB 0 S := by
  intro b q
  rw [Nat.zero_testBit] at q
  cases q
section WALK
variable {N : Nat → Int32} {ns ne nr np x : Nat}
theorem WK.nil : WK N ns x x 0 0 := fun _ h _ => h
theorem WK.step {p q S L i : Nat} (h : WK N ns x p S L) (a : AR N ns i p q) : WK N ns x q (S ||| 2 ^ i) (L + cL N i) := fun P h0 h1 => h1 _ _ _ _ _ a (h P h0 h1)
theorem WK.ind {c S L : Nat} (P : Nat → Nat → Nat → Prop) (h : WK N ns x c S L) (h0 : P x 0 0) (h1 : ∀ p q S L i, AR N ns i p q → WK N ns x p S L → P p S L → P q (S ||| 2 ^ i) (L + cL N i)) : P c S L :=
  (h (fun c S L => WK N ns x c S L ∧ P c S L) ⟨WK.nil, h0⟩ (fun p q S L i a z => ⟨z.1.step a, h1 p q S L i a z.1 z.2⟩)).2
theorem rng.cl {y : Int32} {n : Nat} (h : rng y n) (hn : n < 2147483648) : y = nI y.toNatClampNeg ∧ y.toNatClampNeg < n := by
  obtain ⟨k, hk, rfl⟩ := h
  rw [nIc (by omega)]
  exact ⟨rfl, hk⟩
theorem VN.co (hV : VN N ns ne nr np) {i : Nat} (hi : i < ns) : N (5 + 4 * i) = nI (cA N i) ∧ cA N i < 8 ∧ N (5 + 4 * i + 1) = nI (cB N i) ∧ cB N i < 8 ∧ N (5 + 4 * i + 2) = nI (cL N i) ∧ cL N i < 10 := by
  obtain ⟨a1, a2, _, ⟨k, _, k2, k3⟩, _⟩ := hV.2.2.2.1 i hi
  obtain ⟨b1, b2⟩ := a1.cl (by decide)
  obtain ⟨b3, b4⟩ := a2.cl (by decide)
  obtain ⟨b5, b6⟩ := rng.cl (n := 10) ⟨k, k2, k3⟩ (by decide)
  exact ⟨b1, b2, b3, b4, b5, b6⟩
theorem VN.ar (hV : VN N ns ne nr np) {i p q : Nat} (a : AR N ns i p q) : p < 8 ∧ q < 8 ∧ cL N i < 10 ∧ i < 7 := by
  obtain ⟨hi, h⟩ := a
  obtain ⟨_, b2, _, b4, _, b6⟩ := hV.co hi
  have := hV.2.1.1
  rcases h with ⟨rfl, rfl⟩ | ⟨rfl, rfl⟩
  · exact ⟨b2, b4, b6, by omega⟩
  · exact ⟨b4, b2, b6, by omega⟩
theorem or_128 {S i : Nat} (h : S < 128) (hi : i < 7) : S ||| 2 ^ i < 128 := Nat.or_lt_two_pow (n := 7) h (Nat.pow_lt_pow_right (by decide) hi)
theorem VN.wk (hV : VN N ns ne nr np) (hx : x < 8) {c S L : Nat} (h : WK N ns x c S L) : c < 8 ∧ S < 128 :=
  h.ind (fun c S _ => c < 8 ∧ S < 128) ⟨hx, by decide⟩ (fun p q S L i a _ z => ⟨(hV.ar a).2.1, or_128 z.2 (hV.ar a).2.2.2⟩)
/-- the least length of all walks along a set -/
def SHT (N : Nat → Int32) (ns x T V : Nat) : Prop := V ≤ 1000000 ∧ (V = 1000000 ∨ ∃ c S, SB T S ∧ WK N ns x c S V) ∧ ∀ c S L, WK N ns x c S L → SB T S → V ≤ L
theorem SHT.one {T V W : Nat} (h : SHT N ns x T V) (h' : SHT N ns x T W) : V = W := by
  obtain ⟨a1, a2, a3⟩ := h
  obtain ⟨b1, b2, b3⟩ := h'
  have h1 : V ≤ W := by
    rcases b2 with e | ⟨c, S, e1, e2⟩
    · omega
    · exact a3 c S W e2 e1
  have h2 : W ≤ V := by
    rcases a2 with e | ⟨c, S, e1, e2⟩
    · omega
    · exact b3 c S V e2 e1
  omega
/-- any walk to c goes on to d, by a length -/
def EXT (N : Nat → Int32) (ns x c d v : Nat) : Prop := ∀ S L, WK N ns x c S L → ∃ S2, SB S S2 ∧ WK N ns x d S2 (L + v)
theorem EXT.z (c : Nat) : EXT N ns x c c 0 := fun S L h => ⟨S, SB.rf S, h⟩
theorem EXT.ar {i p q : Nat} (a : AR N ns i p q) : EXT N ns x p q (cL N i) := fun S L h => ⟨S ||| 2 ^ i, SB.l _ _, h.step a⟩
theorem EXT.tr {c d e v w : Nat} (h : EXT N ns x c d v) (h' : EXT N ns x d e w) : EXT N ns x c e (v + w) := by
  intro S L z
  obtain ⟨S2, a1, a2⟩ := h S L z
  obtain ⟨S3, b1, b2⟩ := h' S2 _ a2
  exact ⟨S3, a1.tr b1, by rw [← Nat.add_assoc]; exact b2⟩
def updN (m : Nat → Nat) (k v : Nat) : Nat → Nat := fun i => if i = k then v else m i
theorem updN_s (m : Nat → Nat) (k v : Nat) : updN m k v k = v := if_pos rfl
theorem updN_n (m : Nat → Nat) {k i : Nat} (v : Nat) (h : i ≠ k) : updN m k v i = m i := if_neg h
/-- distances -/
def DM (N : Nat → Int32) (ns x : Nat) (m : Nat → Nat) : Prop := (∀ c d, c < 8 → d < 8 → m (8 * c + d) ≤ 1000000) ∧ (∀ c, c < 8 → m (8 * c + c) = 0) ∧ ∀ c d, c < 8 → d < 8 → m (8 * c + d) = 1000000 ∨ EXT N ns x c d (m (8 * c + d))
def DA (N : Nat → Int32) (ns : Nat) (m : Nat → Nat) (n : Nat) : Prop := ∀ i p q, i < n → AR N ns i p q → m (8 * p + q) ≤ cL N i
def TI (m : Nat → Nat) (n : Nat) : Prop := ∀ l, l < n → ∀ c d, c < 8 → d < 8 → m (8 * c + d) ≤ m (8 * c + l) + m (8 * l + d)
theorem DM.upd {m : Nat → Nat} (h : DM N ns x m) {p q v : Nat} (hp : p < 8) (hq : q < 8) (hv : 1000000 ≤ v ∨ EXT N ns x p q v) : DM N ns x (updN m (8 * p + q) (min v (m (8 * p + q)))) := by
  obtain ⟨a1, a2, a3⟩ := h
  have b1 := a1 p q hp hq
  refine ⟨fun c d hc hd => ?_, fun c hc => ?_, fun c d hc hd => ?_⟩
  · by_cases e : 8 * c + d = 8 * p + q
    · rw [e, updN_s]; omega
    · rw [updN_n _ _ e]; exact a1 c d hc hd
  · by_cases e : 8 * c + c = 8 * p + q
    · rw [e, updN_s, ← e, a2 c hc]; omega
    · rw [updN_n _ _ e]; exact a2 c hc
  · by_cases e : 8 * c + d = 8 * p + q
    · obtain ⟨rfl, rfl⟩ : c = p ∧ d = q := by omega
      rw [updN_s]
      by_cases g : v < m (8 * c + d)
      · rw [Nat.min_eq_left (by omega)]
        rcases hv with hv | hv
        · omega
        · exact Or.inr hv
      · rw [Nat.min_eq_right (by omega)]
        exact a3 c d hc hd
    · rw [updN_n _ _ e]; exact a3 c d hc hd
theorem DA.upd {m : Nat → Nat} {n p q v : Nat} (h : DA N ns m n) : DA N ns (updN m (8 * p + q) (min v (m (8 * p + q)))) n := by
  intro i p2 q2 hi a
  have := h i p2 q2 hi a
  by_cases e : 8 * p2 + q2 = 8 * p + q
  · rw [e, updN_s, ← e]; omega
  · rw [updN_n _ _ e]; exact this
/-- a phase, t places on -/
def FWf (m : Nat → Nat) (k t : Nat) : Nat → Nat := fun p => if p < t then min (m (8 * (p / 8) + k) + m (8 * k + p % 8)) (m p) else m p
theorem FWf_in (m : Nat → Nat) (k : Nat) {t c d : Nat} (hd : d < 8) (h : 8 * c + d < t) : FWf m k t (8 * c + d) = min (m (8 * c + k) + m (8 * k + d)) (m (8 * c + d)) := by
  unfold FWf
  rw [if_pos h, show (8 * c + d) / 8 = c by omega, show (8 * c + d) % 8 = d by omega]
theorem FWf_r (m : Nat → Nat) {k t c : Nat} (hk : k < 8) (h0 : m (8 * k + k) = 0) : FWf m k t (8 * c + k) = m (8 * c + k) := by
  by_cases h : 8 * c + k < t
  · rw [FWf_in m k hk h, h0]; omega
  · unfold FWf; rw [if_neg h]
theorem FWf_c (m : Nat → Nat) {k t d : Nat} (hd : d < 8) (h0 : m (8 * k + k) = 0) : FWf m k t (8 * k + d) = m (8 * k + d) := by
  by_cases h : 8 * k + d < t
  · rw [FWf_in m k hd h, h0]; omega
  · unfold FWf; rw [if_neg h]
theorem DM.fw {m : Nat → Nat} (h : DM N ns x m) {k : Nat} (hk : k < 8) : DM N ns x (FWf m k 64) := by
  obtain ⟨a1, a2, a3⟩ := h
  refine ⟨fun c d hc hd => ?_, fun c hc => ?_, fun c d hc hd => ?_⟩
  · have := a1 c d hc hd
    rw [FWf_in m k hd (by omega)]; omega
  · have := a2 c hc
    rw [FWf_in m k hc (by omega)]; omega
  · rw [FWf_in m k hd (by omega)]
    have b1 := a1 c d hc hd
    by_cases g : m (8 * c + k) + m (8 * k + d) < m (8 * c + d)
    · rw [Nat.min_eq_left (by omega)]
      rcases a3 c k hc hk with e | e
      · omega
      rcases a3 k d hk hd with e2 | e2
      · omega
      exact Or.inr (e.tr e2)
    · rw [Nat.min_eq_right (by omega)]
      exact a3 c d hc hd
theorem DA.fw (hV : VN N ns ne nr np) {m : Nat → Nat} {n k : Nat} (h : DA N ns m n) : DA N ns (FWf m k 64) n := by
  intro i p q hi a
  have := h i p q hi a
  obtain ⟨b1, b2, _⟩ := hV.ar a
  rw [FWf_in m k b2 (by omega)]
  omega
theorem TI.fw {m : Nat → Nat} (h : DM N ns x m) {k : Nat} (hk : k < 8) (ht : TI m k) : TI (FWf m k 64) (k + 1) := by
  intro l hl c d hc hd
  have hl8 : l < 8 := by omega
  rw [FWf_in m k hd (by omega), FWf_in m k hl8 (by omega), FWf_in m k hd (by omega)]
  have z := h.2.1 k hk
  by_cases e : l = k
  · subst e
    rw [z]
    omega
  · have t1 := ht l (by omega) c d hc hd
    have t2 := ht l (by omega) k d hk hd
    have t3 := ht l (by omega) c k hc hk
    have t4 := ht l (by omega) k k hk hk
    omega
/-- the ways to corners, set by set -/
def EE (N : Nat → Int32) (ns x : Nat) (e : Nat → Nat) : Prop := ∀ S c, S < 128 → c < 8 → e (8 * S + c) ≤ 1000000 ∧ (e (8 * S + c) = 1000000 ∨ ∃ S2, SB S S2 ∧ WK N ns x c S2 (e (8 * S + c)))
theorem EE.upd {e : Nat → Nat} (h : EE N ns x e) {S q v : Nat} (hS : S < 128) (hq : q < 8) (hv : 1000000 ≤ v ∨ ∃ S2, SB S S2 ∧ WK N ns x q S2 v) : EE N ns x (updN e (8 * S + q) (min v (e (8 * S + q)))) := by
  intro S1 c h1 hc
  obtain ⟨a1, a2⟩ := h S1 c h1 hc
  by_cases g : 8 * S1 + c = 8 * S + q
  · obtain ⟨rfl, rfl⟩ : S1 = S ∧ c = q := by omega
    rw [updN_s]
    refine ⟨by omega, ?_⟩
    by_cases g2 : v < e (8 * S1 + c)
    · rw [Nat.min_eq_left (by omega)]
      rcases hv with hv | hv
      · omega
      · exact Or.inr hv
    · rw [Nat.min_eq_right (by omega)]
      exact a2
  · rw [updN_n _ _ g]
    exact ⟨a1, a2⟩
def soN (e m : Nat → Nat) (S p n : Nat) : Nat := forN (fun c v => min (e (8 * S + c) + m (8 * c + p)) v) n 1000000
theorem soN_c {e e2 m : Nat → Nat} {S p : Nat} (h : ∀ c, c < 8 → e2 (8 * S + c) = e (8 * S + c)) : soN e2 m S p 8 = soN e m S p 8 := forN_c (fun c v hc => by rw [h c hc])
theorem soN_le {e m : Nat → Nat} {S p : Nat} : ∀ n, soN e m S p n ≤ 1000000 ∧ ∀ c, c < n → soN e m S p n ≤ e (8 * S + c) + m (8 * c + p)
  | 0 => ⟨Nat.le_refl _, fun c hc => absurd hc (by omega)⟩
  | n + 1 => by
    obtain ⟨a, b⟩ := soN_le (e := e) (m := m) (S := S) (p := p) n
    unfold soN at a b ⊢
    rw [forN_s]
    refine ⟨by omega, fun c hc => ?_⟩
    by_cases g : c = n
    · subst g; omega
    · have := b c (by omega); omega
theorem soN_ex {e m : Nat → Nat} {S p : Nat} (h : EE N ns x e) (hm : DM N ns x m) (hS : S < 128) (hp : p < 8) : ∀ n, n ≤ 8 → soN e m S p n = 1000000 ∨ ∃ S2, SB S S2 ∧ WK N ns x p S2 (soN e m S p n)
  | 0, _ => Or.inl rfl
  | n + 1, hn => by
    have ih := soN_ex h hm hS hp n (by omega)
    have hb := (soN_le (e := e) (m := m) (S := S) (p := p) n).1
    have hc : soN e m S p (n + 1) = min (e (8 * S + n) + m (8 * n + p)) (soN e m S p n) := rfl
    rw [hc]
    by_cases g : e (8 * S + n) + m (8 * n + p) < soN e m S p n
    · rw [Nat.min_eq_left (by omega)]
      obtain ⟨_, a2⟩ := h S n hS (by omega)
      rcases a2 with a2 | ⟨S2, b1, b2⟩
      · omega
      rcases hm.2.2 n p (by omega) hp with a3 | a3
      · omega
      obtain ⟨S3, c1, c2⟩ := a3 S2 _ b2
      exact Or.inr ⟨S3, b1.tr c1, c2⟩
    · rw [Nat.min_eq_right (by omega)]
      exact ih
/-- from sets below t all is gone on -/
def CLO (N : Nat → Int32) (ns T : Nat) (e m : Nat → Nat) (t : Nat) : Prop := ∀ S, S < t → S &&& T = S → ∀ i p q, T.testBit i = true → S.testBit i = false → AR N ns i p q → e (8 * (S ||| 2 ^ i) + q) ≤ soN e m S p 8 + cL N i
theorem and_st (S T i : Nat) : (S ||| 2 ^ i) &&& T = if T.testBit i = true then (S &&& T) ||| 2 ^ i else S &&& T := by
  apply Nat.eq_of_testBit_eq
  intro b
  by_cases h : T.testBit i = true
  · rw [if_pos h, Nat.testBit_and, Nat.testBit_or, Nat.testBit_or, Nat.testBit_and, Nat.testBit_two_pow]
    by_cases e : i = b
    · subst e; rw [h]; simp
    · simp [e]
  · rw [if_neg h, Nat.testBit_and, Nat.testBit_or, Nat.testBit_and, Nat.testBit_two_pow]
    by_cases e : i = b
    · subst e; rw [Bool.eq_false_iff.mpr h]; simp
    · simp [e]
theorem or_in {S i : Nat} (h : S.testBit i = true) : S ||| 2 ^ i = S := by
  apply Nat.eq_of_testBit_eq
  intro b
  rw [Nat.testBit_or, Nat.testBit_two_pow]
  by_cases e : i = b
  · subst e; rw [h]; simp
  · simp [e]
theorem and_id (S T : Nat) : (S &&& T) &&& T = S &&& T := by rw [Nat.and_assoc, Nat.and_self]
theorem SB.and {S T : Nat} (h : SB T S) : S &&& T = T := by
  apply Nat.eq_of_testBit_eq
  intro b
  rw [Nat.testBit_and]
  cases hT : T.testBit b with
  | true => rw [h b hT, Bool.true_and]
  | false => rw [Bool.and_false]
theorem CLO.low (hV : VN N ns ne nr np) {T : Nat} {e m : Nat → Nat} (hx : x < 8) (hm : DM N ns x m) (ha : DA N ns m ns) (ht : TI m 8) (h0 : e x = 0) (hc : CLO N ns T e m T) {c S L : Nat} (h : WK N ns x c S L) : soN e m (S &&& T) c 8 ≤ L := by
  refine h.ind (fun c S L => soN e m (S &&& T) c 8 ≤ L) ?_ ?_
  · have := (soN_le (e := e) (m := m) (S := 0 &&& T) (p := x) 8).2 x hx
    rw [Nat.zero_and, Nat.mul_zero, Nat.zero_add, h0, hm.2.1 x hx] at this
    rw [Nat.zero_and]
    omega
  · intro p q S L i a hw ih
    obtain ⟨b1, b2, b3, b4⟩ := hV.ar a
    have hS := (hV.wk hx hw).2
    have stay : soN e m (S &&& T) q 8 ≤ L + cL N i := by
      have key : ∀ n, n ≤ 8 → soN e m (S &&& T) q n ≤ soN e m (S &&& T) p n + cL N i := by
        intro n
        induction n with
        | zero => intro _; exact Nat.le_add_right _ _
        | succ n ihn =>
          intro hn
          have := ihn (by omega)
          have t1 := ht p b1 n q (by omega) b2
          have t2 := ha i p q a.1 a
          have e1 : soN e m (S &&& T) q (n + 1) = min (e (8 * (S &&& T) + n) + m (8 * n + q)) (soN e m (S &&& T) q n) := rfl
          have e2 : soN e m (S &&& T) p (n + 1) = min (e (8 * (S &&& T) + n) + m (8 * n + p)) (soN e m (S &&& T) p n) := rfl
          rw [e1, e2]
          omega
      have := key 8 (by omega)
      omega
    show soN e m ((S ||| 2 ^ i) &&& T) q 8 ≤ L + cL N i
    rw [and_st]
    by_cases g : T.testBit i = true
    · rw [if_pos g]
      by_cases g2 : (S &&& T).testBit i = true
      · rw [or_in g2]; exact stay
      · have g3 : (S &&& T).testBit i = false := Bool.eq_false_iff.mpr g2
        have lt : S &&& T < T := by
          have h1 : S &&& T ≤ T := Nat.and_le_right
          have h2 : S &&& T ≠ T := fun z => by rw [z] at g3; rw [g3] at g; cases g
          omega
        have k1 := hc (S &&& T) lt (and_id S T) i p q g g3 a
        have k2 := (soN_le (e := e) (m := m) (S := (S &&& T) ||| 2 ^ i) (p := q) 8).2 q b2
        rw [hm.2.1 q b2] at k2
        omega
    · rw [if_neg g]; exact stay
def loN (e : Nat → Nat) (T n : Nat) : Nat := forN (fun c v => min (e (8 * T + c)) v) n 1000000
theorem loN_le {e : Nat → Nat} {T : Nat} : ∀ n, loN e T n ≤ 1000000 ∧ (∀ c, c < n → loN e T n ≤ e (8 * T + c)) ∧ (loN e T n = 1000000 ∨ ∃ c, c < n ∧ loN e T n = e (8 * T + c))
  | 0 => ⟨Nat.le_refl _, fun c hc => absurd hc (by omega), Or.inl rfl⟩
  | n + 1 => by
    obtain ⟨a, b, c⟩ := loN_le (e := e) (T := T) n
    have hc : loN e T (n + 1) = min (e (8 * T + n)) (loN e T n) := rfl
    rw [hc]
    refine ⟨by omega, fun d hd => ?_, ?_⟩
    · by_cases g : d = n
      · subst g; omega
      · have := b d (by omega); omega
    · by_cases g : e (8 * T + n) < loN e T n
      · exact Or.inr ⟨n, by omega, by omega⟩
      · rw [Nat.min_eq_right (by omega)]
        rcases c with c | ⟨d, c1, c2⟩
        · exact Or.inl c
        · exact Or.inr ⟨d, by omega, c2⟩
theorem loN_sht (hV : VN N ns ne nr np) {T : Nat} {e m : Nat → Nat} (hx : x < 8) (hT : T < 128) (hm : DM N ns x m) (ha : DA N ns m ns) (ht : TI m 8) (he : EE N ns x e) (h0 : e x = 0) (hc : CLO N ns T e m T) : SHT N ns x T (loN e T 8) := by
  obtain ⟨a, b, c⟩ := loN_le (e := e) (T := T) 8
  refine ⟨a, ?_, fun d S L hw hs => ?_⟩
  · rcases c with c | ⟨d, c1, c2⟩
    · exact Or.inl c
    · rcases (he T d hT c1).2 with f | ⟨S2, f1, f2⟩
      · exact Or.inl (c2.trans f)
      · exact Or.inr ⟨d, S2, f1, by rw [c2]; exact f2⟩
  · have k := CLO.low hV hx hm ha ht h0 hc hw
    rw [hs.and] at k
    have low : ∀ n, n ≤ 8 → loN e T n ≤ soN e m T d n := by
      intro n
      induction n with
      | zero => intro _; exact Nat.le_refl _
      | succ n ihn =>
        intro hn
        have := ihn (by omega)
        have e1 : loN e T (n + 1) = min (e (8 * T + n)) (loN e T n) := rfl
        have e2 : soN e m T d (n + 1) = min (e (8 * T + n) + m (8 * n + d)) (soN e m T d n) := rfl
        rw [e1, e2]
        omega
    have := low 8 (by omega)
    omega
end WALK
