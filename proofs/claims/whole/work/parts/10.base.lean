/-! PLAIN FACTS: no machine from here on -/
theorem nm_eq {α γ : Type} (x : α) (k : α → γ) : nm_ x k = k x := rfl
theorem ob2_some {α β γ : Type} (a : α) (b : β) (k : α → β → Option γ) : ob2 (some (a, b)) k = k a b := rfl
theorem ob_s {α β : Type} (a : α) (k : α → Option β) : (some a).bind k = k a := rfl
theorem iL (n : Nat) : (OfNat.ofNat n : Int32) = nI n := rfl
def bi (p : Prop) [Decidable p] : Int32 := if p then nI 1 else nI 0
theorem bi_t {p : Prop} [Decidable p] (h : p) : bi p = nI 1 := if_pos h
theorem bi_f {p : Prop} [Decidable p] (h : ¬ p) : bi p = nI 0 := if_neg h
theorem bi_and {p : Prop} [Decidable p] : bi p &&& 1 = bi p := by
  by_cases h : p
  · rw [bi_t h]; rfl
  · rw [bi_f h]; rfl
theorem bi_c {p q : Prop} [Decidable p] [Decidable q] (h : p ↔ q) : bi p = bi q := by
  by_cases hp : p
  · rw [bi_t hp, bi_t (h.mp hp)]
  · rw [bi_f hp, bi_f (fun x => hp (h.mpr x))]
theorem upd_s (f : Nat → Int32) (k : Nat) (v : Int32) : upd f k v k = v := by simp [upd]
theorem upd_n (f : Nat → Int32) {k j : Nat} (v : Int32) (h : j ≠ k) : upd f k v j = f j := by simp [upd, h]
theorem setc_s (σ : Sg) (c : Nat) (f : Nat → Int32) : setc σ c f c = f := if_pos rfl
theorem setc_n (σ : Sg) {c d : Nat} (f : Nat → Int32) (h : d ≠ c) : setc σ c f d = σ d := if_neg h
theorem sts_c (σ : Sg) (c k : Nat) (v : Int32) : sts σ c k v c = upd (σ c) k v := if_pos rfl
theorem sts_n (σ : Sg) {c d : Nat} (k : Nat) (v : Int32) (h : d ≠ c) : sts σ c k v d = σ d := if_neg h
theorem sts_s (σ : Sg) (c k : Nat) (v : Int32) : sts σ c k v c k = v := by rw [sts_c, upd_s]
theorem sts_j (σ : Sg) (c : Nat) {k j : Nat} (v : Int32) (h : j ≠ k) : sts σ c k v c j = σ c j := by rw [sts_c, upd_n _ _ h]
theorem sts_o (σ : Sg) {c d : Nat} (k j : Nat) (v : Int32) (h : d ≠ c) : sts σ c k v d j = σ d j := by rw [sts_n _ _ _ h]
theorem nIc {k : Nat} (h : k < 2147483648) : (nI k).toNatClampNeg = k := nI_clamp h
theorem ag (σ : Sg) (c : Nat) {k : Nat} (h : k < alen c) (h2 : k < 2147483648) : aget σ c (nI k) = some (σ c k) := by
  unfold aget
  rw [if_neg (nI_in (N := alen c) h ?_), nIc h2]
  rcases Nat.lt_or_ge (alen c) (2 ^ 31) with q | q
  · exact q
  · exact absurd q (by
      have : ∀ c : Nat, alen c < 2 ^ 31 := by
        intro c
        unfold alen shof
        by_cases hc : c < shp.length
        · have : ∀ i, i < 91 → (shp.getD i (0, 0, [])).2.1 < 2 ^ 31 := by decide +kernel
          exact this c hc
        · rw [List.getD_eq_getElem?_getD, List.getElem?_eq_none (by omega)]
          decide
      have := this c
      omega)
theorem alen_lt (c : Nat) : alen c < 2000 := by
  unfold alen shof
  by_cases hc : c < shp.length
  · have : ∀ i, i < 91 → (shp.getD i (0, 0, [])).2.1 < 2000 := by decide +kernel
    exact this c hc
  · rw [List.getD_eq_getElem?_getD, List.getElem?_eq_none (by omega)]
    decide
theorem ax {c : Nat} {i : Int32} (h : i < 0 ∨ alen c ≤ i.toNatClampNeg → False) : ¬ (i < 0 ∨ alen c ≤ i.toNatClampNeg) := h
theorem as (σ : Sg) (c : Nat) {k : Nat} (v : Int32) (h : k < alen c) : aset σ c (nI k) v = some (sts σ c k v) := by
  have := alen_lt c
  unfold aset
  rw [if_neg (nI_in h (by omega)), nIc (by omega)]
theorem zs (σ : Sg) (c : Nat) {k : Nat} (v : Int32) (h : k < alen c) : zset σ c (nI k) v = some (sts σ c k (vp_nar .boolean v)) := by
  have := alen_lt c
  unfold zset
  rw [if_neg (nI_in h (by omega)), nIc (by omega)]
theorem tg (t : Nat) {k : Nat} (h : k < (tabL t).length) (h2 : (tabL t).length < 2147483648) : tget t (nI k) = some ((tabL t).getD k 0) := by
  unfold tget
  rw [if_neg (nI_in h (by omega)), nIc (by omega)]
theorem ac (σ : Sg) (c c2 : Nat) {a b n : Nat} (h1 : a + n ≤ alen c) (h2 : b + n ≤ alen c2) : acpy σ c (nI a) c2 (nI b) (nI n) = some (setc σ c2 (va_cpy (σ c) (σ c2) a b n)) := by
  have := alen_lt c
  have := alen_lt c2
  unfold acpy
  rw [nIc (by omega), nIc (by omega), nIc (by omega), if_neg]
  rintro (h | h | h | h | h)
  · exact nI_pos (by omega) h
  · exact nI_pos (by omega) h
  · exact nI_pos (by omega) h
  · omega
  · omega
/-- a number below a bound -/
def rng (x : Int32) (n : Nat) : Prop := ∃ k, k < n ∧ x = nI k
theorem rng.mk {k n : Nat} (h : k < n) : rng (nI k) n := ⟨k, h, rfl⟩
theorem rng.mono {x : Int32} {n m : Nat} (h : rng x n) (hm : n ≤ m) : rng x m := by
  obtain ⟨k, hk, rfl⟩ := h
  exact ⟨k, by omega, rfl⟩
theorem nlt {a b : Nat} (ha : a < 2147483648) (hb : b < 2147483648) : (nI a < nI b) = (a < b) := propext (nI_ltI ha hb)
theorem nle {a b : Nat} (ha : a < 2147483648) (hb : b < 2147483648) : (nI a ≤ nI b) = (a ≤ b) := propext (nI_leI ha hb)
theorem neq {a b : Nat} (ha : a < 2147483648) (hb : b < 2147483648) : (nI a = nI b) = (a = b) := propext (nI_eq ha hb)
theorem nlt0 {a : Nat} (ha : a < 2147483648) : (nI a < nI 0) = False := eq_false (nI_pos ha)
theorem ifl {a b : Nat} {α : Type} (x y : α) (ha : a < 2147483648) (hb : b < 2147483648) : (if nI a < nI b then x else y) = if a < b then x else y := by
  by_cases h : a < b
  · rw [if_pos h, if_pos ((nI_ltI ha hb).mpr h)]
  · rw [if_neg h, if_neg (fun q => h ((nI_ltI ha hb).mp q))]
theorem ifle {a b : Nat} {α : Type} (x y : α) (ha : a < 2147483648) (hb : b < 2147483648) : (if nI a ≤ nI b then x else y) = if a ≤ b then x else y := by
  by_cases h : a ≤ b
  · rw [if_pos h, if_pos ((nI_leI ha hb).mpr h)]
  · rw [if_neg h, if_neg (fun q => h ((nI_leI ha hb).mp q))]
theorem ife {a b : Nat} {α : Type} (x y : α) (ha : a < 2147483648) (hb : b < 2147483648) : (if nI a = nI b then x else y) = if a = b then x else y := by
  by_cases h : a = b
  · rw [if_pos h, if_pos ((nI_eq ha hb).mpr h)]
  · rw [if_neg h, if_neg (fun q => h ((nI_eq ha hb).mp q))]
theorem bi_B {a n : Nat} (ha : a < 2147483648) (hn : n < 2147483648) : bi (0 ≤ nI a ∧ nI a < nI n) = bi (a < n) := bi_c (by rw [nI_ltI ha hn]; exact ⟨fun h => h.2, fun h => ⟨Int32.not_lt.mp (nI_pos ha), h⟩⟩)
theorem if_bi {p : Prop} [Decidable p] {α : Type} (x y : α) : (if bi p = 0 then x else y) = if p then y else x := by
  by_cases h : p
  · rw [bi_t h, if_neg (by decide), if_pos h]
  · rw [bi_f h, if_pos (show nI 0 = 0 from rfl), if_neg h]
/-- every number is a small one, or refused -/
theorem i32c (x : Int32) (n : Nat) (hn : n < 2147483648) : (∃ k, k < n ∧ x = nI k) ∨ (x < 0 ∨ nI n ≤ x) := by
  rcases pk_ix x hn with h | h | h
  · exact Or.inr (Or.inl h)
  · exact Or.inr (Or.inr h)
  · exact Or.inl h
theorem nsub {a b : Nat} (h : b ≤ a) : nI a - nI b = nI (a - b) := pk_sub h
theorem nadd (a b : Nat) : nI a + nI b = nI (a + b) := nI_add a b
theorem nmul (a b : Nat) : nI a * nI b = nI (a * b) := pk_mul a b
/-! Rows -/
theorem S_isBelow (x y : Int32) (s : Sg) : f_X7_isBelow x y s = some (bi (0 ≤ x ∧ x < y)) := by
  unfold f_X7_isBelow bi
  by_cases h1 : x < 0
  · rw [if_pos h1, if_neg (fun h => absurd h1 (Int32.not_lt.mpr h.1))]
  · by_cases h2 : y ≤ x
    · rw [if_neg h1, if_pos h2, if_neg (fun h => absurd h.2 (Int32.not_lt.mpr h2))]
    · rw [if_neg h1, if_neg h2, if_pos ⟨Int32.not_lt.mp h1, Int32.not_le.mp h2⟩]
theorem isB {a n : Nat} (ha : a < 2147483648) (hn : n < 2147483648) : (0 ≤ nI a ∧ nI a < nI n) = (a < n) := by
  rw [nlt ha hn]
  exact propext ⟨fun h => h.2, fun h => ⟨Int32.not_lt.mp (nI_pos ha), h⟩⟩
theorem S_size (o : Nat) (s : Sg) : f_X2_size o s = some (s o 2) := rfl
/-- rows of width w, n of them -/
def RW (s : Sg) (o w n : Nat) : Prop := s o 0 = nI w ∧ s o 2 = nI n
/-- what a kind of rows has room for -/
def RK (o w m : Nat) : Prop := alen (o + 1) = w * m ∧ 0 < w ∧ w ≤ 50 ∧ m ≤ 10
theorem RK.le {o w m n : Nat} (h : RK o w m) (hn : n ≤ m) : n * w ≤ m * w ∧ m * w ≤ 500 ∧ n ≤ n * w ∧ w * m = m * w := by
  obtain ⟨h1, h2, h3, h4⟩ := h
  refine ⟨Nat.mul_le_mul_right w hn, ?_, Nat.le_mul_of_pos_right n h2, Nat.mul_comm w m⟩
  calc m * w ≤ 10 * w := Nat.mul_le_mul_right w h4
    _ ≤ 10 * 50 := Nat.mul_le_mul_left 10 h3
theorem S_isFull {s : Sg} {o w n m : Nat} (h : RW s o w n) (hk : RK o w m) (hn : n ≤ m) : f_X2_isFull o s = some (bi (n = m)) := by
  obtain ⟨a1, a2, a3, a4⟩ := hk.le hn
  obtain ⟨h1, h2, h3, h4⟩ := hk
  unfold f_X2_isFull
  rw [h.1, h.2, nadd, nmul, h1, a4, ifle _ _ (by rw [Nat.succ_mul]; omega) (by omega), Nat.succ_mul]
  by_cases hnm : n = m
  · subst hnm
    rw [if_neg (by omega), bi_t rfl]
  · have : (n + 1) * w ≤ m * w := Nat.mul_le_mul_right w (by omega)
    rw [Nat.succ_mul] at this
    rw [if_pos this, bi_f hnm]
theorem S_cell {s : Sg} {o w n m i k : Nat} (h : RW s o w n) (hk : RK o w m) (hn : n ≤ m) (hi : i < n) (hk2 : k < w) : f_X2_cell o (nI i) (nI k) s = some (s (o + 1) (i * w + k)) := by
  obtain ⟨a1, a2, a3, a4⟩ := hk.le hn
  obtain ⟨h1, h2, h3, h4⟩ := hk
  have b : (i + 1) * w ≤ n * w := Nat.mul_le_mul_right w hi
  rw [Nat.succ_mul] at b
  unfold f_X2_cell
  rw [h.1, h.2, if_neg (nI_pos (by omega)), ifle _ _ (by omega) (by omega), if_neg (by omega), if_neg (nI_pos (by omega)), ifl _ _ (by omega) (by omega), if_pos hk2, nmul, nadd, ag _ _ (by rw [h1]; omega) (by omega)]
  rfl
theorem S_cell_out {s : Sg} {o w n i : Nat} (x : Int32) (h : RW s o w n) (hn : n ≤ 10) (hi : n ≤ i) (hi2 : i < 2147483648) : f_X2_cell o (nI i) x s = some (nI 0) := by
  unfold f_X2_cell
  rw [h.2, if_neg (nI_pos (by omega)), ifle _ _ (by omega) (by omega), if_pos hi]
/-- rows o, n of width w in s, have become rows F, n2 of them, in s2; all else stays -/
def RCh (s s2 : Sg) (o n2 : Nat) (F : Nat → Int32) : Prop := (∀ c, c ≠ o → c ≠ o + 1 → s2 c = s c) ∧ s2 o 0 = s o 0 ∧ s2 o 2 = nI n2 ∧ s2 (o + 1) = F
theorem RCh.w {s s2 : Sg} {o n2 w n : Nat} {F : Nat → Int32} (h : RCh s s2 o n2 F) (hr : RW s o w n) : RW s2 o w n2 := ⟨h.2.1.trans hr.1, h.2.2.1⟩
def insF (f r : Nat → Int32) (p w n : Nat) : Nat → Int32 := fun i => if i < p * w then f i else if i < p * w + w then r (i - p * w) else if i < n * w + w then f (i - w) else f i
theorem S_insert {s : Sg} {o w n m p c : Nat} (h : RW s o w n) (hk : RK o w m) (hn : n < m) (hp : p ≤ n) (hc : c ≠ o) (hc1 : c ≠ o + 1) (hcl : w ≤ alen c) : ∃ s2, f_X2_insert o (nI p) c s = some s2 ∧ RCh s s2 o (n + 1) (insF (s (o + 1)) (s c) p w n) := by
  obtain ⟨a1, a2, a3, a4⟩ := hk.le (Nat.le_of_lt hn)
  have hf := S_isFull h hk (Nat.le_of_lt hn)
  obtain ⟨h1, h2, h3, h4⟩ := hk
  have b : (n + 1) * w ≤ m * w := Nat.mul_le_mul_right w hn
  have b2 : p * w ≤ n * w := Nat.mul_le_mul_right w hp
  have b3 : (n - p) * w = n * w - p * w := Nat.sub_mul n p w
  rw [Nat.succ_mul] at b
  have hal := alen_lt c
  unfold f_X2_insert
  rw [hf, ob_s, if_bi, if_neg (by omega), if_neg (nI_pos (by omega)), h.1, h.2, ifl _ _ (by omega) (by omega), if_neg (by omega), ifle _ _ (by omega) (by omega), if_pos hcl, nm_eq, nmul, nadd, nsub hp, nmul, ac _ _ _ (by rw [h1]; omega) (by rw [h1]; omega), ob_s]
  have e0 : ∀ f : Nat → Int32, setc s (o + 1) f o = s o := fun f => setc_n _ _ (by omega)
  rw [e0, h.1, ac _ _ _ (by omega) (by rw [h1]; omega), ob_s, nm_eq]
  refine ⟨_, rfl, ?_, ?_, ?_, ?_⟩
  · intro d hd hd1
    rw [sts_n _ _ _ hd, setc_n _ _ hd1, setc_n _ _ hd1]
  · rw [sts_j _ _ _ (by decide), setc_n _ _ (by omega), e0]
  · rw [sts_s, setc_n _ _ (by omega), e0, h.2, nadd]
  · rw [sts_n _ _ _ (by omega), setc_s, setc_s, setc_n _ _ hc1]
    funext i
    unfold va_cpy insF
    by_cases q1 : i < p * w
    · rw [if_pos q1, if_neg (by omega), if_neg (by omega)]
    · rw [if_neg q1]
      by_cases q2 : i < p * w + w
      · rw [if_pos q2, if_pos ⟨by omega, by omega⟩]
        congr 1
        omega
      · rw [if_neg q2, if_neg (by omega)]
        by_cases q3 : i < n * w + w
        · rw [if_pos q3, if_pos ⟨by omega, by omega⟩]
          congr 1
          omega
        · rw [if_neg q3, if_neg (by omega)]
theorem S_add {s : Sg} {o w n m c : Nat} (h : RW s o w n) (hk : RK o w m) (hn : n < m) (hc : c ≠ o) (hc1 : c ≠ o + 1) (hcl : w ≤ alen c) : ∃ s2, f_X2_add o c s = some s2 ∧ RCh s s2 o (n + 1) (insF (s (o + 1)) (s c) n w n) := by
  obtain ⟨s2, e, r⟩ := S_insert h hk hn (Nat.le_refl n) hc hc1 hcl
  refine ⟨s2, ?_, r⟩
  unfold f_X2_add
  rw [h.2, e]
  rfl
def drpF (f : Nat → Int32) (p w n : Nat) : Nat → Int32 := fun i => if i < p * w then f i else if i < (n - 1) * w then f (i + w) else f i
theorem S_drop {s : Sg} {o w n m p : Nat} (h : RW s o w n) (hk : RK o w m) (hn : n ≤ m) (hp : p < n) : ∃ s2, f_X2_drop o (nI p) s = some s2 ∧ RCh s s2 o (n - 1) (drpF (s (o + 1)) p w n) := by
  obtain ⟨a1, a2, a3, a4⟩ := hk.le hn
  obtain ⟨h1, h2, h3, h4⟩ := hk
  have b : (p + 1) * w ≤ n * w := Nat.mul_le_mul_right w hp
  have b3 : (n - p - 1) * w = n * w - p * w - w := by rw [Nat.sub_mul, Nat.sub_mul, Nat.one_mul]
  have b4 : (n - 1) * w = n * w - w := by rw [Nat.sub_mul, Nat.one_mul]
  rw [Nat.succ_mul] at b
  unfold f_X2_drop
  rw [S_isBelow, ob_s, h.2, bi_B (by omega) (by omega), if_bi, if_pos hp, nm_eq, h.1, nmul, nadd, nsub (Nat.le_of_lt hp), nsub (by omega), nmul, ac _ _ _ (by rw [h1]; omega) (by rw [h1]; omega), ob_s, nm_eq]
  refine ⟨_, rfl, ?_, ?_, ?_, ?_⟩
  · intro d hd hd1
    rw [sts_n _ _ _ hd, setc_n _ _ hd1]
  · rw [sts_j _ _ _ (by decide), setc_n _ _ (by omega)]
  · rw [sts_s, setc_n _ _ (by omega), h.2, nsub (by omega)]
  · rw [sts_n _ _ _ (by omega), setc_s]
    funext i
    unfold va_cpy drpF
    by_cases q1 : i < p * w
    · rw [if_pos q1, if_neg (by omega)]
    · rw [if_neg q1]
      by_cases q2 : i < (n - 1) * w
      · rw [if_pos q2, if_pos ⟨by omega, by omega⟩]
        congr 1
        omega
      · rw [if_neg q2, if_neg (by omega)]
theorem S_drop_no {s : Sg} {o w n p : Nat} (h : RW s o w n) (hn : n ≤ 10) (hp : n ≤ p) (hp2 : p < 2147483648) : f_X2_drop o (nI p) s = some s := by
  unfold f_X2_drop
  rw [S_isBelow, ob_s, h.2, bi_B (by omega) (by omega), if_bi, if_neg (by omega)]
theorem S_empty (o : Nat) (s : Sg) : f_X2_empty o s = some (sts s o 2 (nI 0)) := rfl
theorem S_copy {s : Sg} {o o1 w n m : Nat} (h1 : s o 0 = nI w) (h : RW s o1 w n) (hk : RK o w m) (hk1 : RK o1 w m) (d1 : o1 ≠ o) (d2 : o1 ≠ o + 1) : ∃ s2, f_X2_copy o o1 s = some s2 ∧ RCh s s2 o n (fun i => if i < w * m then s (o1 + 1) i else s (o + 1) i) := by
  unfold f_X2_copy
  rw [h.1, h1, if_pos rfl, hk.1, hk1.1, if_pos rfl, ac _ _ _ (by rw [hk1.1]; omega) (by rw [hk.1]; omega), ob_s, nm_eq]
  refine ⟨_, rfl, ?_, ?_, ?_, ?_⟩
  · intro d hd hd1
    rw [sts_n _ _ _ hd, setc_n _ _ hd1]
  · rw [sts_j _ _ _ (by decide), setc_n _ _ (by omega)]
  · rw [sts_s, setc_n _ _ d2, h.2]
  · rw [sts_n _ _ _ (by omega), setc_s]
    funext i
    unfold va_cpy
    by_cases q : i < w * m
    · rw [if_pos q, if_pos ⟨by omega, by omega⟩]
      congr 1
      omega
    · rw [if_neg q, if_neg (by omega)]
/-! loops: what holds with d rounds to go -/
theorem lp1_po {α0 γ : Type} {B : (α0 → Option γ) → α0 → Option γ} (Post : Option γ → Prop) (P : Nat → α0 → Prop) (h : ∀ (self : α0 → Option γ) (d : Nat) (a0 : α0), P d a0 → Post (B self a0) ∨ (∃ (e : Nat) (c0 : α0), e < d ∧ B self a0 = self c0 ∧ P e c0)) : ∀ (m d : Nat) (a0 : α0), d < m → P d a0 → Post (lp1_ B m a0)
  | 0, d, a0, hd, _ => absurd hd (Nat.not_lt_zero d)
  | m + 1, d, a0, hd, hp => by
    show Post (B (lp1_ B m) a0)
    rcases h (lp1_ B m) d a0 hp with q | ⟨e, c0, he, hq, hp2⟩
    · exact q
    · rw [hq]
      exact lp1_po Post P h m e c0 (by omega) hp2
theorem lp2_po {α0 α1 γ : Type} {B : (α0 → α1 → Option γ) → α0 → α1 → Option γ} (Post : Option γ → Prop) (P : Nat → α0 → α1 → Prop) (h : ∀ (self : α0 → α1 → Option γ) (d : Nat) (a0 : α0) (a1 : α1), P d a0 a1 → Post (B self a0 a1) ∨ (∃ (e : Nat) (c0 : α0) (c1 : α1), e < d ∧ B self a0 a1 = self c0 c1 ∧ P e c0 c1)) : ∀ (m d : Nat) (a0 : α0) (a1 : α1), d < m → P d a0 a1 → Post (lp2_ B m a0 a1)
  | 0, d, a0, a1, hd, _ => absurd hd (Nat.not_lt_zero d)
  | m + 1, d, a0, a1, hd, hp => by
    show Post (B (lp2_ B m) a0 a1)
    rcases h (lp2_ B m) d a0 a1 hp with q | ⟨e, c0, c1, he, hq, hp2⟩
    · exact q
    · rw [hq]
      exact lp2_po Post P h m e c0 c1 (by omega) hp2
theorem lp3_po {α0 α1 α2 γ : Type} {B : (α0 → α1 → α2 → Option γ) → α0 → α1 → α2 → Option γ} (Post : Option γ → Prop) (P : Nat → α0 → α1 → α2 → Prop) (h : ∀ (self : α0 → α1 → α2 → Option γ) (d : Nat) (a0 : α0) (a1 : α1) (a2 : α2), P d a0 a1 a2 → Post (B self a0 a1 a2) ∨ (∃ (e : Nat) (c0 : α0) (c1 : α1) (c2 : α2), e < d ∧ B self a0 a1 a2 = self c0 c1 c2 ∧ P e c0 c1 c2)) : ∀ (m d : Nat) (a0 : α0) (a1 : α1) (a2 : α2), d < m → P d a0 a1 a2 → Post (lp3_ B m a0 a1 a2)
  | 0, d, a0, a1, a2, hd, _ => absurd hd (Nat.not_lt_zero d)
  | m + 1, d, a0, a1, a2, hd, hp => by
    show Post (B (lp3_ B m) a0 a1 a2)
    rcases h (lp3_ B m) d a0 a1 a2 hp with q | ⟨e, c0, c1, c2, he, hq, hp2⟩
    · exact q
    · rw [hq]
      exact lp3_po Post P h m e c0 c1 c2 (by omega) hp2
theorem lp4_po {α0 α1 α2 α3 γ : Type} {B : (α0 → α1 → α2 → α3 → Option γ) → α0 → α1 → α2 → α3 → Option γ} (Post : Option γ → Prop) (P : Nat → α0 → α1 → α2 → α3 → Prop) (h : ∀ (self : α0 → α1 → α2 → α3 → Option γ) (d : Nat) (a0 : α0) (a1 : α1) (a2 : α2) (a3 : α3), P d a0 a1 a2 a3 → Post (B self a0 a1 a2 a3) ∨ (∃ (e : Nat) (c0 : α0) (c1 : α1) (c2 : α2) (c3 : α3), e < d ∧ B self a0 a1 a2 a3 = self c0 c1 c2 c3 ∧ P e c0 c1 c2 c3)) : ∀ (m d : Nat) (a0 : α0) (a1 : α1) (a2 : α2) (a3 : α3), d < m → P d a0 a1 a2 a3 → Post (lp4_ B m a0 a1 a2 a3)
  | 0, d, a0, a1, a2, a3, hd, _ => absurd hd (Nat.not_lt_zero d)
  | m + 1, d, a0, a1, a2, a3, hd, hp => by
    show Post (B (lp4_ B m) a0 a1 a2 a3)
    rcases h (lp4_ B m) d a0 a1 a2 a3 hp with q | ⟨e, c0, c1, c2, c3, he, hq, hp2⟩
    · exact q
    · rw [hq]
      exact lp4_po Post P h m e c0 c1 c2 c3 (by omega) hp2
theorem fu_ge {d : Nat} (h : d < 1000000) : d < fu := Nat.lt_of_lt_of_le h (Nat.le_trans (by decide) fu_big)
def forN {α : Type} (f : Nat → α → α) : Nat → α → α
  | 0, a => a
  | n + 1, a => f n (forN f n a)
theorem forN_s {α : Type} (f : Nat → α → α) (n : Nat) (a : α) : forN f (n + 1) a = f n (forN f n a) := rfl
theorem forN_c {α : Type} {f g : Nat → α → α} : ∀ {n : Nat} {a : α}, (∀ i b, i < n → f i b = g i b) → forN f n a = forN g n a
  | 0, _, _ => rfl
  | n + 1, a, h => by rw [forN_s, forN_s, forN_c (fun i b hi => h i b (by omega)), h n _ (by omega)]
