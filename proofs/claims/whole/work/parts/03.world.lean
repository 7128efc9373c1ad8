/-! THE WORLD: cells by number; a cell: kind (0 ints, 1 booleans, 2 an object), length or class, fields (none: an int; some j: the cell j) -/
abbrev Sg : Type := Nat → Nat → Int32
abbrev ShT : Type := Nat × Nat × List (Option Nat)
def shp : List ShT := [(2, 7, [some 1, some 13, some 25, some 37, some 49, some 52, some 61, some 63, some 66, some 69, none, none, none, none]), (2, 5, [some 2, some 4, some 6, some 8, some 10, some 11, some 12, none]), (2, 2, [none, some 3, none]), (0, 28, []), (2, 2, [none, some 5, none]), (0, 48, []), (2, 2, [none, some 7, none]), (0, 18, []), (2, 2, [none, some 9, none]), (0, 400, []), (0, 16, []), (0, 50, []), (0, 6, []), (2, 5, [some 14, some 16, some 18, some 20, some 22, some 23, some 24, none]), (2, 2, [none, some 15, none]), (0, 28, []), (2, 2, [none, some 17, none]), (0, 48, []), (2, 2, [none, some 19, none]), (0, 18, []), (2, 2, [none, some 21, none]), (0, 400, []), (0, 16, []), (0, 50, []), (0, 6, []), (2, 5, [some 26, some 28, some 30, some 32, some 34, some 35, some 36, none]), (2, 2, [none, some 27, none]), (0, 28, []), (2, 2, [none, some 29, none]), (0, 48, []), (2, 2, [none, some 31, none]), (0, 18, []), (2, 2, [none, some 33, none]), (0, 400, []), (0, 16, []), (0, 50, []), (0, 6, []), (2, 5, [some 38, some 40, some 42, some 44, some 46, some 47, some 48, none]), (2, 2, [none, some 39, none]), (0, 28, []), (2, 2, [none, some 41, none]), (0, 48, []), (2, 2, [none, some 43, none]), (0, 18, []), (2, 2, [none, some 45, none]), (0, 400, []), (0, 16, []), (0, 50, []), (0, 6, []), (2, 4, [some 50, some 51, none, none, none, none]), (0, 150, []), (0, 6, []), (2, 0, [some 53, some 55, some 56, some 57, some 58, some 59, some 60, none, none, none]), (2, 2, [none, some 54, none]), (0, 60, []), (0, 6, []), (0, 7, []), (0, 7, []), (0, 7, []), (0, 7, []), (0, 7, []), (2, 1, [some 52, some 62]), (0, 168, []), (2, 3, [some 52, some 64, some 65, none, none, none]), (0, 4, []), (0, 4, []), (2, 6, [some 67, some 68]), (0, 64, []), (0, 1024, []), (0, 6, []), (2, 8, [some 71, some 72, some 73, some 74, some 75, some 76, some 77, some 78, some 79, some 80, some 81, none, some 82, some 83, some 84, none, none, none, some 85, some 86, some 87, some 88, none, none, none, none, none, some 89, some 90]), (0, 515, []), (0, 1030, []), (1, 2, []), (0, 3, []), (0, 168, []), (0, 168, []), (0, 7, []), (0, 7, []), (0, 7, []), (0, 7, []), (0, 7, []), (0, 2, []), (0, 2, []), (0, 2, []), (0, 4, []), (0, 4, []), (0, 1024, []), (0, 150, []), (0, 115, []), (0, 6, [])]
def shN : Nat := 91
def shof (c : Nat) : ShT := shp.getD c (0, 0, [])
def alen (c : Nat) : Nat := (shof c).2.1
def setc (σ : Sg) (c : Nat) (f : Nat → Int32) : Sg := fun d => if d = c then f else σ d
/-- one place of one cell is written -/
def sts (σ : Sg) (c k : Nat) (v : Int32) : Sg := setc σ c (upd (σ c) k v)
abbrev EX : Type := va_G × (Nat → Nat) × ClassId × ClassId × (Nat → Nat) × (Nat → Nat) × (Nat → Nat)
abbrev eD (E : EX) : va_G := E.1
abbrev ead (E : EX) : Nat → Nat := E.2.1
abbrev eI (E : EX) : ClassId := E.2.2.1
abbrev eZ (E : EX) : ClassId := E.2.2.2.1
abbrev etb (E : EX) : Nat → Nat := E.2.2.2.2.1
abbrev esK (E : EX) : Nat → Nat := E.2.2.2.2.2.1
abbrev esV (E : EX) : Nat → Nat := E.2.2.2.2.2.2
abbrev tysE (E : EX) : List (ClassId × FieldType) := [(eI E, .int), (eZ E, .boolean)]
def AE (E : EX) : Nat → Prop := fun q => ∃ c, c < shN ∧ q = ead E c
def DD (E : EX) : Prop := ∀ i j, i < shN → j < shN → ead E i = ead E j → i = j
def encF (ad : Nat → Nat) (f : Nat → Int32) : Nat → List (Option Nat) → List Value
  | _, [] => []
  | k, none :: r => .int (f k) :: encF ad f (k + 1) r
  | k, some j :: r => .ref (ad j) :: encF ad f (k + 1) r
def enc (E : EX) (s : ShT) (f : Nat → Int32) : va_E := match s.1 with
  | 0 => .inl (eI E, s.2.1, .inl f)
  | 1 => .inl (eZ E, s.2.1, .inl f)
  | _ => .inr (s.2.1, encF (ead E) f 0 s.2.2)
def Ws (E : EX) (σ : Sg) : va_W := (List.range shN).map (fun c => (ead E c, enc E (shof c) (σ c)))
theorem Ws_at {E : EX} {σ : Sg} {c : Nat} (h : c < shN) : (Ws E σ)[c]? = some (ead E c, enc E (shof c) (σ c)) := by
  simp only [Ws, List.getElem?_map, List.getElem?_range h, Option.map_some]
theorem Ws_len {E : EX} {σ : Sg} : (Ws E σ).length = shN := by simp only [Ws, List.length_map, List.length_range]
theorem setc_same {σ : Sg} {c : Nat} {f : Nat → Int32} : setc σ c f c = f := if_pos rfl
theorem setc_ne {σ : Sg} {c d : Nat} {f : Nat → Int32} (h : d ≠ c) : setc σ c f d = σ d := if_neg h
theorem Ws_set {E : EX} {σ : Sg} {c : Nat} {f : Nat → Int32} (h : c < shN) : (Ws E σ).set c (ead E c, enc E (shof c) f) = Ws E (setc σ c f) := by
  apply List.ext_getElem?
  intro d
  rw [List.getElem?_set]
  by_cases hd : d < shN
  · by_cases hc : c = d
    · subst hc
      rw [if_pos rfl, if_pos (by rw [Ws_len]; exact h), Ws_at h, setc_same]
    · rw [if_neg hc, Ws_at hd, Ws_at hd, setc_ne (fun e => hc e.symm)]
  · have h1 : ∀ τ : Sg, (Ws E τ)[d]? = none := fun τ => List.getElem?_eq_none (by rw [Ws_len]; omega)
    rw [h1, h1, if_neg (by omega)]
theorem encF_int {ad : Nat → Nat} {f : Nat → Int32} : ∀ {l : List (Option Nat)} {j k : Nat}, l[k]? = some none → (encF ad f j l)[k]? = some (.int (f (j + k)))
  | [], j, k, h => by simp at h
  | o :: r, j, 0, h => by
    simp at h
    subst h
    rfl
  | none :: r, j, k + 1, h => by
    have := encF_int (ad := ad) (f := f) (l := r) (j := j + 1) (k := k) (by simpa using h)
    simpa [encF, Nat.add_assoc, Nat.add_comm 1 k] using this
  | some i :: r, j, k + 1, h => by
    have := encF_int (ad := ad) (f := f) (l := r) (j := j + 1) (k := k) (by simpa using h)
    simpa [encF, Nat.add_assoc, Nat.add_comm 1 k] using this
theorem encF_ref {ad : Nat → Nat} {f : Nat → Int32} : ∀ {l : List (Option Nat)} {j k i : Nat}, l[k]? = some (some i) → (encF ad f j l)[k]? = some (.ref (ad i))
  | [], j, k, i, h => by simp at h
  | o :: r, j, 0, i, h => by
    simp at h
    subst h
    rfl
  | none :: r, j, k + 1, i, h => by
    have := encF_ref (ad := ad) (f := f) (l := r) (j := j + 1) (k := k) (i := i) (by simpa using h)
    simpa [encF] using this
  | some i' :: r, j, k + 1, i, h => by
    have := encF_ref (ad := ad) (f := f) (l := r) (j := j + 1) (k := k) (i := i) (by simpa using h)
    simpa [encF] using this
theorem encF_len {ad : Nat → Nat} {f : Nat → Int32} : ∀ {l : List (Option Nat)} {j : Nat}, (encF ad f j l).length = l.length
  | [], j => rfl
  | none :: r, j => by simp [encF, encF_len (l := r) (j := j + 1)]
  | some i :: r, j => by simp [encF, encF_len (l := r) (j := j + 1)]
theorem encF_congr {ad : Nat → Nat} {f g : Nat → Int32} : ∀ {l : List (Option Nat)} {j : Nat}, (∀ k, j ≤ k → f k = g k) → encF ad f j l = encF ad g j l
  | [], j, _ => rfl
  | none :: r, j, h => by simp only [encF]; rw [h j (Nat.le_refl j), encF_congr (l := r) (j := j + 1) (fun k hk => h k (by omega))]
  | some i :: r, j, h => by simp only [encF]; rw [encF_congr (l := r) (j := j + 1) (fun k hk => h k (by omega))]
theorem encF_set {ad : Nat → Nat} {f : Nat → Int32} {v : Int32} : ∀ {l : List (Option Nat)} {j k : Nat}, l[k]? = some none → (encF ad f j l).set k (.int v) = encF ad (upd f (j + k) v) j l
  | [], j, k, h => by simp at h
  | o :: r, j, 0, h => by
    simp at h
    subst h
    simp only [encF, List.set_cons_zero, Nat.add_zero]
    rw [encF_congr (f := upd f j v) (g := f) (j := j + 1) (fun k hk => by simp only [upd]; rw [if_neg (by omega)])]
    simp [upd]
  | none :: r, j, k + 1, h => by
    have := encF_set (ad := ad) (f := f) (v := v) (l := r) (j := j + 1) (k := k) (by simpa using h)
    simp only [encF, List.set_cons_succ]
    rw [this, show j + 1 + k = j + (k + 1) by omega]
    congr 2
    simp only [upd]
    rw [if_neg (by omega)]
  | some i :: r, j, k + 1, h => by
    have := encF_set (ad := ad) (f := f) (v := v) (l := r) (j := j + 1) (k := k) (by simpa using h)
    simp only [encF, List.set_cons_succ]
    rw [this, show j + 1 + k = j + (k + 1) by omega]
/-! what a cell is -/
def iF (ci k o : Nat) : Prop := o < shN ∧ (shof o).1 = 2 ∧ (shof o).2.1 = ci ∧ (shof o).2.2[k]? = some none
def rF (ci k o j : Nat) : Prop := o < shN ∧ (shof o).1 = 2 ∧ (shof o).2.1 = ci ∧ (shof o).2.2[k]? = some (some j)
def iO (ci o : Nat) : Prop := o < shN ∧ (shof o).1 = 2 ∧ (shof o).2.1 = ci
def iA (c : Nat) : Prop := c < shN ∧ (shof c).1 = 0
def zA (c : Nat) : Prop := c < shN ∧ (shof c).1 = 1
theorem enc_O {E : EX} {ci o : Nat} {f : Nat → Int32} (h : (shof o).1 = 2) (h2 : (shof o).2.1 = ci) : enc E (shof o) f = .inr (ci, encF (ead E) f 0 (shof o).2.2) := by
  subst h2
  unfold enc
  split
  · rename_i q; rw [h] at q; cases q
  · rename_i q; rw [h] at q; cases q
  · rfl
theorem enc_I {E : EX} {c : Nat} {f : Nat → Int32} (h : (shof c).1 = 0) : enc E (shof c) f = .inl (eI E, alen c, .inl f) := by
  unfold enc alen
  split
  · rfl
  · rename_i q; rw [h] at q; cases q
  · rename_i q1 q2; exact absurd h q1
theorem enc_Z {E : EX} {c : Nat} {f : Nat → Int32} (h : (shof c).1 = 1) : enc E (shof c) f = .inl (eZ E, alen c, .inl f) := by
  unfold enc alen
  split
  · rename_i q; rw [h] at q; cases q
  · rfl
  · rename_i q1 q2; exact absurd h q2
/-! what doesn't change: tables, texts, words of nest mates -/
def tabN (k : Nat) : String := ["NUMBERS", "LIMITS", "NEEDED", "MORE_RANK", "STANDS"].getD k ""
def tabL (k : Nat) : List Int32 := [[1, 4, 6, 2], [3, 0, 0, 0, 0, 0, 8, 8, 10, 16, 0, 0, 6, 7, 24, 10, 10, 16, 16, 100, 0, 0, 0, 0], [2, 3, 2, 4, 2, 2], [0, 0, 0, 0, 1, 2], [3, 3, 9, 3, 3, 18]].getD k []
def isNest : Cond → Bool
  | .fieldLinkNest .. => true
  | .methodLinkNest .. => true
  | _ => false
theorem isNest_warm {w : Cond} (h : isNest w = true) {s U : State} (hW : s.WarmedH U.vm) (hZ : va_Nw w s) : va_Nw w U := by
  cases w <;> first | exact va_Nw.warmF hW hZ | exact va_Nw.warmM hW hZ | (exact absurd h (by simp [isNest]))
def nestW : List Cond := tables_1.filter isNest
def strT (k : Nat) : String := ["town", "street", "event", "rent"].getD k ""
def strI (k : Nat) : Nat := [69, 75, 77, 79].getD k 0
def strLen : List Nat := [4, 6, 5, 4]
def strByt : List (List Int32) := [[116, 111, 119, 110], [115, 116, 114, 101, 101, 116], [101, 118, 101, 110, 116], [114, 101, 110, 116]]
def ST (E : EX) (U : State) (H : Heap) : Prop :=
  (∀ k, k < 5 → va_Z "LastHappened" (tabN k) "[I" (.ref (etb E k)) (AE E) U H ∧ va_T .int (etb E k) (tabL k).length (fun j => .int ((tabL k).getD j 0)) (AE E) U H) ∧
  vk_S 4 strLen strByt (esK E) (esV E) (AE E) U H ∧ (∀ k, k < 4 → vk_R "LastHappened$Text" (strI k) (strT k) (esK E k) U) ∧
  va_Z "java/lang/String" "COMPACT_STRINGS" "Z" (.int 1) (AE E) U H ∧ va_Zq "jdk/internal/util/Preconditions" "SIOOBE_FORMATTER" "Ljava/util/function/BiFunction;" (AE E) U H ∧ ∀ w ∈ nestW, va_Nw w U
theorem ST.warm {E : EX} {s U : State} {H : Heap} (hW : s.WarmedH U.vm) (h : ST E s H) : ST E U H := by
  obtain ⟨h1, h2, h3, h4, h5, h6⟩ := h
  exact ⟨fun k hk => ⟨(h1 k hk).1.moved hW.alike, (h1 k hk).2.moved hW.alike⟩, h2.moved hW.alike, fun k hk => (h3 k hk).warm hW, h4.moved hW.alike, h5.moved hW.alike, fun w hw => isNest_warm (List.mem_filter.mp hw).2 hW (h6 w hw)⟩
theorem ST.kept {E : EX} {U : State} {H H1 : Heap} (h : ST E U H) (hq : ∀ a : Nat, a < H.size → ¬ AE E a → H1[a]? = H[a]?) : ST E U H1 := by
  obtain ⟨h1, h2, h3, h4, h5, h6⟩ := h
  exact ⟨fun k hk => ⟨(h1 k hk).1.kept hq, (h1 k hk).2.kept hq⟩, h2.kept hq, h3, h4.kept hq, h5.kept hq, h6⟩
theorem isNest_tab {w : Cond} (h : isNest w = true) : w.onTables = true := by
  cases w <;> first | rfl | (exact absurd h (by simp [isNest]))
theorem ST.same {E : EX} {s U : State} {H : Heap} (hv : s.vm = U.vm) (h : ST E s H) : ST E U H := by
  obtain ⟨h1, h2, h3, h4, h5, h6⟩ := h
  have hA : s.vm.Alike U.vm := hv ▸ Vm.Alike.refl s.vm
  exact ⟨fun k hk => ⟨(h1 k hk).1.moved hA, (h1 k hk).2.moved hA⟩, h2.moved hA, fun k hk => vk_R.same hv.symm (h3 k hk), h4.moved hA, h5.moved hA, fun w hw => va_Nw.same (isNest_tab (List.mem_filter.mp hw).2) hv (h6 w hw)⟩
/-! a method's contract over the world -/
def IV (E : EX) (σ : Sg) (U : State) : Prop := va_P (eD E) vwCl (Ws E σ) U.heap ∧ va_K (eD E) vwCl (tysE E) U ∧ ST E U U.heap
theorem IV.same {E : EX} {σ : Sg} {s U : State} (hv : s.vm = U.vm) (hh : s.heap = U.heap) (h : IV E σ s) : IV E σ U := by
  obtain ⟨h1, h2, h3⟩ := h
  exact ⟨hh ▸ h1, va_K.moved (hv ▸ Vm.Alike.refl s.vm) h2, hh ▸ ST.same hv h3⟩
def rmK (k : Nat) : Room := { frames := k, cells := 0, slots := 0, locals := 40 * k }
def Gw : List Cond := lw_tbl.filter goodWord
theorem Gw_in {w : Cond} (h : w ∈ lw_tbl) (g : goodWord w = true) : w ∈ Gw := List.mem_filter.mpr ⟨h, g⟩
theorem Gw_good {ws : List Cond} (h : ∀ w ∈ ws, w ∈ Gw) : GoodIn Gw ws := fun w hw => ⟨h w hw, good_of_word (List.mem_filter.mp (h w hw)).2⟩
abbrev MT : Type := MethodName × ByteArray × Nat × Option FieldType
abbrev wsM (M : MT) : List Cond := .code M.1 M.2.1 M.2.2.1 M.2.2.2 :: Gw
def RI (l : Launch) (E : EX) (k : Nat) (M : MT) (av : List Value) (σ : Sg) (v : Int32) (τ : Sg) : Prop :=
  Met l M.1 (wsM M) (rmK k) (va_Pc av (IV E σ)) (va_Qi (fun (a : Int32) (u : Sg) => a = v ∧ u = τ) (fun u t => IV E u t) (AE E)) 0 0 (AE E)
def RLg (l : Launch) (E : EX) (k : Nat) (M : MT) (av : List Value) (σ : Sg) (v : Int64) (τ : Sg) : Prop :=
  Met l M.1 (wsM M) (rmK k) (va_Pc av (IV E σ)) (va_Ql (fun (a : Int64) (u : Sg) => a = v ∧ u = τ) (fun u t => IV E u t) (AE E)) 0 0 (AE E)
def RV (l : Launch) (E : EX) (k : Nat) (M : MT) (av : List Value) (σ : Sg) (τ : Sg) : Prop :=
  Met l M.1 (wsM M) (rmK k) (va_Pc av (IV E σ)) (va_Qv (fun (u : Sg) => u = τ) (fun u t => IV E u t) (AE E)) 0 0 (AE E)
def RR (l : Launch) (E : EX) (k : Nat) (M : MT) (av : List Value) (σ : Sg) (c : Nat) (τ : Sg) : Prop :=
  Met l M.1 (wsM M) (rmK k) (va_Pc av (IV E σ)) (va_Qr (fun (u : Sg) => u = τ) (fun u a t => a = ead E c ∧ IV E u t) (AE E)) 0 0 (AE E)
/-! the machine within one method -/
abbrev CX : Type := Program × Env × Room × State × MethodId × Array Value × List Frame × Method × Code × Nat × Nat
abbrev xP (X : CX) : Program := X.1
abbrev xe (X : CX) : Env := X.2.1
abbrev xR (X : CX) : Room := X.2.2.1
abbrev xs (X : CX) : State := X.2.2.2.1
abbrev xm (X : CX) : MethodId := X.2.2.2.2.1
abbrev xa (X : CX) : Array Value := X.2.2.2.2.2.1
abbrev xb (X : CX) : List Frame := X.2.2.2.2.2.2.1
abbrev xM (X : CX) : Method := X.2.2.2.2.2.2.2.1
abbrev xc (X : CX) : Code := X.2.2.2.2.2.2.2.2.1
abbrev xn (X : CX) : Nat := X.2.2.2.2.2.2.2.2.2.1
abbrev xo (X : CX) : Nat := X.2.2.2.2.2.2.2.2.2.2
def CxOK (_l : Launch) (E : EX) (X : CX) (cc : ByteArray) (nL : Nat) (own : String) (ret : Option FieldType) (kk : Nat) : Prop :=
  CallFix (xP X) (xm X) (xc X) cc nL (xs X) (xa X) Gw own ∧ va_K (eD E) vwCl (tysE E) (xs X) ∧ ST E (xs X) (xs X).heap ∧ DD E ∧
  (xn X ≤ (xR X).cells ∧ xo X ≤ (xR X).slots) ∧ (kk ≤ (xR X).frames ∧ 40 * kk ≤ (xR X).locals) ∧ (xM X).sig.returnType = ret ∧ (xM X).locks = false
def MW (l : Launch) (E : EX) (X : CX) (Q : State → Prop) (σ : Sg) (pc : Nat) (lv : List (Nat × Value)) (st : List Value) : Prop :=
  ∀ (H : Heap) (locs : List Loc) (ls : Array Slot), va_P (eD E) vwCl (Ws E σ) H → va_S (AE E) (xs X).heap H locs → lv_has ls (xc X).maxLocals lv →
    W (xP X) l (xe X) (xR X) (xs X) (xm X) (xa X) (xb X) (xM X) (xc X) H locs (xn X) (xo X) Q (F0 (xm X) pc ls st)
def MF {ρ : Type} (l : Launch) (E : EX) (X : CX) (Q : ρ → State → Prop) (b : Option ρ) (σ : Sg) (pc : Nat) (lv : List (Nat × Value)) (st : List Value) : Prop :=
  ∀ r, b = some r → MW l E X (Q r) σ pc lv st
def Dc (cc : ByteArray) (pc : Nat) (i : Instr) (len pc2 : Nat) : Prop := decode cc pc = .ok (i, len) ∧ pc + len = pc2
/-! locals -/
def ldel1 (i : Nat) : List (Nat × Value) → List (Nat × Value)
  | [] => []
  | (j, v) :: r => bif Nat.beq j i || (Nat.beq (j + 1) i && Nat.beq v.category 2) then ldel1 i r else (j, v) :: ldel1 i r
def ldel2 (i : Nat) : List (Nat × Value) → List (Nat × Value)
  | [] => []
  | (j, v) :: r => bif Nat.beq j i || (Nat.beq j (i + 1) || (Nat.beq (j + 1) i && Nat.beq v.category 2)) then ldel2 i r else (j, v) :: ldel2 i r
def lins (i : Nat) (v : Value) : List (Nat × Value) → List (Nat × Value)
  | [] => [(i, v)]
  | (j, w) :: r => bif Nat.ble j i then (j, w) :: lins i v r else (i, v) :: (j, w) :: r
def lset1 (i : Nat) (v : Value) (lv : List (Nat × Value)) : List (Nat × Value) := lins i v (ldel1 i lv)
def lset2 (i : Nat) (v : Value) (lv : List (Nat × Value)) : List (Nat × Value) := lins i v (ldel2 i lv)
theorem nbf {a b : Nat} (h : Nat.beq a b = false) : a ≠ b := fun e => by rw [e, Nat.beq_refl] at h; cases h
theorem lins_mem {i : Nat} {v : Value} {q : Nat × Value} : ∀ {l : List (Nat × Value)}, q ∈ lins i v l → q = (i, v) ∨ q ∈ l
  | [], h => by simp [lins] at h; exact Or.inl h
  | (j, w) :: r, h => by
    unfold lins at h
    cases hb : Nat.ble j i <;> rw [hb] at h
    · simp at h
      rcases h with h | h | h
      · exact Or.inl h
      · exact Or.inr (by simp [h])
      · exact Or.inr (by simp [h])
    · simp at h
      rcases h with h | h
      · exact Or.inr (by simp [h])
      · rcases lins_mem (l := r) h with h | h
        · exact Or.inl h
        · exact Or.inr (by simp [h])
theorem ldel1_mem {i : Nat} {q : Nat × Value} : ∀ {l : List (Nat × Value)}, q ∈ ldel1 i l → q ∈ l.filter (fun q => !(q.1 == i) && !(q.1 + 1 == i && q.2.category == 2))
  | [], h => by simp [ldel1] at h
  | (j, w) :: r, h => by
    unfold ldel1 at h
    cases hb : (Nat.beq j i || (Nat.beq (j + 1) i && Nat.beq w.category 2)) <;> rw [hb] at h
    · simp only [cond_false, List.mem_cons] at h
      rw [List.mem_filter]
      rcases h with h | h
      · subst h
        refine ⟨List.mem_cons_self, ?_⟩
        rw [Bool.or_eq_false_iff, Bool.and_eq_false_iff] at hb
        have h1 := nbf hb.1
        have h2 : ¬ j + 1 = i ∨ ¬ w.category = 2 := hb.2.elim (fun h => Or.inl (nbf h)) (fun h => Or.inr (nbf h))
        simp
        omega
      · have := List.mem_filter.mp (ldel1_mem h)
        exact ⟨List.mem_cons_of_mem _ this.1, this.2⟩
    · simp only [cond_true] at h
      have := List.mem_filter.mp (ldel1_mem h)
      exact List.mem_filter.mpr ⟨List.mem_cons_of_mem _ this.1, this.2⟩
theorem ldel2_mem {i : Nat} {q : Nat × Value} : ∀ {l : List (Nat × Value)}, q ∈ ldel2 i l → q ∈ l.filter (fun q => !(q.1 == i) && (!(q.1 == i + 1) && !(q.1 + 1 == i && q.2.category == 2)))
  | [], h => by simp [ldel2] at h
  | (j, w) :: r, h => by
    unfold ldel2 at h
    cases hb : (Nat.beq j i || (Nat.beq j (i + 1) || (Nat.beq (j + 1) i && Nat.beq w.category 2))) <;> rw [hb] at h
    · simp only [cond_false, List.mem_cons] at h
      rw [List.mem_filter]
      rcases h with h | h
      · subst h
        refine ⟨List.mem_cons_self, ?_⟩
        rw [Bool.or_eq_false_iff, Bool.or_eq_false_iff, Bool.and_eq_false_iff] at hb
        have h1 := nbf hb.1
        have h3 := nbf hb.2.1
        have h2 : ¬ j + 1 = i ∨ ¬ w.category = 2 := hb.2.2.elim (fun h => Or.inl (nbf h)) (fun h => Or.inr (nbf h))
        simp
        omega
      · have := List.mem_filter.mp (ldel2_mem h)
        exact ⟨List.mem_cons_of_mem _ this.1, this.2⟩
    · simp only [cond_true] at h
      have := List.mem_filter.mp (ldel2_mem h)
      exact List.mem_filter.mpr ⟨List.mem_cons_of_mem _ this.1, this.2⟩
theorem lv_has.of {ls : Array Slot} {n : Nat} {a b : List (Nat × Value)} (h : lv_has ls n a) (hs : ∀ q ∈ b, q ∈ a) : lv_has ls n b := ⟨h.1, h.2.1, fun q hq => h.2.2 q (hs q hq)⟩
theorem lset1_has {ls : Array Slot} {n i : Nat} {v : Value} {lv : List (Nat × Value)} (h : lv_has ls n ((i, v) :: lv.filter (fun q => !(q.1 == i) && !(q.1 + 1 == i && q.2.category == 2)))) : lv_has ls n (lset1 i v lv) :=
  h.of fun q hq => by
    rcases lins_mem hq with h | h
    · rw [h]; exact List.mem_cons_self
    · exact List.mem_cons_of_mem _ (ldel1_mem h)
theorem lset2_has {ls : Array Slot} {n i : Nat} {v : Value} {lv : List (Nat × Value)} (h : lv_has ls n ((i, v) :: lv.filter (fun q => !(q.1 == i) && (!(q.1 == i + 1) && !(q.1 + 1 == i && q.2.category == 2))))) : lv_has ls n (lset2 i v lv) :=
  h.of fun q hq => by
    rcases lins_mem hq with h | h
    · rw [h]; exact List.mem_cons_self
    · exact List.mem_cons_of_mem _ (ldel2_mem h)
/-! THE RULES -/
section MFR
variable {ρ : Type} {l : Launch} {E : EX} {X : CX} {cc : ByteArray} {nL kk : Nat} {own : String} {ret : Option FieldType} {Q : ρ → State → Prop} {b : Option ρ} {σ : Sg} {lv : List (Nat × Value)} {st : List Value}

theorem MF.iconst (C : CxOK l E X cc nL own ret kk) {n : Int} {pc pc' : Nat} (d : Dc cc pc (.iconst n) 1 pc') {v : Int32} (hv : Int32.ofInt n = v) (k : MF l E X Q b σ pc' lv (.int v :: st)) : MF l E X Q b σ pc lv (st) := by
  intro r hr H locs ls hP hS hl
  obtain ⟨d1, rfl⟩ := d
  exact lv_iconst C.1.1 C.1.2.1 d1 hv (k r hr H locs ls hP hS hl)
theorem MF.bipush (C : CxOK l E X cc nL own ret kk) {n : Int} {pc pc' : Nat} (d : Dc cc pc (.bipush n) 2 pc') {v : Int32} (hv : (Int8.ofInt n).toInt32 = v) (k : MF l E X Q b σ pc' lv (.int v :: st)) : MF l E X Q b σ pc lv (st) := by
  intro r hr H locs ls hP hS hl
  obtain ⟨d1, rfl⟩ := d
  exact lv_bipush C.1.1 C.1.2.1 d1 hv (k r hr H locs ls hP hS hl)
theorem MF.sipush (C : CxOK l E X cc nL own ret kk) {n : Int} {pc pc' : Nat} (d : Dc cc pc (.sipush n) 3 pc') {v : Int32} (hv : (Int16.ofInt n).toInt32 = v) (k : MF l E X Q b σ pc' lv (.int v :: st)) : MF l E X Q b σ pc lv (st) := by
  intro r hr H locs ls hP hS hl
  obtain ⟨d1, rfl⟩ := d
  exact lv_sipush C.1.1 C.1.2.1 d1 hv (k r hr H locs ls hP hS hl)
theorem MF.lconst (C : CxOK l E X cc nL own ret kk) {n : Fin 2} {pc pc' : Nat} (d : Dc cc pc (.lconst n) 1 pc') {v : Int64} (hv : Int64.ofNat (n : Nat) = v) (k : MF l E X Q b σ pc' lv (.long v :: st)) : MF l E X Q b σ pc lv (st) := by
  intro r hr H locs ls hP hS hl
  obtain ⟨d1, rfl⟩ := d
  exact lv_lconst C.1.1 C.1.2.1 d1 hv (k r hr H locs ls hP hS hl)
theorem MF.ldc (C : CxOK l E X cc nL own ret kk) {i : Nat} {pc pc' : Nat} (d : Dc cc pc (.ldc i) 2 pc') {v : Int32} (hv : Cond.constant own i v ∈ Gw) (k : MF l E X Q b σ pc' lv (.int v :: st)) : MF l E X Q b σ pc lv (st) := by
  intro r hr H locs ls hP hS hl
  obtain ⟨d1, rfl⟩ := d
  exact lv_ldc C.1.1 C.1.2.1 C.1.2.2.2.1 (C.1.2.2.2.2 _ hv) d1 (k r hr H locs ls hP hS hl)
theorem MF.ldcw (C : CxOK l E X cc nL own ret kk) {i : Nat} {pc pc' : Nat} (d : Dc cc pc (.ldc_w i) 3 pc') {v : Int32} (hv : Cond.constant own i v ∈ Gw) (k : MF l E X Q b σ pc' lv (.int v :: st)) : MF l E X Q b σ pc lv (st) := by
  intro r hr H locs ls hP hS hl
  obtain ⟨d1, rfl⟩ := d
  exact lv_ldcw C.1.1 C.1.2.1 C.1.2.2.2.1 (C.1.2.2.2.2 _ hv) d1 (k r hr H locs ls hP hS hl)
theorem MF.ldc2 (C : CxOK l E X cc nL own ret kk) {i : Nat} {pc pc' : Nat} (d : Dc cc pc (.ldc2_w i) 3 pc') {v : Int64} (hv : Cond.constantLong own i v ∈ Gw) (k : MF l E X Q b σ pc' lv (.long v :: st)) : MF l E X Q b σ pc lv (st) := by
  intro r hr H locs ls hP hS hl
  obtain ⟨d1, rfl⟩ := d
  exact lv_ldc2 C.1.1 C.1.2.1 C.1.2.2.2.1 (C.1.2.2.2.2 _ hv) d1 (k r hr H locs ls hP hS hl)
theorem MF.iadd (C : CxOK l E X cc nL own ret kk) {x y : Int32} {pc pc' : Nat} (d : Dc cc pc .iadd 1 pc') (k : MF l E X Q b σ pc' lv (.int (x + y) :: st)) : MF l E X Q b σ pc lv (.int y :: .int x :: st) := by
  intro r hr H locs ls hP hS hl
  obtain ⟨d1, rfl⟩ := d
  exact lv_iadd C.1.1 C.1.2.1 d1 (k r hr H locs ls hP hS hl)
theorem MF.isub (C : CxOK l E X cc nL own ret kk) {x y : Int32} {pc pc' : Nat} (d : Dc cc pc .isub 1 pc') (k : MF l E X Q b σ pc' lv (.int (x - y) :: st)) : MF l E X Q b σ pc lv (.int y :: .int x :: st) := by
  intro r hr H locs ls hP hS hl
  obtain ⟨d1, rfl⟩ := d
  exact lv_isub C.1.1 C.1.2.1 d1 (k r hr H locs ls hP hS hl)
theorem MF.imul (C : CxOK l E X cc nL own ret kk) {x y : Int32} {pc pc' : Nat} (d : Dc cc pc .imul 1 pc') (k : MF l E X Q b σ pc' lv (.int (x * y) :: st)) : MF l E X Q b σ pc lv (.int y :: .int x :: st) := by
  intro r hr H locs ls hP hS hl
  obtain ⟨d1, rfl⟩ := d
  exact lv_imul C.1.1 C.1.2.1 d1 (k r hr H locs ls hP hS hl)
theorem MF.iand (C : CxOK l E X cc nL own ret kk) {x y : Int32} {pc pc' : Nat} (d : Dc cc pc .iand 1 pc') (k : MF l E X Q b σ pc' lv (.int (x &&& y) :: st)) : MF l E X Q b σ pc lv (.int y :: .int x :: st) := by
  intro r hr H locs ls hP hS hl
  obtain ⟨d1, rfl⟩ := d
  exact lv_iand C.1.1 C.1.2.1 d1 (k r hr H locs ls hP hS hl)
theorem MF.ior (C : CxOK l E X cc nL own ret kk) {x y : Int32} {pc pc' : Nat} (d : Dc cc pc .ior 1 pc') (k : MF l E X Q b σ pc' lv (.int (x ||| y) :: st)) : MF l E X Q b σ pc lv (.int y :: .int x :: st) := by
  intro r hr H locs ls hP hS hl
  obtain ⟨d1, rfl⟩ := d
  exact lv_ior C.1.1 C.1.2.1 d1 (k r hr H locs ls hP hS hl)
theorem MF.ixor (C : CxOK l E X cc nL own ret kk) {x y : Int32} {pc pc' : Nat} (d : Dc cc pc .ixor 1 pc') (k : MF l E X Q b σ pc' lv (.int (x ^^^ y) :: st)) : MF l E X Q b σ pc lv (.int y :: .int x :: st) := by
  intro r hr H locs ls hP hS hl
  obtain ⟨d1, rfl⟩ := d
  exact lv_ixor C.1.1 C.1.2.1 d1 (k r hr H locs ls hP hS hl)
theorem MF.ishl (C : CxOK l E X cc nL own ret kk) {x y : Int32} {pc pc' : Nat} (d : Dc cc pc .ishl 1 pc') (k : MF l E X Q b σ pc' lv (.int (x <<< (y &&& 31)) :: st)) : MF l E X Q b σ pc lv (.int y :: .int x :: st) := by
  intro r hr H locs ls hP hS hl
  obtain ⟨d1, rfl⟩ := d
  exact lv_ishl C.1.1 C.1.2.1 d1 (k r hr H locs ls hP hS hl)
theorem MF.ishr (C : CxOK l E X cc nL own ret kk) {x y : Int32} {pc pc' : Nat} (d : Dc cc pc .ishr 1 pc') (k : MF l E X Q b σ pc' lv (.int (x >>> (y &&& 31)) :: st)) : MF l E X Q b σ pc lv (.int y :: .int x :: st) := by
  intro r hr H locs ls hP hS hl
  obtain ⟨d1, rfl⟩ := d
  exact lv_ishr C.1.1 C.1.2.1 d1 (k r hr H locs ls hP hS hl)
theorem MF.iushr (C : CxOK l E X cc nL own ret kk) {x y : Int32} {pc pc' : Nat} (d : Dc cc pc .iushr 1 pc') (k : MF l E X Q b σ pc' lv (.int ((x.toUInt32 >>> (y.toUInt32 &&& Int32.toUInt32 31)).toInt32) :: st)) : MF l E X Q b σ pc lv (.int y :: .int x :: st) := by
  intro r hr H locs ls hP hS hl
  obtain ⟨d1, rfl⟩ := d
  exact lv_iushr C.1.1 C.1.2.1 d1 rfl (k r hr H locs ls hP hS hl)
theorem MF.idiv (C : CxOK l E X cc nL own ret kk) {x y : Int32} {pc pc' : Nat} (d : Dc cc pc .idiv 1 pc') (h : ¬ y = 0) (k : MF l E X Q b σ pc' lv (.int (x / y) :: st)) : MF l E X Q b σ pc lv (.int y :: .int x :: st) := by
  intro r hr H locs ls hP hS hl
  obtain ⟨d1, rfl⟩ := d
  exact lv_idiv C.1.1 C.1.2.1 d1 h (k r hr H locs ls hP hS hl)
theorem MF.irem (C : CxOK l E X cc nL own ret kk) {x y : Int32} {pc pc' : Nat} (d : Dc cc pc .irem 1 pc') (h : ¬ y = 0) (k : MF l E X Q b σ pc' lv (.int (x - x / y * y) :: st)) : MF l E X Q b σ pc lv (.int y :: .int x :: st) := by
  intro r hr H locs ls hP hS hl
  obtain ⟨d1, rfl⟩ := d
  exact lv_irem C.1.1 C.1.2.1 d1 h (k r hr H locs ls hP hS hl)
theorem MF.ladd (C : CxOK l E X cc nL own ret kk) {x y : Int64} {pc pc' : Nat} (d : Dc cc pc .ladd 1 pc') (k : MF l E X Q b σ pc' lv (.long (x + y) :: st)) : MF l E X Q b σ pc lv (.long y :: .long x :: st) := by
  intro r hr H locs ls hP hS hl
  obtain ⟨d1, rfl⟩ := d
  exact lv_ladd C.1.1 C.1.2.1 d1 (k r hr H locs ls hP hS hl)
theorem MF.lmul (C : CxOK l E X cc nL own ret kk) {x y : Int64} {pc pc' : Nat} (d : Dc cc pc .lmul 1 pc') (k : MF l E X Q b σ pc' lv (.long (x * y) :: st)) : MF l E X Q b σ pc lv (.long y :: .long x :: st) := by
  intro r hr H locs ls hP hS hl
  obtain ⟨d1, rfl⟩ := d
  exact lv_lmul C.1.1 C.1.2.1 d1 (k r hr H locs ls hP hS hl)
theorem MF.ldiv (C : CxOK l E X cc nL own ret kk) {x y : Int64} {pc pc' : Nat} (d : Dc cc pc .ldiv 1 pc') (h : ¬ y = 0) (k : MF l E X Q b σ pc' lv (.long (x / y) :: st)) : MF l E X Q b σ pc lv (.long y :: .long x :: st) := by
  intro r hr H locs ls hP hS hl
  obtain ⟨d1, rfl⟩ := d
  exact lv_ldiv C.1.1 C.1.2.1 d1 h (k r hr H locs ls hP hS hl)
theorem MF.lrem (C : CxOK l E X cc nL own ret kk) {x y : Int64} {pc pc' : Nat} (d : Dc cc pc .lrem 1 pc') (h : ¬ y = 0) (k : MF l E X Q b σ pc' lv (.long (x - x / y * y) :: st)) : MF l E X Q b σ pc lv (.long y :: .long x :: st) := by
  intro r hr H locs ls hP hS hl
  obtain ⟨d1, rfl⟩ := d
  exact lv_lrem C.1.1 C.1.2.1 d1 h (k r hr H locs ls hP hS hl)
theorem MF.lcmp (C : CxOK l E X cc nL own ret kk) {x y : Int64} {pc pc' : Nat} (d : Dc cc pc .lcmp 1 pc') (k : MF l E X Q b σ pc' lv (.int (lg_cmp x y) :: st)) : MF l E X Q b σ pc lv (.long y :: .long x :: st) := by
  intro r hr H locs ls hP hS hl
  obtain ⟨d1, rfl⟩ := d
  exact W.lcmp C.1.1 C.1.2.1 d1 (k r hr H locs ls hP hS hl)
theorem MF.i2l (C : CxOK l E X cc nL own ret kk) {x : Int32} {pc pc' : Nat} (d : Dc cc pc .i2l 1 pc') (k : MF l E X Q b σ pc' lv (.long x.toInt64 :: st)) : MF l E X Q b σ pc lv (.int x :: st) := by
  intro r hr H locs ls hP hS hl
  obtain ⟨d1, rfl⟩ := d
  exact lv_i2l C.1.1 C.1.2.1 d1 rfl (k r hr H locs ls hP hS hl)
theorem MF.l2i (C : CxOK l E X cc nL own ret kk) {x : Int64} {pc pc' : Nat} (d : Dc cc pc .l2i 1 pc') (k : MF l E X Q b σ pc' lv (.int x.toInt32 :: st)) : MF l E X Q b σ pc lv (.long x :: st) := by
  intro r hr H locs ls hP hS hl
  obtain ⟨d1, rfl⟩ := d
  exact lv_l2i C.1.1 C.1.2.1 d1 rfl (k r hr H locs ls hP hS hl)
theorem MF.i2c (C : CxOK l E X cc nL own ret kk) {x : Int32} {pc pc' : Nat} (d : Dc cc pc .i2c 1 pc') (k : MF l E X Q b σ pc' lv (.int (x.toUInt32 % 65536).toInt32 :: st)) : MF l E X Q b σ pc lv (.int x :: st) := by
  intro r hr H locs ls hP hS hl
  obtain ⟨d1, rfl⟩ := d
  exact lv_i2c C.1.1 C.1.2.1 d1 rfl (k r hr H locs ls hP hS hl)
theorem MF.dup (C : CxOK l E X cc nL own ret kk) {a : Value} {pc pc' : Nat} (d : Dc cc pc .dup 1 pc') (h : a.category = 1) (k : MF l E X Q b σ pc' lv (a :: a :: st)) : MF l E X Q b σ pc lv (a :: st) := by
  intro r hr H locs ls hP hS hl
  obtain ⟨d1, rfl⟩ := d
  exact lv_dup C.1.1 C.1.2.1 d1 h (k r hr H locs ls hP hS hl)
theorem MF.pop (C : CxOK l E X cc nL own ret kk) {a : Value} {pc pc' : Nat} (d : Dc cc pc .pop 1 pc') (h : a.category = 1) (k : MF l E X Q b σ pc' lv (st)) : MF l E X Q b σ pc lv (a :: st) := by
  intro r hr H locs ls hP hS hl
  obtain ⟨d1, rfl⟩ := d
  exact lv_pop C.1.1 C.1.2.1 d1 h (k r hr H locs ls hP hS hl)
theorem MF.dup2 (C : CxOK l E X cc nL own ret kk) {a a2 : Value} {pc pc' : Nat} (d : Dc cc pc .dup2 1 pc') (h : a.category = 1) (h2 : a2.category = 1) (k : MF l E X Q b σ pc' lv (a :: a2 :: a :: a2 :: st)) : MF l E X Q b σ pc lv (a :: a2 :: st) := by
  intro r hr H locs ls hP hS hl
  obtain ⟨d1, rfl⟩ := d
  exact lv_dup2_11 C.1.1 C.1.2.1 d1 h h2 (k r hr H locs ls hP hS hl)
theorem MF.iload_n (C : CxOK l E X cc nL own ret kk) {i : Fin 4} {pc pc' : Nat} (d : Dc cc pc (.iload_n i) 1 pc') (j : Nat) {i2 : Nat} {x : Int32} (h : lv[j]? = some (i2, .int x)) (hi : (i : Nat) = i2) (k : MF l E X Q b σ pc' lv (.int x :: st)) : MF l E X Q b σ pc lv (st) := by
  intro r hr H locs ls hP hS hl
  obtain ⟨d1, rfl⟩ := d
  exact lv_iload_n C.1.1 C.1.2.1 d1 hi (lv_at hl j h) (k r hr H locs ls hP hS hl)
theorem MF.iload (C : CxOK l E X cc nL own ret kk) {i : Nat} {pc pc' : Nat} (d : Dc cc pc (.iload i) 2 pc') (j : Nat) {x : Int32} (h : lv[j]? = some (i, .int x)) (k : MF l E X Q b σ pc' lv (.int x :: st)) : MF l E X Q b σ pc lv (st) := by
  intro r hr H locs ls hP hS hl
  obtain ⟨d1, rfl⟩ := d
  exact lv_iload C.1.1 C.1.2.1 d1 (lv_at hl j h) (k r hr H locs ls hP hS hl)
theorem MF.lload_n (C : CxOK l E X cc nL own ret kk) {i : Fin 4} {pc pc' : Nat} (d : Dc cc pc (.lload_n i) 1 pc') (j : Nat) {i2 : Nat} {x : Int64} (h : lv[j]? = some (i2, .long x)) (hi : (i : Nat) = i2) (k : MF l E X Q b σ pc' lv (.long x :: st)) : MF l E X Q b σ pc lv (st) := by
  intro r hr H locs ls hP hS hl
  obtain ⟨d1, rfl⟩ := d
  exact lv_lload_n C.1.1 C.1.2.1 d1 hi (lv_at hl j h) (k r hr H locs ls hP hS hl)
theorem MF.lload (C : CxOK l E X cc nL own ret kk) {i : Nat} {pc pc' : Nat} (d : Dc cc pc (.lload i) 2 pc') (j : Nat) {x : Int64} (h : lv[j]? = some (i, .long x)) (k : MF l E X Q b σ pc' lv (.long x :: st)) : MF l E X Q b σ pc lv (st) := by
  intro r hr H locs ls hP hS hl
  obtain ⟨d1, rfl⟩ := d
  exact lv_lload C.1.1 C.1.2.1 d1 (lv_at hl j h) (k r hr H locs ls hP hS hl)
theorem MF.aload_n (C : CxOK l E X cc nL own ret kk) {i : Fin 4} {pc pc' : Nat} (d : Dc cc pc (.aload_n i) 1 pc') (j : Nat) {i2 : Nat} {x : Nat} (h : lv[j]? = some (i2, .ref x)) (hi : (i : Nat) = i2) (k : MF l E X Q b σ pc' lv (.ref x :: st)) : MF l E X Q b σ pc lv (st) := by
  intro r hr H locs ls hP hS hl
  obtain ⟨d1, rfl⟩ := d
  exact lv_aload_n C.1.1 C.1.2.1 d1 hi (lv_at hl j h) (k r hr H locs ls hP hS hl)
theorem MF.aload (C : CxOK l E X cc nL own ret kk) {i : Nat} {pc pc' : Nat} (d : Dc cc pc (.aload i) 2 pc') (j : Nat) {x : Nat} (h : lv[j]? = some (i, .ref x)) (k : MF l E X Q b σ pc' lv (.ref x :: st)) : MF l E X Q b σ pc lv (st) := by
  intro r hr H locs ls hP hS hl
  obtain ⟨d1, rfl⟩ := d
  exact lv_aload C.1.1 C.1.2.1 d1 (lv_at hl j h) (k r hr H locs ls hP hS hl)
theorem MF.istore_n (C : CxOK l E X cc nL own ret kk) {i : Fin 4} {pc pc' : Nat} {lv lv' : List (Nat × Value)} {x : Int32} (d : Dc cc pc (.istore_n i) 1 pc') (hn : (i : Nat) < nL) (h : lset1 (i : Nat) (.int x) lv = lv') (k : MF l E X Q b σ pc' lv' st) : MF l E X Q b σ pc lv (.int x :: st) := by
  intro r hr H locs ls hP hS hl
  obtain ⟨d1, rfl⟩ := d
  subst h
  have hl2 : lv_has ls nL lv := by rw [← C.1.2.2.1]; exact hl
  exact lv_istore_n C.1.1 C.1.2.1 d1 rfl hl2 hn rfl (fun ls' hl' => k r hr H locs ls' hP hS (by rw [C.1.2.2.1]; exact lset1_has hl'))
theorem MF.istore (C : CxOK l E X cc nL own ret kk) {i : Nat} {pc pc' : Nat} {lv lv' : List (Nat × Value)} {x : Int32} (d : Dc cc pc (.istore i) 2 pc') (hn : (i : Nat) < nL) (h : lset1 (i : Nat) (.int x) lv = lv') (k : MF l E X Q b σ pc' lv' st) : MF l E X Q b σ pc lv (.int x :: st) := by
  intro r hr H locs ls hP hS hl
  obtain ⟨d1, rfl⟩ := d
  subst h
  have hl2 : lv_has ls nL lv := by rw [← C.1.2.2.1]; exact hl
  exact lv_istore C.1.1 C.1.2.1 d1 hl2 hn rfl (fun ls' hl' => k r hr H locs ls' hP hS (by rw [C.1.2.2.1]; exact lset1_has hl'))
theorem MF.lstore_n (C : CxOK l E X cc nL own ret kk) {i : Fin 4} {pc pc' : Nat} {lv lv' : List (Nat × Value)} {x : Int64} (d : Dc cc pc (.lstore_n i) 1 pc') (hn : (i : Nat) + 1 < nL) (h : lset2 (i : Nat) (.long x) lv = lv') (k : MF l E X Q b σ pc' lv' st) : MF l E X Q b σ pc lv (.long x :: st) := by
  intro r hr H locs ls hP hS hl
  obtain ⟨d1, rfl⟩ := d
  subst h
  have hl2 : lv_has ls nL lv := by rw [← C.1.2.2.1]; exact hl
  exact lv_lstore_n C.1.1 C.1.2.1 d1 rfl hl2 hn rfl (fun ls' hl' => k r hr H locs ls' hP hS (by rw [C.1.2.2.1]; exact lset2_has hl'))
theorem MF.lstore (C : CxOK l E X cc nL own ret kk) {i : Nat} {pc pc' : Nat} {lv lv' : List (Nat × Value)} {x : Int64} (d : Dc cc pc (.lstore i) 2 pc') (hn : (i : Nat) + 1 < nL) (h : lset2 (i : Nat) (.long x) lv = lv') (k : MF l E X Q b σ pc' lv' st) : MF l E X Q b σ pc lv (.long x :: st) := by
  intro r hr H locs ls hP hS hl
  obtain ⟨d1, rfl⟩ := d
  subst h
  have hl2 : lv_has ls nL lv := by rw [← C.1.2.2.1]; exact hl
  exact lv_lstore C.1.1 C.1.2.1 d1 hl2 hn rfl (fun ls' hl' => k r hr H locs ls' hP hS (by rw [C.1.2.2.1]; exact lset2_has hl'))
theorem MF.astore_n (C : CxOK l E X cc nL own ret kk) {i : Fin 4} {pc pc' : Nat} {lv lv' : List (Nat × Value)} {x : Nat} (d : Dc cc pc (.astore_n i) 1 pc') (hn : (i : Nat) < nL) (h : lset1 (i : Nat) (.ref x) lv = lv') (k : MF l E X Q b σ pc' lv' st) : MF l E X Q b σ pc lv (.ref x :: st) := by
  intro r hr H locs ls hP hS hl
  obtain ⟨d1, rfl⟩ := d
  subst h
  have hl2 : lv_has ls nL lv := by rw [← C.1.2.2.1]; exact hl
  exact lv_astore_n C.1.1 C.1.2.1 d1 rfl hl2 hn rfl (fun ls' hl' => k r hr H locs ls' hP hS (by rw [C.1.2.2.1]; exact lset1_has hl'))
theorem MF.astore (C : CxOK l E X cc nL own ret kk) {i : Nat} {pc pc' : Nat} {lv lv' : List (Nat × Value)} {x : Nat} (d : Dc cc pc (.astore i) 2 pc') (hn : (i : Nat) < nL) (h : lset1 (i : Nat) (.ref x) lv = lv') (k : MF l E X Q b σ pc' lv' st) : MF l E X Q b σ pc lv (.ref x :: st) := by
  intro r hr H locs ls hP hS hl
  obtain ⟨d1, rfl⟩ := d
  subst h
  have hl2 : lv_has ls nL lv := by rw [← C.1.2.2.1]; exact hl
  exact lv_astore C.1.1 C.1.2.1 d1 hl2 hn rfl (fun ls' hl' => k r hr H locs ls' hP hS (by rw [C.1.2.2.1]; exact lset1_has hl'))
theorem MF.iinc (C : CxOK l E X cc nL own ret kk) {i : Nat} {n : Int} {pc pc' : Nat} {lv lv' : List (Nat × Value)} {x v : Int32} (d : Dc cc pc (.iinc i n) 3 pc') (j : Nat) (hj : lv[j]? = some (i, .int x)) (hv : Int32.ofInt n = v) (hn : i < nL) (h : lset1 i (.int (x + v)) lv = lv') (k : MF l E X Q b σ pc' lv' st) : MF l E X Q b σ pc lv st := by
  intro r hr H locs ls hP hS hl
  obtain ⟨d1, rfl⟩ := d
  subst h; subst hv
  have hl2 : lv_has ls nL lv := by rw [← C.1.2.2.1]; exact hl
  exact lv_iinc C.1.1 C.1.2.1 d1 hl2 hj rfl hn rfl (fun ls' hl' => k r hr H locs ls' hP hS (by rw [C.1.2.2.1]; exact lset1_has hl'))
theorem MF.if_eq (C : CxOK l E X cc nL own ret kk) {x : Int32} {off : Int} {pc pc' tgt : Nat} {bt bf : Option ρ} (d : Dc cc pc (.ifCond .eq off) 3 pc') (ht : (pc : Int) + off = (tgt : Int)) (kt : x = 0 → MF l E X Q bt σ tgt lv st) (kf : ¬ x = 0 → MF l E X Q bf σ pc' lv st) : MF l E X Q (if x = 0 then bt else bf) σ pc lv (.int x :: st) := by
  intro r hr H locs ls hP hS hl
  obtain ⟨d1, rfl⟩ := d
  exact lv_if_eq C.1.1 C.1.2.1 d1 ht (fun h => kt h r (by rw [if_pos h] at hr; exact hr) H locs ls hP hS hl) (fun h => kf h r (by rw [if_neg h] at hr; exact hr) H locs ls hP hS hl)
theorem MF.if_ne (C : CxOK l E X cc nL own ret kk) {x : Int32} {off : Int} {pc pc' tgt : Nat} {bt bf : Option ρ} (d : Dc cc pc (.ifCond .ne off) 3 pc') (ht : (pc : Int) + off = (tgt : Int)) (kt : ¬ x = 0 → MF l E X Q bf σ tgt lv st) (kf : x = 0 → MF l E X Q bt σ pc' lv st) : MF l E X Q (if x = 0 then bt else bf) σ pc lv (.int x :: st) := by
  intro r hr H locs ls hP hS hl
  obtain ⟨d1, rfl⟩ := d
  exact lv_if_ne C.1.1 C.1.2.1 d1 ht (fun h => kt h r (by rw [if_neg h] at hr; exact hr) H locs ls hP hS hl) (fun h => kf h r (by rw [if_pos h] at hr; exact hr) H locs ls hP hS hl)
theorem MF.if_lt (C : CxOK l E X cc nL own ret kk) {x : Int32} {off : Int} {pc pc' tgt : Nat} {bt bf : Option ρ} (d : Dc cc pc (.ifCond .lt off) 3 pc') (ht : (pc : Int) + off = (tgt : Int)) (kt : x < 0 → MF l E X Q bt σ tgt lv st) (kf : ¬ x < 0 → MF l E X Q bf σ pc' lv st) : MF l E X Q (if x < 0 then bt else bf) σ pc lv (.int x :: st) := by
  intro r hr H locs ls hP hS hl
  obtain ⟨d1, rfl⟩ := d
  exact lv_if_lt C.1.1 C.1.2.1 d1 ht (fun h => kt h r (by rw [if_pos h] at hr; exact hr) H locs ls hP hS hl) (fun h => kf h r (by rw [if_neg h] at hr; exact hr) H locs ls hP hS hl)
theorem MF.if_ge (C : CxOK l E X cc nL own ret kk) {x : Int32} {off : Int} {pc pc' tgt : Nat} {bt bf : Option ρ} (d : Dc cc pc (.ifCond .ge off) 3 pc') (ht : (pc : Int) + off = (tgt : Int)) (kt : 0 ≤ x → MF l E X Q bt σ tgt lv st) (kf : ¬ 0 ≤ x → MF l E X Q bf σ pc' lv st) : MF l E X Q (if 0 ≤ x then bt else bf) σ pc lv (.int x :: st) := by
  intro r hr H locs ls hP hS hl
  obtain ⟨d1, rfl⟩ := d
  exact lv_if_ge C.1.1 C.1.2.1 d1 ht (fun h => kt h r (by rw [if_pos h] at hr; exact hr) H locs ls hP hS hl) (fun h => kf h r (by rw [if_neg h] at hr; exact hr) H locs ls hP hS hl)
theorem MF.if_gt (C : CxOK l E X cc nL own ret kk) {x : Int32} {off : Int} {pc pc' tgt : Nat} {bt bf : Option ρ} (d : Dc cc pc (.ifCond .gt off) 3 pc') (ht : (pc : Int) + off = (tgt : Int)) (kt : 0 < x → MF l E X Q bt σ tgt lv st) (kf : ¬ 0 < x → MF l E X Q bf σ pc' lv st) : MF l E X Q (if 0 < x then bt else bf) σ pc lv (.int x :: st) := by
  intro r hr H locs ls hP hS hl
  obtain ⟨d1, rfl⟩ := d
  exact lv_if_gt C.1.1 C.1.2.1 d1 ht (fun h => kt h r (by rw [if_pos h] at hr; exact hr) H locs ls hP hS hl) (fun h => kf h r (by rw [if_neg h] at hr; exact hr) H locs ls hP hS hl)
theorem MF.if_le (C : CxOK l E X cc nL own ret kk) {x : Int32} {off : Int} {pc pc' tgt : Nat} {bt bf : Option ρ} (d : Dc cc pc (.ifCond .le off) 3 pc') (ht : (pc : Int) + off = (tgt : Int)) (kt : x ≤ 0 → MF l E X Q bt σ tgt lv st) (kf : ¬ x ≤ 0 → MF l E X Q bf σ pc' lv st) : MF l E X Q (if x ≤ 0 then bt else bf) σ pc lv (.int x :: st) := by
  intro r hr H locs ls hP hS hl
  obtain ⟨d1, rfl⟩ := d
  exact lv_if_le C.1.1 C.1.2.1 d1 ht (fun h => kt h r (by rw [if_pos h] at hr; exact hr) H locs ls hP hS hl) (fun h => kf h r (by rw [if_neg h] at hr; exact hr) H locs ls hP hS hl)
theorem MF.icmp_eq (C : CxOK l E X cc nL own ret kk) {x y : Int32} {off : Int} {pc pc' tgt : Nat} {bt bf : Option ρ} (d : Dc cc pc (.if_icmp .eq off) 3 pc') (ht : (pc : Int) + off = (tgt : Int)) (kt : x = y → MF l E X Q bt σ tgt lv st) (kf : ¬ x = y → MF l E X Q bf σ pc' lv st) : MF l E X Q (if x = y then bt else bf) σ pc lv (.int y :: .int x :: st) := by
  intro r hr H locs ls hP hS hl
  obtain ⟨d1, rfl⟩ := d
  exact lv_icmp_eq C.1.1 C.1.2.1 d1 ht (fun h => kt h r (by rw [if_pos h] at hr; exact hr) H locs ls hP hS hl) (fun h => kf h r (by rw [if_neg h] at hr; exact hr) H locs ls hP hS hl)
theorem MF.icmp_ne (C : CxOK l E X cc nL own ret kk) {x y : Int32} {off : Int} {pc pc' tgt : Nat} {bt bf : Option ρ} (d : Dc cc pc (.if_icmp .ne off) 3 pc') (ht : (pc : Int) + off = (tgt : Int)) (kt : ¬ x = y → MF l E X Q bf σ tgt lv st) (kf : x = y → MF l E X Q bt σ pc' lv st) : MF l E X Q (if x = y then bt else bf) σ pc lv (.int y :: .int x :: st) := by
  intro r hr H locs ls hP hS hl
  obtain ⟨d1, rfl⟩ := d
  exact lv_icmp_ne C.1.1 C.1.2.1 d1 ht (fun h => kt h r (by rw [if_neg h] at hr; exact hr) H locs ls hP hS hl) (fun h => kf h r (by rw [if_pos h] at hr; exact hr) H locs ls hP hS hl)
theorem MF.icmp_lt (C : CxOK l E X cc nL own ret kk) {x y : Int32} {off : Int} {pc pc' tgt : Nat} {bt bf : Option ρ} (d : Dc cc pc (.if_icmp .lt off) 3 pc') (ht : (pc : Int) + off = (tgt : Int)) (kt : x < y → MF l E X Q bt σ tgt lv st) (kf : ¬ x < y → MF l E X Q bf σ pc' lv st) : MF l E X Q (if x < y then bt else bf) σ pc lv (.int y :: .int x :: st) := by
  intro r hr H locs ls hP hS hl
  obtain ⟨d1, rfl⟩ := d
  exact lv_icmp_lt C.1.1 C.1.2.1 d1 ht (fun h => kt h r (by rw [if_pos h] at hr; exact hr) H locs ls hP hS hl) (fun h => kf h r (by rw [if_neg h] at hr; exact hr) H locs ls hP hS hl)
theorem MF.icmp_ge (C : CxOK l E X cc nL own ret kk) {x y : Int32} {off : Int} {pc pc' tgt : Nat} {bt bf : Option ρ} (d : Dc cc pc (.if_icmp .ge off) 3 pc') (ht : (pc : Int) + off = (tgt : Int)) (kt : y ≤ x → MF l E X Q bt σ tgt lv st) (kf : ¬ y ≤ x → MF l E X Q bf σ pc' lv st) : MF l E X Q (if y ≤ x then bt else bf) σ pc lv (.int y :: .int x :: st) := by
  intro r hr H locs ls hP hS hl
  obtain ⟨d1, rfl⟩ := d
  exact lv_icmp_ge C.1.1 C.1.2.1 d1 ht (fun h => kt h r (by rw [if_pos h] at hr; exact hr) H locs ls hP hS hl) (fun h => kf h r (by rw [if_neg h] at hr; exact hr) H locs ls hP hS hl)
theorem MF.icmp_gt (C : CxOK l E X cc nL own ret kk) {x y : Int32} {off : Int} {pc pc' tgt : Nat} {bt bf : Option ρ} (d : Dc cc pc (.if_icmp .gt off) 3 pc') (ht : (pc : Int) + off = (tgt : Int)) (kt : y < x → MF l E X Q bt σ tgt lv st) (kf : ¬ y < x → MF l E X Q bf σ pc' lv st) : MF l E X Q (if y < x then bt else bf) σ pc lv (.int y :: .int x :: st) := by
  intro r hr H locs ls hP hS hl
  obtain ⟨d1, rfl⟩ := d
  exact lv_icmp_gt C.1.1 C.1.2.1 d1 ht (fun h => kt h r (by rw [if_pos h] at hr; exact hr) H locs ls hP hS hl) (fun h => kf h r (by rw [if_neg h] at hr; exact hr) H locs ls hP hS hl)
theorem MF.icmp_le (C : CxOK l E X cc nL own ret kk) {x y : Int32} {off : Int} {pc pc' tgt : Nat} {bt bf : Option ρ} (d : Dc cc pc (.if_icmp .le off) 3 pc') (ht : (pc : Int) + off = (tgt : Int)) (kt : x ≤ y → MF l E X Q bt σ tgt lv st) (kf : ¬ x ≤ y → MF l E X Q bf σ pc' lv st) : MF l E X Q (if x ≤ y then bt else bf) σ pc lv (.int y :: .int x :: st) := by
  intro r hr H locs ls hP hS hl
  obtain ⟨d1, rfl⟩ := d
  exact lv_icmp_le C.1.1 C.1.2.1 d1 ht (fun h => kt h r (by rw [if_pos h] at hr; exact hr) H locs ls hP hS hl) (fun h => kf h r (by rw [if_neg h] at hr; exact hr) H locs ls hP hS hl)
theorem MF.goto (C : CxOK l E X cc nL own ret kk) {off : Int} {pc pc' tgt : Nat} (d : Dc cc pc (.goto off) 3 pc') (ht : (pc : Int) + off = (tgt : Int)) (k : MF l E X Q b σ tgt lv st) : MF l E X Q b σ pc lv st := by
  intro r hr H locs ls hP hS hl
  exact lv_goto C.1.1 C.1.2.1 d.1 ht (k r hr H locs ls hP hS hl)
/-- locals in another order, or fewer -/
theorem MF.sub {pc : Nat} {lv' : List (Nat × Value)} (ks : List Nat) (h : lv_pick lv ks = lv') (k : MF l E X Q b σ pc lv' st) : MF l E X Q b σ pc lv st := by
  intro r hr H locs ls hP hS hl
  exact k r hr H locs ls hP hS (lv_sub hl ks h)
theorem MF.no {pc : Nat} : MF l E X Q (none : Option ρ) σ pc lv st := fun r hr => by cases hr
/-- what is bound by a name -/
def nm_ {α γ : Type} (x : α) (k : α → γ) : γ := k x
theorem MF.nmI {pc : Nat} {x : Int32} {kb : Int32 → Option ρ} (k : ∀ y : Int32, MF l E X Q (kb y) σ pc lv (.int y :: st)) : MF l E X Q (nm_ x kb) σ pc lv (.int x :: st) := k x
theorem MF.nmL {pc : Nat} {x : Int64} {kb : Int64 → Option ρ} (k : ∀ y : Int64, MF l E X Q (kb y) σ pc lv (.long y :: st)) : MF l E X Q (nm_ x kb) σ pc lv (.long x :: st) := k x
theorem MF.nmS {pc : Nat} {τ : Sg} {kb : Sg → Option ρ} (k : ∀ y : Sg, MF l E X Q (kb y) y pc lv st) : MF l E X Q (nm_ τ kb) τ pc lv st := k τ
/-- a join, or what goes on behind a loop, named -/
theorem MF.join {α : Type} {j : α} {pc : Nat} {kb : α → Option ρ} (P : α → Prop) (hj : P j) (k : ∀ y : α, P y → MF l E X Q (kb y) σ pc lv st) : MF l E X Q (nm_ j kb) σ pc lv st := k j hj
/-! fields -/
def CF (ci : Nat) (Cn : String) (T : u_T) (N : Nat) (ty : Nat → FieldType) : Prop :=
  vwCl[ci]? = some (Cn, T, N) ∧ (∀ w ∈ u_ws Cn T N, w ∈ Gw) ∧ (∀ k, k < N → parseFieldDescriptor (T k).2.2.1 = some (ty k)) ∧ ∀ a, a < N → ∀ b, b < N → a ≠ b → (T a).2.1 ≠ (T b).2.1
def FL (own : String) (idx : Nat) (Cn : String) (T : u_T) (N k : Nat) : Prop := k < N ∧ (T k).1 = Cn ∧ Cond.fieldLink own idx Cn (T k).2.1 (T k).2.2.1 ∈ Gw
def FLN (own : String) (idx : Nat) (Cn : String) (T : u_T) (N k : Nat) : Prop := k < N ∧ (T k).1 = Cn ∧ Cond.fieldLinkNest own idx Cn (T k).2.1 (T k).2.2.1 "LastHappened" ∈ nestW
def PF (T : u_T) (k : Nat) : Prop := (T k).2.2.2 = false ∧ parseFieldDescriptor (T k).2.2.1 = some .int
section MFF
variable {ci N : Nat} {Cn : String} {T : u_T} {ty : Nat → FieldType} {idx pc pc' o k : Nat}
theorem MF.get (C : CxOK l E X cc nL own ret kk) (cf : CF ci Cn T N ty) (f : FL own idx Cn T N k) (d : Dc cc pc (.getfield idx) 3 pc') (hf : iF ci k o) (kn : MF l E X Q b σ pc' lv (.int (σ o k) :: st)) : MF l E X Q b σ pc lv (.ref (ead E o) :: st) := by
  intro r hr H locs ls hP hS hl
  obtain ⟨d1, rfl⟩ := d
  obtain ⟨ho, h1, h2, h3⟩ := hf
  exact va_get C.1.1 C.1.2.1 C.1.2.2.2.2 cf.2.1 C.1.2.2.2.1 C.2.1 hP o ((Ws_at ho).trans (by rw [enc_O h1 h2])) cf.1 k f.1 (C.1.2.2.2.2 _ f.2.2) (by rw [f.2.1]; exact fun x h => h) (by rw [encF_int h3, Nat.zero_add]) d1 (kn r hr H locs ls hP hS hl)
theorem MF.getR {j : Nat} (C : CxOK l E X cc nL own ret kk) (cf : CF ci Cn T N ty) (f : FL own idx Cn T N k) (d : Dc cc pc (.getfield idx) 3 pc') (hf : rF ci k o j) (kn : MF l E X Q b σ pc' lv (.ref (ead E j) :: st)) : MF l E X Q b σ pc lv (.ref (ead E o) :: st) := by
  intro r hr H locs ls hP hS hl
  obtain ⟨d1, rfl⟩ := d
  obtain ⟨ho, h1, h2, h3⟩ := hf
  exact va_get C.1.1 C.1.2.1 C.1.2.2.2.2 cf.2.1 C.1.2.2.2.1 C.2.1 hP o ((Ws_at ho).trans (by rw [enc_O h1 h2])) cf.1 k f.1 (C.1.2.2.2.2 _ f.2.2) (by rw [f.2.1]; exact fun x h => h) (encF_ref h3) d1 (kn r hr H locs ls hP hS hl)
theorem MF.getN (C : CxOK l E X cc nL own ret kk) (cf : CF ci Cn T N ty) (f : FLN own idx Cn T N k) (d : Dc cc pc (.getfield idx) 3 pc') (hf : iF ci k o) (kn : MF l E X Q b σ pc' lv (.int (σ o k) :: st)) : MF l E X Q b σ pc lv (.ref (ead E o) :: st) := by
  intro r hr H locs ls hP hS hl
  obtain ⟨d1, rfl⟩ := d
  obtain ⟨ho, h1, h2, h3⟩ := hf
  exact va_getN C.1.1 C.1.2.1 C.1.2.2.2.2 cf.2.1 C.1.2.2.2.1 C.2.1 hP o ((Ws_at ho).trans (by rw [enc_O h1 h2])) cf.1 k f.1 (va_Nw.use (isNest_tab rfl) (C.2.2.1.2.2.2.2.2 _ f.2.2)) (by rw [f.2.1]; exact fun x h => h) (by rw [encF_int h3, Nat.zero_add]) d1 (kn r hr H locs ls hP hS hl)
theorem MF.getRN {j : Nat} (C : CxOK l E X cc nL own ret kk) (cf : CF ci Cn T N ty) (f : FLN own idx Cn T N k) (d : Dc cc pc (.getfield idx) 3 pc') (hf : rF ci k o j) (kn : MF l E X Q b σ pc' lv (.ref (ead E j) :: st)) : MF l E X Q b σ pc lv (.ref (ead E o) :: st) := by
  intro r hr H locs ls hP hS hl
  obtain ⟨d1, rfl⟩ := d
  obtain ⟨ho, h1, h2, h3⟩ := hf
  exact va_getN C.1.1 C.1.2.1 C.1.2.2.2.2 cf.2.1 C.1.2.2.2.1 C.2.1 hP o ((Ws_at ho).trans (by rw [enc_O h1 h2])) cf.1 k f.1 (va_Nw.use (isNest_tab rfl) (C.2.2.1.2.2.2.2.2 _ f.2.2)) (by rw [f.2.1]; exact fun x h => h) (encF_ref h3) d1 (kn r hr H locs ls hP hS hl)
theorem DWs {E : EX} (h : DD E) (σ : Sg) : va_D (AE E) (Ws E σ) := by
  have key : ∀ (k : Nat) (q : Nat × va_E), (Ws E σ)[k]? = some q → k < shN ∧ q.1 = ead E k := by
    intro k q hq
    have hk : k < shN := by
      have := (List.getElem?_eq_some_iff.mp hq).1
      rw [Ws_len] at this
      exact this
    rw [Ws_at hk] at hq
    exact ⟨hk, by cases hq; rfl⟩
  refine ⟨fun i j p q hi hj e => ?_, fun k q hq => ?_⟩
  · obtain ⟨a1, a2⟩ := key i p hi
    obtain ⟨b1, b2⟩ := key j q hj
    exact h i j a1 b1 (by rw [← a2, ← b2]; exact e)
  · obtain ⟨a1, a2⟩ := key k q hq
    exact ⟨k, a1, a2⟩
theorem MF.put {x : Int32} {τ : Sg} (C : CxOK l E X cc nL own ret kk) (cf : CF ci Cn T N ty) (f : FL own idx Cn T N k) (pf : PF T k) (d : Dc cc pc (.putfield idx) 3 pc') (hf : iF ci k o) (ht : sts σ o k x = τ) (kn : MF l E X Q b τ pc' lv st) : MF l E X Q b σ pc lv (.int x :: .ref (ead E o) :: st) := by
  intro r hr H locs ls hP hS hl
  obtain ⟨d1, rfl⟩ := d
  obtain ⟨ho, h1, h2, h3⟩ := hf
  subst ht
  refine va_put (v := .int x) C.1.1 C.1.2.1 C.1.2.2.2.2 cf.2.1 ty cf.2.2.1 cf.2.2.2 C.1.2.2.2.1 C.2.1 hP (DWs C.2.2.2.1 σ) hS o ((Ws_at ho).trans (by rw [enc_O h1 h2])) cf.1 k f.1 (C.1.2.2.2.2 _ f.2.2) (by rw [f.2.1]; exact fun x h => h) pf.1 pf.2 rfl rfl (by rw [encF_len]; exact (List.getElem?_eq_some_iff.mp h3).1) d1 (fun H1 locs1 hP1 hD1 hS1 => kn r hr H1 locs1 ls ?_ hS1 hl)
  rw [encF_set h3, Nat.zero_add, ← enc_O (E := E) h1 h2, Ws_set ho] at hP1
  exact hP1
end MFF
/-! arrays -/
def aget (σ : Sg) (c : Nat) (i : Int32) : Option Int32 := if i < 0 ∨ alen c ≤ i.toNatClampNeg then none else some (σ c i.toNatClampNeg)
def aset (σ : Sg) (c : Nat) (i x : Int32) : Option Sg := if i < 0 ∨ alen c ≤ i.toNatClampNeg then none else some (sts σ c i.toNatClampNeg x)
def zset (σ : Sg) (c : Nat) (i x : Int32) : Option Sg := if i < 0 ∨ alen c ≤ i.toNatClampNeg then none else some (sts σ c i.toNatClampNeg (vp_nar .boolean x))
def tget (t : Nat) (i : Int32) : Option Int32 := if i < 0 ∨ (tabL t).length ≤ i.toNatClampNeg then none else some ((tabL t).getD i.toNatClampNeg 0)
def acpy (σ : Sg) (c : Nat) (sp : Int32) (c2 : Nat) (dp n : Int32) : Option Sg :=
  if sp < 0 ∨ dp < 0 ∨ n < 0 ∨ alen c < sp.toNatClampNeg + n.toNatClampNeg ∨ alen c2 < dp.toNatClampNeg + n.toNatClampNeg then none else some (setc σ c2 (va_cpy (σ c) (σ c2) sp.toNatClampNeg dp.toNatClampNeg n.toNatClampNeg))
section MFA
variable {pc pc' c c2 : Nat} {i x : Int32}
theorem MF.iald {kb : Int32 → Option ρ} (C : CxOK l E X cc nL own ret kk) (d : Dc cc pc .iaload 1 pc') (hc : iA c) (k : ∀ v : Int32, MF l E X Q (kb v) σ pc' lv (.int v :: st)) : MF l E X Q ((aget σ c i).bind kb) σ pc lv (.int i :: .ref (ead E c) :: st) := by
  intro r hr H locs ls hP hS hl
  obtain ⟨d1, rfl⟩ := d
  unfold aget at hr
  by_cases h : i < 0 ∨ alen c ≤ i.toNatClampNeg
  · rw [if_pos h] at hr; cases hr
  · rw [if_neg h] at hr
    exact va_iald C.1.1 C.1.2.1 C.2.1 hP c 0 ((Ws_at hc.1).trans (by rw [enc_I hc.2])) rfl h d1 (k _ r hr H locs ls hP hS hl)
theorem MF.zald {kb : Int32 → Option ρ} (C : CxOK l E X cc nL own ret kk) (d : Dc cc pc .baload 1 pc') (hc : zA c) (k : ∀ v : Int32, MF l E X Q (kb v) σ pc' lv (.int v :: st)) : MF l E X Q ((aget σ c i).bind kb) σ pc lv (.int i :: .ref (ead E c) :: st) := by
  intro r hr H locs ls hP hS hl
  obtain ⟨d1, rfl⟩ := d
  unfold aget at hr
  by_cases h : i < 0 ∨ alen c ≤ i.toNatClampNeg
  · rw [if_pos h] at hr; cases hr
  · rw [if_neg h] at hr
    exact va_zald C.1.1 C.1.2.1 C.2.1 hP c 1 ((Ws_at hc.1).trans (by rw [enc_Z hc.2])) rfl h d1 (k _ r hr H locs ls hP hS hl)
theorem MF.iast {kb : Sg → Option ρ} (C : CxOK l E X cc nL own ret kk) (d : Dc cc pc .iastore 1 pc') (hc : iA c) (k : ∀ τ : Sg, MF l E X Q (kb τ) τ pc' lv st) : MF l E X Q ((aset σ c i x).bind kb) σ pc lv (.int x :: .int i :: .ref (ead E c) :: st) := by
  intro r hr H locs ls hP hS hl
  obtain ⟨d1, rfl⟩ := d
  unfold aset at hr
  by_cases h : i < 0 ∨ alen c ≤ i.toNatClampNeg
  · rw [if_pos h] at hr; cases hr
  · rw [if_neg h] at hr
    refine va_iast C.1.1 C.1.2.1 C.2.1 hP (DWs C.2.2.2.1 σ) hS c 0 ((Ws_at hc.1).trans (by rw [enc_I hc.2])) rfl h d1 (fun H1 locs1 hP1 hD1 hS1 => k _ r hr H1 locs1 ls ?_ hS1 hl)
    rw [← enc_I (E := E) hc.2, Ws_set hc.1] at hP1
    exact hP1
theorem MF.zast {kb : Sg → Option ρ} (C : CxOK l E X cc nL own ret kk) (d : Dc cc pc .bastore 1 pc') (hc : zA c) (k : ∀ τ : Sg, MF l E X Q (kb τ) τ pc' lv st) : MF l E X Q ((zset σ c i x).bind kb) σ pc lv (.int x :: .int i :: .ref (ead E c) :: st) := by
  intro r hr H locs ls hP hS hl
  obtain ⟨d1, rfl⟩ := d
  unfold zset at hr
  by_cases h : i < 0 ∨ alen c ≤ i.toNatClampNeg
  · rw [if_pos h] at hr; cases hr
  · rw [if_neg h] at hr
    refine va_zast C.1.1 C.1.2.1 C.2.1 hP (DWs C.2.2.2.1 σ) hS c 1 ((Ws_at hc.1).trans (by rw [enc_Z hc.2])) rfl h d1 (fun H1 locs1 hP1 hD1 hS1 => k _ r hr H1 locs1 ls ?_ hS1 hl)
    rw [← enc_Z (E := E) hc.2, Ws_set hc.1] at hP1
    exact hP1
theorem MF.alenI (C : CxOK l E X cc nL own ret kk) (d : Dc cc pc .arraylength 1 pc') (hc : iA c) (k : MF l E X Q b σ pc' lv (.int (nI (alen c)) :: st)) : MF l E X Q b σ pc lv (.ref (ead E c) :: st) := by
  intro r hr H locs ls hP hS hl
  obtain ⟨d1, rfl⟩ := d
  exact va_alen (x := (alen c, .inl (σ c))) (v := nI (alen c)) C.1.1 C.1.2.1 C.2.1 hP c 0 ((Ws_at hc.1).trans (by rw [enc_I hc.2])) rfl rfl d1 (k r hr H locs ls hP hS hl)
/-- what the tables give for System.arraycopy, Math.max .. -/
def CPW (own : String) (idx : Nat) : Prop := Cond.methodLink own idx arraycopyName ∈ Gw ∧ Cond.native arraycopyName ∈ Gw ∧ Cond.static arraycopyName ∈ Gw ∧ Cond.initialized "java/lang/System" ∈ Gw
theorem MF.copy {sp dp n : Int32} {idx : Nat} {kb : Sg → Option ρ} (C : CxOK l E X cc nL own ret kk) (w : CPW own idx) (d : Dc cc pc (.invokestatic idx) 3 pc') (hc : iA c) (hc2 : iA c2) (hk : 1 ≤ kk) (hcat : (st.map fun v => v.category).sum ≤ 8) (k : ∀ τ : Sg, MF l E X Q (kb τ) τ pc' lv st) : MF l E X Q ((acpy σ c sp c2 dp n).bind kb) σ pc lv (.int n :: .int dp :: .ref (ead E c2) :: .int sp :: .ref (ead E c) :: st) := by
  intro r hr H locs ls hP hS hl
  obtain ⟨d1, rfl⟩ := d
  unfold acpy at hr
  by_cases h : sp < 0 ∨ dp < 0 ∨ n < 0 ∨ alen c < sp.toNatClampNeg + n.toNatClampNeg ∨ alen c2 < dp.toNatClampNeg + n.toNatClampNeg
  · rw [if_pos h] at hr; cases hr
  · rw [if_neg h] at hr
    simp only [not_or, Nat.not_lt] at h
    have hR := C.2.2.2.2.2.1
    have e1 : nativeFrameWords "java/lang/System" "arraycopy" 5 + 11 ≤ 32 := by decide
    refine va_copyi C.1.1 C.1.2.1 hl.1.symm C.1.2.2.2.1 (C.1.2.2.2.2 _ w.1) (C.1.2.2.2.2 _ w.2.1) (C.1.2.2.2.2 _ w.2.2.1) (C.1.2.2.2.2 _ w.2.2.2) C.2.1 hP (DWs C.2.2.2.1 σ) hS c c2 0 0 ((Ws_at hc.1).trans (by rw [enc_I hc.2])) ((Ws_at hc2.1).trans (by rw [enc_I hc2.2])) rfl rfl rfl h.1 h.2.1 h.2.2.1 h.2.2.2.1 h.2.2.2.2 (fun _ _ => rfl) (by omega) (by omega) d1 (fun H1 locs1 hP1 hD1 hS1 => k _ r hr H1 locs1 ls ?_ hS1 hl)
    rw [← enc_I (E := E) hc2.2, Ws_set hc2.1] at hP1
    exact hP1
def MMW (own : String) (idx : Nat) (y : MethodName) (b : ByteArray) : Prop := Cond.methodLink own idx y ∈ Gw ∧ Cond.static y ∈ Gw ∧ Cond.initialized "java/lang/Math" ∈ Gw ∧ Cond.code y b 2 (some .int) ∈ Gw
theorem MF.max {x y : Int32} {idx : Nat} (C : CxOK l E X cc nL own ret kk) (w : MMW own idx Lib.Math.max.name Lib.Math.max.code) (d : Dc cc pc (.invokestatic idx) 3 pc') (hk : 1 ≤ kk) (hcat : (st.map fun v => v.category).sum ≤ 8) (k : MF l E X Q b σ pc' lv (.int (if x < y then y else x) :: st)) : MF l E X Q b σ pc lv (.int y :: .int x :: st) := by
  intro r hr H locs ls hP hS hl
  obtain ⟨d1, rfl⟩ := d
  have hR := C.2.2.2.2.2.1
  exact va_mmax C.1.1 C.1.2.1 hl.1.symm C.1.2.2.2.1 (C.1.2.2.2.2 _ w.1) (C.1.2.2.2.2 _ w.2.1) (C.1.2.2.2.2 _ w.2.2.1) (C.1.2.2.2.2 _ w.2.2.2) (by omega) (by omega) C.2.2.2.2.1.1 C.2.2.2.2.1.2 d1 (k r hr H locs ls hP hS hl)
theorem MF.min {x y : Int32} {idx : Nat} (C : CxOK l E X cc nL own ret kk) (w : MMW own idx Lib.Math.min.name Lib.Math.min.code) (d : Dc cc pc (.invokestatic idx) 3 pc') (hk : 1 ≤ kk) (hcat : (st.map fun v => v.category).sum ≤ 8) (k : MF l E X Q b σ pc' lv (.int (if y < x then y else x) :: st)) : MF l E X Q b σ pc lv (.int y :: .int x :: st) := by
  intro r hr H locs ls hP hS hl
  obtain ⟨d1, rfl⟩ := d
  have hR := C.2.2.2.2.2.1
  exact va_mmin C.1.1 C.1.2.1 hl.1.symm C.1.2.2.2.1 (C.1.2.2.2.2 _ w.1) (C.1.2.2.2.2 _ w.2.1) (C.1.2.2.2.2 _ w.2.2.1) (C.1.2.2.2.2 _ w.2.2.2) (by omega) (by omega) C.2.2.2.2.1.1 C.2.2.2.2.1.2 d1 (k r hr H locs ls hP hS hl)
end MFA

/-! branches without a machine step; switches -/
theorem MF.split {c : Prop} [Decidable c] {bt bf : Option ρ} {pc : Nat} (kt : c → MF l E X Q bt σ pc lv st) (kf : ¬ c → MF l E X Q bf σ pc lv st) : MF l E X Q (if c then bt else bf) σ pc lv st := by
  intro r hr
  by_cases h : c
  · rw [if_pos h] at hr; exact kt h r hr
  · rw [if_neg h] at hr; exact kf h r hr
theorem i32_ne {x v : Int32} (h : ¬ x = v) : x.toInt ≠ v.toInt := fun e => h (Int32.toInt_inj.mp e)
theorem MF.tabIn {x v : Int32} {dflt lo hi off : Int} {offs : Array Int} {len pc pc' tgt : Nat} (C : CxOK l E X cc nL own ret kk) (d : Dc cc pc (.tableswitch dflt lo hi offs) len pc') (hx : x = v) (h1 : ¬ v.toInt < lo) (h2 : ¬ hi < v.toInt) (ho : offs[(v.toInt - lo).toNat]? = some off) (ht : (pc : Int) + off = (tgt : Int)) (k : MF l E X Q b σ tgt lv st) : MF l E X Q b σ pc lv (.int x :: st) := by
  intro r hr H locs ls hP hS hl
  subst hx
  exact lv_tableIn C.1.1 C.1.2.1 d.1 h1 h2 ho ht (k r hr H locs ls hP hS hl)
theorem MF.tabOut {x : Int32} {dflt lo hi : Int} {offs : Array Int} {len pc pc' tgt : Nat} (C : CxOK l E X cc nL own ret kk) (d : Dc cc pc (.tableswitch dflt lo hi offs) len pc') (h : x.toInt < lo ∨ hi < x.toInt) (ht : (pc : Int) + dflt = (tgt : Int)) (k : MF l E X Q b σ tgt lv st) : MF l E X Q b σ pc lv (.int x :: st) := by
  intro r hr H locs ls hP hS hl
  exact lv_tableOut C.1.1 C.1.2.1 d.1 h ht (k r hr H locs ls hP hS hl)
/-! tables, texts -/
section MFT
variable {pc pc' t idx : Nat} {i : Int32}
theorem MF.getT (C : CxOK l E X cc nL own ret kk) (ht : t < 5) (hl : Cond.fieldLink own idx "LastHappened" (tabN t) "[I" ∈ Gw) (d : Dc cc pc (.getstatic idx) 3 pc') (k : MF l E X Q b σ pc' lv (.ref (etb E t) :: st)) : MF l E X Q b σ pc lv st := by
  intro r hr H locs ls hP hS hls
  obtain ⟨d1, rfl⟩ := d
  exact va_gets C.1.1 C.1.2.1 (C.2.2.1.1 t ht).1 hS C.1.2.2.2.1 (C.1.2.2.2.2 _ hl) (fun _ h => h) d1 (k r hr H locs ls hP hS hls)
theorem MF.getTN (C : CxOK l E X cc nL own ret kk) (ht : t < 5) (hl : Cond.fieldLinkNest own idx "LastHappened" (tabN t) "[I" "LastHappened" ∈ nestW) (d : Dc cc pc (.getstatic idx) 3 pc') (k : MF l E X Q b σ pc' lv (.ref (etb E t) :: st)) : MF l E X Q b σ pc lv st := by
  intro r hr H locs ls hP hS hls
  obtain ⟨d1, rfl⟩ := d
  exact va_getsN C.1.1 C.1.2.1 (C.2.2.1.1 t ht).1 hS C.1.2.2.2.1 (va_Nw.use (isNest_tab rfl) (C.2.2.1.2.2.2.2.2 _ hl)) (fun _ h => h) d1 (k r hr H locs ls hP hS hls)
theorem MF.tald {kb : Int32 → Option ρ} (C : CxOK l E X cc nL own ret kk) (ht : t < 5) (d : Dc cc pc .iaload 1 pc') (k : ∀ v : Int32, MF l E X Q (kb v) σ pc' lv (.int v :: st)) : MF l E X Q ((tget t i).bind kb) σ pc lv (.int i :: .ref (etb E t) :: st) := by
  intro r hr H locs ls hP hS hls
  obtain ⟨d1, rfl⟩ := d
  unfold tget at hr
  by_cases h : i < 0 ∨ (tabL t).length ≤ i.toNatClampNeg
  · rw [if_pos h] at hr; cases hr
  · rw [if_neg h] at hr
    exact va_ti C.1.1 C.1.2.1 (C.2.2.1.1 t ht).2 hS h rfl d1 (k _ r hr H locs ls hP hS hls)
theorem MF.tlen {n : Int32} (C : CxOK l E X cc nL own ret kk) (ht : t < 5) (hn : nI (tabL t).length = n) (d : Dc cc pc .arraylength 1 pc') (k : MF l E X Q b σ pc' lv (.int n :: st)) : MF l E X Q b σ pc lv (.ref (etb E t) :: st) := by
  intro r hr H locs ls hP hS hls
  obtain ⟨d1, rfl⟩ := d
  exact va_tlen C.1.1 C.1.2.1 (C.2.2.1.1 t ht).2 hS hn d1 (k r hr H locs ls hP hS hls)
theorem MF.ldcS (C : CxOK l E X cc nL "LastHappened$Text" ret kk) (ht : t < 4) (hi : strI t = idx) (d : Dc cc pc (.ldc idx) 2 pc') (k : MF l E X Q b σ pc' lv (.ref (esK E t) :: st)) : MF l E X Q b σ pc lv st := by
  intro r hr H locs ls hP hS hls
  obtain ⟨d1, rfl⟩ := d
  subst hi
  exact va_ldcS C.1.1 C.1.2.1 C.1.2.2.2.1 (C.2.2.1.2.2.1 t ht) d1 (k r hr H locs ls hP hS hls)
theorem MF.strV (C : CxOK l E X cc nL own ret kk) (ht : t < 4) (hl : Cond.fieldLink own idx "java/lang/String" "value" "[B" ∈ Gw) (d : Dc cc pc (.getfield idx) 3 pc') (k : MF l E X Q b σ pc' lv (.ref (esV E t) :: st)) : MF l E X Q b σ pc lv (.ref (esK E t) :: st) := by
  intro r hr H locs ls hP hS hls
  obtain ⟨d1, rfl⟩ := d
  exact vk_getf C.1.1 C.1.2.1 (C.2.2.1.2.1.1 t ht).2.2.1 hS C.1.2.2.2.1 (C.1.2.2.2.2 _ hl) (fun _ h => h) d1 (k r hr H locs ls hP hS hls)
theorem MF.strC (C : CxOK l E X cc nL own ret kk) (ht : t < 4) (hl : Cond.fieldLink own idx "java/lang/String" "coder" "B" ∈ Gw) (d : Dc cc pc (.getfield idx) 3 pc') (k : MF l E X Q b σ pc' lv (.int 0 :: st)) : MF l E X Q b σ pc lv (.ref (esK E t) :: st) := by
  intro r hr H locs ls hP hS hls
  obtain ⟨d1, rfl⟩ := d
  exact vk_getf C.1.1 C.1.2.1 (C.2.2.1.2.1.1 t ht).2.1 hS C.1.2.2.2.1 (C.1.2.2.2.2 _ hl) (fun _ h => h) d1 (k r hr H locs ls hP hS hls)
theorem MF.slen {n : Int32} (C : CxOK l E X cc nL own ret kk) (ht : t < 4) (hn : nI (strLen.getD t 0) = n) (d : Dc cc pc .arraylength 1 pc') (k : MF l E X Q b σ pc' lv (.int n :: st)) : MF l E X Q b σ pc lv (.ref (esV E t) :: st) := by
  intro r hr H locs ls hP hS hls
  obtain ⟨d1, rfl⟩ := d
  exact va_tlen C.1.1 C.1.2.1 (C.2.2.1.2.1.1 t ht).2.2.2 hS hn d1 (k r hr H locs ls hP hS hls)
def sget (t : Nat) (i : Int32) : Option Int32 := if i < 0 ∨ strLen.getD t 0 ≤ i.toNatClampNeg then none else some ((strByt.getD t []).getD i.toNatClampNeg 0)
theorem MF.sald {kb : Int32 → Option ρ} (C : CxOK l E X cc nL own ret kk) (ht : t < 4) (d : Dc cc pc .baload 1 pc') (k : ∀ v : Int32, MF l E X Q (kb v) σ pc' lv (.int v :: st)) : MF l E X Q ((sget t i).bind kb) σ pc lv (.int i :: .ref (esV E t) :: st) := by
  intro r hr H locs ls hP hS hls
  obtain ⟨d1, rfl⟩ := d
  unfold sget at hr
  by_cases h : i < 0 ∨ strLen.getD t 0 ≤ i.toNatClampNeg
  · rw [if_pos h] at hr; cases hr
  · rw [if_neg h] at hr
    exact va_tb C.1.1 C.1.2.1 (C.2.2.1.2.1.1 t ht).2.2.2 hS h rfl d1 (k _ r hr H locs ls hP hS hls)
theorem MF.getCS (C : CxOK l E X cc nL own ret kk) (hl : Cond.fieldLink own idx "java/lang/String" "COMPACT_STRINGS" "Z" ∈ Gw) (d : Dc cc pc (.getstatic idx) 3 pc') (k : MF l E X Q b σ pc' lv (.int 1 :: st)) : MF l E X Q b σ pc lv st := by
  intro r hr H locs ls hP hS hls
  obtain ⟨d1, rfl⟩ := d
  exact va_gets C.1.1 C.1.2.1 C.2.2.1.2.2.2.1 hS C.1.2.2.2.1 (C.1.2.2.2.2 _ hl) (fun _ h => h) d1 (k r hr H locs ls hP hS hls)
theorem MF.getSF (C : CxOK l E X cc nL own ret kk) (hl : Cond.fieldLink own idx "jdk/internal/util/Preconditions" "SIOOBE_FORMATTER" "Ljava/util/function/BiFunction;" ∈ Gw) (d : Dc cc pc (.getstatic idx) 3 pc') (k : ∀ v : Value, v = .null ∨ (∃ t : Nat, v = .ref t) → MF l E X Q b σ pc' lv (v :: st)) : MF l E X Q b σ pc lv st := by
  intro r hr H locs ls hP hS hls
  obtain ⟨d1, rfl⟩ := d
  rcases C.2.2.1.2.2.2.2.1 with h | ⟨t, h⟩
  · exact va_gets C.1.1 C.1.2.1 h hS C.1.2.2.2.1 (C.1.2.2.2.2 _ hl) (fun _ h => h) d1 (k _ (Or.inl rfl) r hr H locs ls hP hS hls)
  · exact va_gets C.1.1 C.1.2.1 h hS C.1.2.2.2.1 (C.1.2.2.2.2 _ hl) (fun _ h => h) d1 (k _ (Or.inr ⟨t, rfl⟩) r hr H locs ls hP hS hls)
end MFT
/-! ends -/
theorem W_nret {p : Program} {e : Env} {R : Room} {s : State} {m : MethodId} {args : Array Value} {below : List Frame} {meth : Method} {c : Code} {H : Heap} {locs : List Loc} {cells slots : Nat} {cc : ByteArray} {Qc : Array Value → State → Outcome → State → Prop} {free : Addr → Prop} {v w : Int32} {ty : FieldType} (hexec : p.tables.exec = Jvm.exec) (hb : c.code = cc) (hr : meth.sig.returnType = some ty) (hn : narrow ty (.int v) = .int w)
    (hq : ∀ t : State, t.heap = H → s.WarmedH t.vm → Qc args s (.returned (some (.int w))) t) (hf : ∀ q ∈ locs, free q.base)
    {pc : Nat} {ls : Array Slot} (hdg : decode cc pc = .ok (.ireturn, 1)) (hlocks : meth.locks = false) : W p l e R s m args below meth c H locs cells slots (MQ below Qc args s cells slots free) (F0 m pc ls [.int v]) := by
  intro T hT X
  obtain ⟨fs, hret, hrun, hended, hW, hframe⟩ := X.leave (v := some (.int w)) (fun h => by rw [hr] at h; cases h)
  have hmeth' : T.vm.method? m = some meth := X.method'
  refine ⟨T.setFrames fs, ?_, .returned (some (.int w)), hrun, hended, hq _ hT hW, locs, ⟨⟨_, rfl⟩, hW, hframe⟩, hf⟩
  jvm_step X.here [X.here.top, hexec, hb, hdg, hmeth', hr, hn]
  (try refine ⟨rfl, ?_⟩); (try refine ⟨rfl, ?_⟩)
  first | (intro acts; rw [hret _ acts rfl rfl rfl]) | rw [hret _ _ rfl rfl rfl]
  exact Steps.refl _
abbrev QI (E : EX) (X : CX) (v : Int32) (τ : Sg) : State → Prop := MQ (xb X) (va_Qi (fun (a : Int32) (u : Sg) => a = v ∧ u = τ) (fun u t => IV E u t) (AE E)) (xa X) (xs X) (xn X) (xo X) (AE E)
abbrev QL (E : EX) (X : CX) (v : Int64) (τ : Sg) : State → Prop := MQ (xb X) (va_Ql (fun (a : Int64) (u : Sg) => a = v ∧ u = τ) (fun u t => IV E u t) (AE E)) (xa X) (xs X) (xn X) (xo X) (AE E)
abbrev QV (E : EX) (X : CX) (τ : Sg) : State → Prop := MQ (xb X) (va_Qv (fun (u : Sg) => u = τ) (fun u t => IV E u t) (AE E)) (xa X) (xs X) (xn X) (xo X) (AE E)
abbrev QR (E : EX) (X : CX) (c : Nat) (τ : Sg) : State → Prop := MQ (xb X) (va_Qr (fun (u : Sg) => u = τ) (fun u a t => a = ead E c ∧ IV E u t) (AE E)) (xa X) (xs X) (xn X) (xo X) (AE E)
theorem iv_end (C : CxOK l E X cc nL own ret kk) {H : Heap} {locs : List Loc} (hP : va_P (eD E) vwCl (Ws E σ) H) (hS : va_S (AE E) (xs X).heap H locs) {t : State} (ht : t.heap = H) (hW : (xs X).WarmedH t.vm) : IV E σ t :=
  ⟨by rw [ht]; exact hP, va_K.moved hW.alike C.2.1, by rw [ht]; exact ST.warm hW (C.2.2.1.kept hS.2.1)⟩
section MFE
variable {pc pc' : Nat} {v : Int32} {w : Int64}
theorem MF.iret (C : CxOK l E X cc nL own (some .int) kk) (d : Dc cc pc .ireturn 1 pc') : MF l E X (fun q : Int32 × Sg => QI E X q.1 q.2) (some (v, σ)) σ pc lv [.int v] := by
  intro r hr H locs ls hP hS hl
  cases hr
  exact W.iret C.1.1 C.1.2.1 C.2.2.2.2.2.2.1 (fun t ht hW => ⟨⟨v, σ, rfl, ⟨rfl, rfl⟩, iv_end C hP hS ht hW⟩, hS.F ht⟩) hS.2.2 d.1 C.2.2.2.2.2.2.2
theorem MF.iretp (C : CxOK l E X cc nL own (some .int) kk) (d : Dc cc pc .ireturn 1 pc') : MF l E X (fun q : Int32 => QI E X q σ) (some v) σ pc lv [.int v] := by
  intro r hr H locs ls hP hS hl
  cases hr
  exact W.iret C.1.1 C.1.2.1 C.2.2.2.2.2.2.1 (fun t ht hW => ⟨⟨v, σ, rfl, ⟨rfl, rfl⟩, iv_end C hP hS ht hW⟩, hS.F ht⟩) hS.2.2 d.1 C.2.2.2.2.2.2.2
theorem MF.lretp (C : CxOK l E X cc nL own (some .long) kk) (d : Dc cc pc .lreturn 1 pc') : MF l E X (fun q : Int64 => QL E X q σ) (some w) σ pc lv [.long w] := by
  intro r hr H locs ls hP hS hl
  cases hr
  exact W.lret C.1.1 C.1.2.1 C.2.2.2.2.2.2.1 (fun t ht hW => ⟨⟨w, σ, rfl, ⟨rfl, rfl⟩, iv_end C hP hS ht hW⟩, hS.F ht⟩) hS.2.2 d.1 C.2.2.2.2.2.2.2
theorem MF.nret {w : Int32} {ty : FieldType} (C : CxOK l E X cc nL own (some ty) kk) (d : Dc cc pc .ireturn 1 pc') (hn : narrow ty (.int v) = .int w) : MF l E X (fun q : Int32 × Sg => QI E X q.1 q.2) (some (w, σ)) σ pc lv [.int v] := by
  intro r hr H locs ls hP hS hl
  cases hr
  exact W_nret C.1.1 C.1.2.1 C.2.2.2.2.2.2.1 hn (fun t ht hW => ⟨⟨w, σ, rfl, ⟨rfl, rfl⟩, iv_end C hP hS ht hW⟩, hS.F ht⟩) hS.2.2 d.1 C.2.2.2.2.2.2.2
theorem MF.nretp {w : Int32} {ty : FieldType} (C : CxOK l E X cc nL own (some ty) kk) (d : Dc cc pc .ireturn 1 pc') (hn : narrow ty (.int v) = .int w) : MF l E X (fun q : Int32 => QI E X q σ) (some w) σ pc lv [.int v] := by
  intro r hr H locs ls hP hS hl
  cases hr
  exact W_nret C.1.1 C.1.2.1 C.2.2.2.2.2.2.1 hn (fun t ht hW => ⟨⟨w, σ, rfl, ⟨rfl, rfl⟩, iv_end C hP hS ht hW⟩, hS.F ht⟩) hS.2.2 d.1 C.2.2.2.2.2.2.2
theorem MF.vret (C : CxOK l E X cc nL own none kk) (d : Dc cc pc .return_ 1 pc') : MF l E X (fun q : Sg => QV E X q) (some σ) σ pc lv [] := by
  intro r hr H locs ls hP hS hl
  cases hr
  exact W.vret C.1.1 C.1.2.1 C.2.2.2.2.2.2.1 (fun t ht hW => ⟨⟨σ, rfl, rfl, iv_end C hP hS ht hW⟩, hS.F ht⟩) hS.2.2 d.1 C.2.2.2.2.2.2.2
theorem MF.aretp {c : Nat} {n : String} (C : CxOK l E X cc nL own (some (.object n)) kk) (d : Dc cc pc .areturn 1 pc') : MF l E X (fun q : Nat => QR E X q σ) (some c) σ pc lv [.ref (ead E c)] := by
  intro r hr H locs ls hP hS hl
  cases hr
  exact W.aret C.1.1 C.1.2.1 C.2.2.2.2.2.2.1 (Or.inl ⟨n, rfl⟩) (Or.inr ⟨_, rfl⟩) (fun t ht hW => ⟨⟨σ, _, rfl, rfl, rfl, iv_end C hP hS ht hW⟩, hS.F ht⟩) hS.2.2 d.1 C.2.2.2.2.2.2.2
end MFE
/-! calls -/
def ob2 {α β γ : Type} (x : Option (α × β)) (k : α → β → Option γ) : Option γ := x.bind (fun q => k q.1 q.2)
theorem blindIV {E : EX} {σ : Sg} {av : List Value} : FrameBlind (va_Pc av (IV E σ)) := fun _ U _ _ q => ⟨q.1, IV.same (s := U) rfl rfl q.2⟩
/-- a method that can be called: its code and class are in the words -/
def MM (M : MT) (n : Nat) : Prop := Cond.code M.1 M.2.1 M.2.2.1 M.2.2.2 ∈ Gw ∧ Cond.initialized M.1.cls ∈ Gw ∧ M.2.2.1 ≤ 21 ∧ M.1.cls ≠ "java/lang/invoke/MethodHandle" ∧ M.1.cls ≠ "java/lang/invoke/VarHandle" ∧ (parseMethodDescriptor M.1.desc).map (fun d => d.parameters.length) = some n
def MV (M : MT) (n : Nat) : Prop := MM M n ∧ Cond.instanceMethod M.1 ∈ Gw ∧ Cond.selects M.1.cls M.1 M.1 ∈ Gw
def MS (M : MT) (n : Nat) : Prop := MM M n ∧ Cond.static M.1 ∈ Gw
section MFC
variable {pc pc' o ci kc idx n : Nat} {M : MT} {As st0 : List Value}
theorem room_of (C : CxOK l E X cc nL own ret kk) (hm : MM M n) (hk : kc + 1 ≤ kk) : (rmK kc).frames + 1 ≤ (xR X).frames ∧ 8 + (M.2.2.1 + 11) + (rmK kc).locals ≤ (xR X).locals := by
  have h1 := C.2.2.2.2.2.1
  have h2 := hm.2.2.1
  show kc + 1 ≤ _ ∧ 8 + (M.2.2.1 + 11) + 40 * kc ≤ _
  omega
theorem run_V {Qc : Array Value → State → Outcome → State → Prop} (C : CxOK l E X cc nL own ret kk) (hM : Met l M.1 (wsM M) (rmK kc) (va_Pc (.ref (ead E o) :: As) (IV E σ)) Qc 0 0 (AE E)) (hm : MV M n) (hln : Cond.methodLink own idx M.1 ∈ Gw) (ho : iO ci o) (hcl : (vwCl[ci]?).map (fun q => q.1) = some M.1.cls) (hk : kc + 1 ≤ kk) (d : Dc cc pc (.invokevirtual idx) 3 pc') (hn : As.length = n) (hst : st0 = As.reverse ++ .ref (ead E o) :: st) (hcat : (st.map fun v => v.category).sum ≤ 8)
    {H : Heap} {locs : List Loc} {ls : Array Slot} (hP : va_P (eD E) vwCl (Ws E σ) H) (hS : va_S (AE E) (xs X).heap H locs) (hl : lv_has ls (xc X).maxLocals lv) :
    va_Run (xP X) l (xe X) (xR X) (xs X) (xm X) (xa X) (xb X) (xM X) (xc X) H locs (xn X) (xo X) 0 0 (F0 (xm X) pc ls st0) st (Qc (Value.ref (ead E o) :: As).toArray) (AE E) := by
  have hG : GoodIn Gw (wsV own idx M.1.cls M.1 (wsM M)) := Gw_good (fun w hw => by
    simp only [wsV, wsM, List.cons_append, List.nil_append, List.mem_cons] at hw
    rcases hw with rfl | rfl | rfl | rfl | rfl | hw
    · exact hln
    · exact hm.2.1
    · exact hm.2.2
    · exact hm.1.2.1
    · exact hm.1.1
    · exact hw)
  obtain ⟨q, hq, hq2⟩ := Option.map_eq_some_iff.mp hcl
  refine va_runV (As := As) (rest := st) C.1 hM (cwV n C.1.2.2.2.2 hG rfl rfl rfl ⟨rfl, hm.1.2.2.2⟩ (room_of C hm.1 hk)) ⟨blindIV, ?_, fun U hU hW => ⟨rfl, iv_end C hP hS hU hW⟩⟩ rfl hn (hl.1.trans C.1.2.2.1) hst (lv_room hcat) d.1 C.2.2.2.2.1
  have := va_recv C.2.1 hP hq (q0 := o) ((Ws_at ho.1).trans (by rw [enc_O ho.2.1 ho.2.2]))
  rw [hq2] at this
  exact this
theorem run_T {Qc : Array Value → State → Outcome → State → Prop} (C : CxOK l E X cc nL own ret kk) (hM : Met l M.1 (wsM M) (rmK kc) (va_Pc (.ref (esK E o) :: As) (IV E σ)) Qc 0 0 (AE E)) (hm : MV M n) (hln : Cond.methodLink own idx M.1 ∈ Gw) (ho : o < 4) (hcl : M.1.cls = "java/lang/String") (hk : kc + 1 ≤ kk) (d : Dc cc pc (.invokevirtual idx) 3 pc') (hn : As.length = n) (hst : st0 = As.reverse ++ .ref (esK E o) :: st) (hcat : (st.map fun v => v.category).sum ≤ 8)
    {H : Heap} {locs : List Loc} {ls : Array Slot} (hP : va_P (eD E) vwCl (Ws E σ) H) (hS : va_S (AE E) (xs X).heap H locs) (hl : lv_has ls (xc X).maxLocals lv) :
    va_Run (xP X) l (xe X) (xR X) (xs X) (xm X) (xa X) (xb X) (xM X) (xc X) H locs (xn X) (xo X) 0 0 (F0 (xm X) pc ls st0) st (Qc (Value.ref (esK E o) :: As).toArray) (AE E) := by
  have hG : GoodIn Gw (wsV own idx M.1.cls M.1 (wsM M)) := Gw_good (fun w hw => by
    simp only [wsV, wsM, List.cons_append, List.nil_append, List.mem_cons] at hw
    rcases hw with rfl | rfl | rfl | rfl | rfl | hw
    · exact hln
    · exact hm.2.1
    · exact hm.2.2
    · exact hm.1.2.1
    · exact hm.1.1
    · exact hw)
  refine va_runV (As := As) (rest := st) C.1 hM (cwV n C.1.2.2.2.2 hG rfl rfl rfl ⟨rfl, hm.1.2.2.2⟩ (room_of C hm.1 hk)) ⟨blindIV, ?_, fun U hU hW => ⟨rfl, iv_end C hP hS hU hW⟩⟩ rfl hn (hl.1.trans C.1.2.2.1) hst (lv_room hcat) d.1 C.2.2.2.2.1
  have := vk_recv C.2.2.1.2.1 ho hS
  rw [hcl]
  exact this
theorem run_S {Qc : Array Value → State → Outcome → State → Prop} (C : CxOK l E X cc nL own ret kk) (hM : Met l M.1 (wsM M) (rmK kc) (va_Pc As (IV E σ)) Qc 0 0 (AE E)) (hm : MS M n) (hln : Cond.methodLink own idx M.1 ∈ Gw) (hk : kc + 1 ≤ kk) (d : Dc cc pc (.invokestatic idx) 3 pc') (hn : As.length = n) (hst : st0 = As.reverse ++ st) (hcat : (st.map fun v => v.category).sum ≤ 8)
    {H : Heap} {locs : List Loc} {ls : Array Slot} (hP : va_P (eD E) vwCl (Ws E σ) H) (hS : va_S (AE E) (xs X).heap H locs) (hl : lv_has ls (xc X).maxLocals lv) :
    va_Run (xP X) l (xe X) (xR X) (xs X) (xm X) (xa X) (xb X) (xM X) (xc X) H locs (xn X) (xo X) 0 0 (F0 (xm X) pc ls st0) st (Qc As.toArray) (AE E) := by
  have hG : GoodIn Gw (va_wsS own idx M.1 (wsM M)) := Gw_good (fun w hw => by
    simp only [va_wsS, wsM, List.cons_append, List.nil_append, List.mem_cons] at hw
    rcases hw with rfl | rfl | rfl | rfl | hw
    · exact hln
    · exact hm.2
    · exact hm.1.2.1
    · exact hm.1.1
    · exact hw)
  exact va_runS (As := As) (rest := st) C.1 hM (va_cwS n C.1.2.2.2.2 hG rfl rfl rfl hm.1.2.2.2 (room_of C hm.1 hk)) ⟨blindIV, fun U hU hW => ⟨rfl, iv_end C hP hS hU hW⟩⟩ rfl hn (hl.1.trans C.1.2.2.1) hst (lv_room hcat) d.1 C.2.2.2.2.1
theorem run_SN {Qc : Array Value → State → Outcome → State → Prop} (C : CxOK l E X cc nL own ret kk) (hM : Met l M.1 (wsM M) (rmK kc) (va_Pc As (IV E σ)) Qc 0 0 (AE E)) (hm : MS M n) (hln : Cond.methodLinkNest own idx M.1 "LastHappened" ∈ nestW) (hk : kc + 1 ≤ kk) (d : Dc cc pc (.invokestatic idx) 3 pc') (hn : As.length = n) (hst : st0 = As.reverse ++ st) (hcat : (st.map fun v => v.category).sum ≤ 8)
    {H : Heap} {locs : List Loc} {ls : Array Slot} (hP : va_P (eD E) vwCl (Ws E σ) H) (hS : va_S (AE E) (xs X).heap H locs) (hl : lv_has ls (xc X).maxLocals lv) :
    va_Run (xP X) l (xe X) (xR X) (xs X) (xm X) (xa X) (xb X) (xM X) (xc X) H locs (xn X) (xo X) 0 0 (F0 (xm X) pc ls st0) st (Qc As.toArray) (AE E) := by
  have hG : GoodIn Gw (wsM M) := Gw_good (fun w hw => by
    simp only [wsM, List.mem_cons] at hw
    rcases hw with rfl | hw
    · exact hm.1.1
    · exact hw)
  exact va_runSN (As := As) (rest := st) C.1 hM ⟨va_cnB n C.1.2.2.2.2 hG rfl rfl rfl (C.2.2.1.2.2.2.2.2 _ hln) (C.1.2.2.2.2 _ hm.1.2.1) hm.1.2.2.2 (room_of C hm.1 hk), C.1.2.2.2.2 _ hm.2, trivial⟩ ⟨blindIV, fun U hU hW => ⟨rfl, iv_end C hP hS hU hW⟩⟩ rfl hn (hl.1.trans C.1.2.2.1) hst (lv_room hcat) d.1 C.2.2.2.2.1
theorem MF.callVI {fx : Option (Int32 × Sg)} {kb : Int32 → Sg → Option ρ} (C : CxOK l E X cc nL own ret kk) (hR : ∀ v τ, fx = some (v, τ) → RI l E kc M (.ref (ead E o) :: As) σ v τ) (hm : MV M n) (hln : Cond.methodLink own idx M.1 ∈ Gw) (ho : iO ci o) (hcl : (vwCl[ci]?).map (fun q => q.1) = some M.1.cls) (hk : kc + 1 ≤ kk) (d : Dc cc pc (.invokevirtual idx) 3 pc') (hn : As.length = n) (hst : st0 = As.reverse ++ .ref (ead E o) :: st) (hcat : (st.map fun v => v.category).sum ≤ 8) (k : ∀ v τ, MF l E X Q (kb v τ) τ pc' lv (.int v :: st)) : MF l E X Q (ob2 fx kb) σ pc lv st0 := by
  intro r hr H locs ls hP hS hl
  obtain ⟨⟨v, τ⟩, hq, hr2⟩ := Option.bind_eq_some_iff.mp hr
  refine va_calli (run_V C (hR v τ hq) hm hln ho hcl hk d hn hst hcat hP hS hl) hS (fun q _ h => h) (fun q h => h) (fun r2 u t H1 locs1 ht hvm hp hB hz hk1 hS1 => ?_)
  obtain ⟨rfl, rfl⟩ := hp
  obtain ⟨d1, rfl⟩ := d
  exact k r2 u r hr2 H1 locs1 ls (ht ▸ hB.1) hS1 hl
theorem MF.callVP {fx : Option Int32} {kb : Int32 → Option ρ} (C : CxOK l E X cc nL own ret kk) (hR : ∀ v, fx = some v → RI l E kc M (.ref (ead E o) :: As) σ v σ) (hm : MV M n) (hln : Cond.methodLink own idx M.1 ∈ Gw) (ho : iO ci o) (hcl : (vwCl[ci]?).map (fun q => q.1) = some M.1.cls) (hk : kc + 1 ≤ kk) (d : Dc cc pc (.invokevirtual idx) 3 pc') (hn : As.length = n) (hst : st0 = As.reverse ++ .ref (ead E o) :: st) (hcat : (st.map fun v => v.category).sum ≤ 8) (k : ∀ v, MF l E X Q (kb v) σ pc' lv (.int v :: st)) : MF l E X Q (fx.bind kb) σ pc lv st0 := by
  intro r hr H locs ls hP hS hl
  obtain ⟨v, hq, hr2⟩ := Option.bind_eq_some_iff.mp hr
  refine va_calli (run_V C (hR v hq) hm hln ho hcl hk d hn hst hcat hP hS hl) hS (fun q _ h => h) (fun q h => h) (fun r2 u t H1 locs1 ht hvm hp hB hz hk1 hS1 => ?_)
  obtain ⟨rfl, rfl⟩ := hp
  obtain ⟨d1, rfl⟩ := d
  exact k r2 r hr2 H1 locs1 ls (ht ▸ hB.1) hS1 hl
theorem MF.callTP {fx : Option Int32} {kb : Int32 → Option ρ} (C : CxOK l E X cc nL own ret kk) (hR : ∀ v, fx = some v → RI l E kc M (.ref (esK E o) :: As) σ v σ) (hm : MV M n) (hln : Cond.methodLink own idx M.1 ∈ Gw) (ho : o < 4) (hcl : M.1.cls = "java/lang/String") (hk : kc + 1 ≤ kk) (d : Dc cc pc (.invokevirtual idx) 3 pc') (hn : As.length = n) (hst : st0 = As.reverse ++ .ref (esK E o) :: st) (hcat : (st.map fun v => v.category).sum ≤ 8) (k : ∀ v, MF l E X Q (kb v) σ pc' lv (.int v :: st)) : MF l E X Q (fx.bind kb) σ pc lv st0 := by
  intro r hr H locs ls hP hS hl
  obtain ⟨v, hq, hr2⟩ := Option.bind_eq_some_iff.mp hr
  refine va_calli (run_T C (hR v hq) hm hln ho hcl hk d hn hst hcat hP hS hl) hS (fun q _ h => h) (fun q h => h) (fun r2 u t H1 locs1 ht hvm hp hB hz hk1 hS1 => ?_)
  obtain ⟨rfl, rfl⟩ := hp
  obtain ⟨d1, rfl⟩ := d
  exact k r2 r hr2 H1 locs1 ls (ht ▸ hB.1) hS1 hl
theorem MF.callTI {fx : Option (Int32 × Sg)} {kb : Int32 → Sg → Option ρ} (C : CxOK l E X cc nL own ret kk) (hR : ∀ v τ, fx = some (v, τ) → RI l E kc M (.ref (esK E o) :: As) σ v τ) (hm : MV M n) (hln : Cond.methodLink own idx M.1 ∈ Gw) (ho : o < 4) (hcl : M.1.cls = "java/lang/String") (hk : kc + 1 ≤ kk) (d : Dc cc pc (.invokevirtual idx) 3 pc') (hn : As.length = n) (hst : st0 = As.reverse ++ .ref (esK E o) :: st) (hcat : (st.map fun v => v.category).sum ≤ 8) (k : ∀ v τ, MF l E X Q (kb v τ) τ pc' lv (.int v :: st)) : MF l E X Q (ob2 fx kb) σ pc lv st0 := by
  intro r hr H locs ls hP hS hl
  obtain ⟨⟨v, τ⟩, hq, hr2⟩ := Option.bind_eq_some_iff.mp hr
  refine va_calli (run_T C (hR v τ hq) hm hln ho hcl hk d hn hst hcat hP hS hl) hS (fun q _ h => h) (fun q h => h) (fun r2 u t H1 locs1 ht hvm hp hB hz hk1 hS1 => ?_)
  obtain ⟨rfl, rfl⟩ := hp
  obtain ⟨d1, rfl⟩ := d
  exact k r2 u r hr2 H1 locs1 ls (ht ▸ hB.1) hS1 hl
theorem MF.callVL {fx : Option Int64} {kb : Int64 → Option ρ} (C : CxOK l E X cc nL own ret kk) (hR : ∀ v, fx = some v → RLg l E kc M (.ref (ead E o) :: As) σ v σ) (hm : MV M n) (hln : Cond.methodLink own idx M.1 ∈ Gw) (ho : iO ci o) (hcl : (vwCl[ci]?).map (fun q => q.1) = some M.1.cls) (hk : kc + 1 ≤ kk) (d : Dc cc pc (.invokevirtual idx) 3 pc') (hn : As.length = n) (hst : st0 = As.reverse ++ .ref (ead E o) :: st) (hcat : (st.map fun v => v.category).sum ≤ 8) (k : ∀ v, MF l E X Q (kb v) σ pc' lv (.long v :: st)) : MF l E X Q (fx.bind kb) σ pc lv st0 := by
  intro r hr H locs ls hP hS hl
  obtain ⟨v, hq, hr2⟩ := Option.bind_eq_some_iff.mp hr
  refine va_calll (run_V C (hR v hq) hm hln ho hcl hk d hn hst hcat hP hS hl) hS (fun q _ h => h) (fun q h => h) (fun r2 u t H1 locs1 ht hvm hp hB hz hk1 hS1 => ?_)
  obtain ⟨rfl, rfl⟩ := hp
  obtain ⟨d1, rfl⟩ := d
  exact k r2 r hr2 H1 locs1 ls (ht ▸ hB.1) hS1 hl
theorem MF.callVU {fx : Option Sg} {kb : Sg → Option ρ} (C : CxOK l E X cc nL own ret kk) (hR : ∀ τ, fx = some τ → RV l E kc M (.ref (ead E o) :: As) σ τ) (hm : MV M n) (hln : Cond.methodLink own idx M.1 ∈ Gw) (ho : iO ci o) (hcl : (vwCl[ci]?).map (fun q => q.1) = some M.1.cls) (hk : kc + 1 ≤ kk) (d : Dc cc pc (.invokevirtual idx) 3 pc') (hn : As.length = n) (hst : st0 = As.reverse ++ .ref (ead E o) :: st) (hcat : (st.map fun v => v.category).sum ≤ 8) (k : ∀ τ, MF l E X Q (kb τ) τ pc' lv st) : MF l E X Q (fx.bind kb) σ pc lv st0 := by
  intro r hr H locs ls hP hS hl
  obtain ⟨τ, hq, hr2⟩ := Option.bind_eq_some_iff.mp hr
  refine va_callv (run_V C (hR τ hq) hm hln ho hcl hk d hn hst hcat hP hS hl) hS (fun q _ h => h) (fun q h => h) (fun u t H1 locs1 ht hvm hp hB hz hk1 hS1 => ?_)
  obtain rfl := hp
  obtain ⟨d1, rfl⟩ := d
  exact k u r hr2 H1 locs1 ls (ht ▸ hB.1) hS1 hl
theorem MF.callVR {fx : Option Nat} {kb : Nat → Option ρ} (C : CxOK l E X cc nL own ret kk) (hR : ∀ c, fx = some c → RR l E kc M (.ref (ead E o) :: As) σ c σ) (hm : MV M n) (hln : Cond.methodLink own idx M.1 ∈ Gw) (ho : iO ci o) (hcl : (vwCl[ci]?).map (fun q => q.1) = some M.1.cls) (hk : kc + 1 ≤ kk) (d : Dc cc pc (.invokevirtual idx) 3 pc') (hn : As.length = n) (hst : st0 = As.reverse ++ .ref (ead E o) :: st) (hcat : (st.map fun v => v.category).sum ≤ 8) (k : ∀ c, fx = some c → MF l E X Q (kb c) σ pc' lv (.ref (ead E c) :: st)) : MF l E X Q (fx.bind kb) σ pc lv st0 := by
  intro r hr H locs ls hP hS hl
  obtain ⟨c, hq, hr2⟩ := Option.bind_eq_some_iff.mp hr
  refine va_callr (run_V C (hR c hq) hm hln ho hcl hk d hn hst hcat hP hS hl) hS (fun q _ h => h) (fun q h => h) (fun u ra t H1 locs1 ht hvm hp hB hz hk1 hS1 => ?_)
  obtain rfl := hp
  obtain ⟨rfl, hB⟩ := hB
  obtain ⟨d1, rfl⟩ := d
  exact k c hq r hr2 H1 locs1 ls (ht ▸ hB.1) hS1 hl
theorem MF.callSI {fx : Option (Int32 × Sg)} {kb : Int32 → Sg → Option ρ} (C : CxOK l E X cc nL own ret kk) (hR : ∀ v τ, fx = some (v, τ) → RI l E kc M As σ v τ) (hm : MS M n) (hln : Cond.methodLink own idx M.1 ∈ Gw) (hk : kc + 1 ≤ kk) (d : Dc cc pc (.invokestatic idx) 3 pc') (hn : As.length = n) (hst : st0 = As.reverse ++ st) (hcat : (st.map fun v => v.category).sum ≤ 8) (k : ∀ v τ, MF l E X Q (kb v τ) τ pc' lv (.int v :: st)) : MF l E X Q (ob2 fx kb) σ pc lv st0 := by
  intro r hr H locs ls hP hS hl
  obtain ⟨⟨v, τ⟩, hq, hr2⟩ := Option.bind_eq_some_iff.mp hr
  refine va_calli (run_S C (hR v τ hq) hm hln hk d hn hst hcat hP hS hl) hS (fun q _ h => h) (fun q h => h) (fun r2 u t H1 locs1 ht hvm hp hB hz hk1 hS1 => ?_)
  obtain ⟨rfl, rfl⟩ := hp
  obtain ⟨d1, rfl⟩ := d
  exact k r2 u r hr2 H1 locs1 ls (ht ▸ hB.1) hS1 hl
theorem MF.callSP {fx : Option Int32} {kb : Int32 → Option ρ} (C : CxOK l E X cc nL own ret kk) (hR : ∀ v, fx = some v → RI l E kc M As σ v σ) (hm : MS M n) (hln : Cond.methodLink own idx M.1 ∈ Gw) (hk : kc + 1 ≤ kk) (d : Dc cc pc (.invokestatic idx) 3 pc') (hn : As.length = n) (hst : st0 = As.reverse ++ st) (hcat : (st.map fun v => v.category).sum ≤ 8) (k : ∀ v, MF l E X Q (kb v) σ pc' lv (.int v :: st)) : MF l E X Q (fx.bind kb) σ pc lv st0 := by
  intro r hr H locs ls hP hS hl
  obtain ⟨v, hq, hr2⟩ := Option.bind_eq_some_iff.mp hr
  refine va_calli (run_S C (hR v hq) hm hln hk d hn hst hcat hP hS hl) hS (fun q _ h => h) (fun q h => h) (fun r2 u t H1 locs1 ht hvm hp hB hz hk1 hS1 => ?_)
  obtain ⟨rfl, rfl⟩ := hp
  obtain ⟨d1, rfl⟩ := d
  exact k r2 r hr2 H1 locs1 ls (ht ▸ hB.1) hS1 hl
theorem MF.callSL {fx : Option Int64} {kb : Int64 → Option ρ} (C : CxOK l E X cc nL own ret kk) (hR : ∀ v, fx = some v → RLg l E kc M As σ v σ) (hm : MS M n) (hln : Cond.methodLink own idx M.1 ∈ Gw) (hk : kc + 1 ≤ kk) (d : Dc cc pc (.invokestatic idx) 3 pc') (hn : As.length = n) (hst : st0 = As.reverse ++ st) (hcat : (st.map fun v => v.category).sum ≤ 8) (k : ∀ v, MF l E X Q (kb v) σ pc' lv (.long v :: st)) : MF l E X Q (fx.bind kb) σ pc lv st0 := by
  intro r hr H locs ls hP hS hl
  obtain ⟨v, hq, hr2⟩ := Option.bind_eq_some_iff.mp hr
  refine va_calll (run_S C (hR v hq) hm hln hk d hn hst hcat hP hS hl) hS (fun q _ h => h) (fun q h => h) (fun r2 u t H1 locs1 ht hvm hp hB hz hk1 hS1 => ?_)
  obtain ⟨rfl, rfl⟩ := hp
  obtain ⟨d1, rfl⟩ := d
  exact k r2 r hr2 H1 locs1 ls (ht ▸ hB.1) hS1 hl
theorem MF.callSU {fx : Option Sg} {kb : Sg → Option ρ} (C : CxOK l E X cc nL own ret kk) (hR : ∀ τ, fx = some τ → RV l E kc M As σ τ) (hm : MS M n) (hln : Cond.methodLink own idx M.1 ∈ Gw) (hk : kc + 1 ≤ kk) (d : Dc cc pc (.invokestatic idx) 3 pc') (hn : As.length = n) (hst : st0 = As.reverse ++ st) (hcat : (st.map fun v => v.category).sum ≤ 8) (k : ∀ τ, MF l E X Q (kb τ) τ pc' lv st) : MF l E X Q (fx.bind kb) σ pc lv st0 := by
  intro r hr H locs ls hP hS hl
  obtain ⟨τ, hq, hr2⟩ := Option.bind_eq_some_iff.mp hr
  refine va_callv (run_S C (hR τ hq) hm hln hk d hn hst hcat hP hS hl) hS (fun q _ h => h) (fun q h => h) (fun u t H1 locs1 ht hvm hp hB hz hk1 hS1 => ?_)
  obtain rfl := hp
  obtain ⟨d1, rfl⟩ := d
  exact k u r hr2 H1 locs1 ls (ht ▸ hB.1) hS1 hl
theorem MF.callSNI {fx : Option (Int32 × Sg)} {kb : Int32 → Sg → Option ρ} (C : CxOK l E X cc nL own ret kk) (hR : ∀ v τ, fx = some (v, τ) → RI l E kc M As σ v τ) (hm : MS M n) (hln : Cond.methodLinkNest own idx M.1 "LastHappened" ∈ nestW) (hk : kc + 1 ≤ kk) (d : Dc cc pc (.invokestatic idx) 3 pc') (hn : As.length = n) (hst : st0 = As.reverse ++ st) (hcat : (st.map fun v => v.category).sum ≤ 8) (k : ∀ v τ, MF l E X Q (kb v τ) τ pc' lv (.int v :: st)) : MF l E X Q (ob2 fx kb) σ pc lv st0 := by
  intro r hr H locs ls hP hS hl
  obtain ⟨⟨v, τ⟩, hq, hr2⟩ := Option.bind_eq_some_iff.mp hr
  refine va_calli (run_SN C (hR v τ hq) hm hln hk d hn hst hcat hP hS hl) hS (fun q _ h => h) (fun q h => h) (fun r2 u t H1 locs1 ht hvm hp hB hz hk1 hS1 => ?_)
  obtain ⟨rfl, rfl⟩ := hp
  obtain ⟨d1, rfl⟩ := d
  exact k r2 u r hr2 H1 locs1 ls (ht ▸ hB.1) hS1 hl
theorem MF.callSNP {fx : Option Int32} {kb : Int32 → Option ρ} (C : CxOK l E X cc nL own ret kk) (hR : ∀ v, fx = some v → RI l E kc M As σ v σ) (hm : MS M n) (hln : Cond.methodLinkNest own idx M.1 "LastHappened" ∈ nestW) (hk : kc + 1 ≤ kk) (d : Dc cc pc (.invokestatic idx) 3 pc') (hn : As.length = n) (hst : st0 = As.reverse ++ st) (hcat : (st.map fun v => v.category).sum ≤ 8) (k : ∀ v, MF l E X Q (kb v) σ pc' lv (.int v :: st)) : MF l E X Q (fx.bind kb) σ pc lv st0 := by
  intro r hr H locs ls hP hS hl
  obtain ⟨v, hq, hr2⟩ := Option.bind_eq_some_iff.mp hr
  refine va_calli (run_SN C (hR v hq) hm hln hk d hn hst hcat hP hS hl) hS (fun q _ h => h) (fun q h => h) (fun r2 u t H1 locs1 ht hvm hp hB hz hk1 hS1 => ?_)
  obtain ⟨rfl, rfl⟩ := hp
  obtain ⟨d1, rfl⟩ := d
  exact k r2 r hr2 H1 locs1 ls (ht ▸ hB.1) hS1 hl
theorem MF.callSNL {fx : Option Int64} {kb : Int64 → Option ρ} (C : CxOK l E X cc nL own ret kk) (hR : ∀ v, fx = some v → RLg l E kc M As σ v σ) (hm : MS M n) (hln : Cond.methodLinkNest own idx M.1 "LastHappened" ∈ nestW) (hk : kc + 1 ≤ kk) (d : Dc cc pc (.invokestatic idx) 3 pc') (hn : As.length = n) (hst : st0 = As.reverse ++ st) (hcat : (st.map fun v => v.category).sum ≤ 8) (k : ∀ v, MF l E X Q (kb v) σ pc' lv (.long v :: st)) : MF l E X Q (fx.bind kb) σ pc lv st0 := by
  intro r hr H locs ls hP hS hl
  obtain ⟨v, hq, hr2⟩ := Option.bind_eq_some_iff.mp hr
  refine va_calll (run_SN C (hR v hq) hm hln hk d hn hst hcat hP hS hl) hS (fun q _ h => h) (fun q h => h) (fun r2 u t H1 locs1 ht hvm hp hB hz hk1 hS1 => ?_)
  obtain ⟨rfl, rfl⟩ := hp
  obtain ⟨d1, rfl⟩ := d
  exact k r2 r hr2 H1 locs1 ls (ht ▸ hB.1) hS1 hl
theorem MF.callSNU {fx : Option Sg} {kb : Sg → Option ρ} (C : CxOK l E X cc nL own ret kk) (hR : ∀ τ, fx = some τ → RV l E kc M As σ τ) (hm : MS M n) (hln : Cond.methodLinkNest own idx M.1 "LastHappened" ∈ nestW) (hk : kc + 1 ≤ kk) (d : Dc cc pc (.invokestatic idx) 3 pc') (hn : As.length = n) (hst : st0 = As.reverse ++ st) (hcat : (st.map fun v => v.category).sum ≤ 8) (k : ∀ τ, MF l E X Q (kb τ) τ pc' lv st) : MF l E X Q (fx.bind kb) σ pc lv st0 := by
  intro r hr H locs ls hP hS hl
  obtain ⟨τ, hq, hr2⟩ := Option.bind_eq_some_iff.mp hr
  refine va_callv (run_SN C (hR τ hq) hm hln hk d hn hst hcat hP hS hl) hS (fun q _ h => h) (fun q h => h) (fun u t H1 locs1 ht hvm hp hB hz hk1 hS1 => ?_)
  obtain rfl := hp
  obtain ⟨d1, rfl⟩ := d
  exact k u r hr2 H1 locs1 ls (ht ▸ hB.1) hS1 hl
end MFC
end MFR
/-! a contract out of a walk from a method's entry -/
section MFS
variable {l : Launch} {E : EX} {k : Nat} {M : MT} {av : List Value} {σ : Sg}
theorem cx_of {p : Program} {e : Env} {s : State} {m : MethodId} {args : Array Value} {below : List Frame} {meth : Method} {c : Code} {s1 : State} (hD : DD E) (B : BodyLoose p l M.1 (headSpec (wsM M) (rmK k)) M.2.1 M.2.2.1 M.2.2.2 e s m args below meth c s1) (hml : c.maxLocals = M.2.2.1) (hv : IV E σ s) : CxOK l E (p, e, (headSpec (wsM M) (rmK k)).room, s, m, args, below, meth, c, 0, 0) M.2.1 M.2.2.1 M.1.cls M.2.2.2 k := by
  have hts := atoms_spec (ws := wsM M) B.pre
  exact ⟨⟨B.exec, B.bytes, hml, findClass_of_methodNamed B.named, fun w hw => hts w (List.mem_cons_of_mem _ hw)⟩, hv.2.1, hv.2.2, hD, ⟨Nat.zero_le _, Nat.zero_le _⟩, ⟨Nat.le_refl _, Nat.le_refl _⟩, B.returns, B.notSynchronized⟩
theorem ofI {fx : Option (Int32 × Sg)} (hD : DD E) (hy : plainName M.1.cls = true) (hav : (lg_sl av).length ≤ M.2.2.1) (body : ∀ X : CX, CxOK l E X M.2.1 M.2.2.1 M.1.cls M.2.2.2 k → MF l E X (fun q : Int32 × Sg => QI E X q.1 q.2) fx σ 0 (lv_args 0 av) []) : ∀ v τ, fx = some (v, τ) → RI l E k M av σ v τ := by
  intro v τ hq
  refine Met.ofW (cc := M.2.1) (maxL := M.2.2.1) (ret := M.2.2.2) hy rfl ?_
  intro p e s m args below meth c s1 B hml hv
  obtain ⟨rfl, hv⟩ := hv
  have C := cx_of hD B hml hv
  have hl := lv_entry av (n := M.2.2.1) hav
  rw [lg_entry_eq]
  exact body _ C _ hq s.heap [] _ hv.1 va_S.rf (by rw [show (xc (p, e, (headSpec (wsM M) (rmK k)).room, s, m, av.toArray, below, meth, c, 0, 0)).maxLocals = M.2.2.1 from hml]; exact hl)
theorem ofP {fx : Option Int32} (hD : DD E) (hy : plainName M.1.cls = true) (hav : (lg_sl av).length ≤ M.2.2.1) (body : ∀ X : CX, CxOK l E X M.2.1 M.2.2.1 M.1.cls M.2.2.2 k → MF l E X (fun q : Int32 => QI E X q σ) fx σ 0 (lv_args 0 av) []) : ∀ v, fx = some v → RI l E k M av σ v σ := by
  intro v hq
  refine Met.ofW (cc := M.2.1) (maxL := M.2.2.1) (ret := M.2.2.2) hy rfl ?_
  intro p e s m args below meth c s1 B hml hv
  obtain ⟨rfl, hv⟩ := hv
  have C := cx_of hD B hml hv
  have hl := lv_entry av (n := M.2.2.1) hav
  rw [lg_entry_eq]
  exact body _ C _ hq s.heap [] _ hv.1 va_S.rf (by rw [show (xc (p, e, (headSpec (wsM M) (rmK k)).room, s, m, av.toArray, below, meth, c, 0, 0)).maxLocals = M.2.2.1 from hml]; exact hl)
theorem ofL {fx : Option Int64} (hD : DD E) (hy : plainName M.1.cls = true) (hav : (lg_sl av).length ≤ M.2.2.1) (body : ∀ X : CX, CxOK l E X M.2.1 M.2.2.1 M.1.cls M.2.2.2 k → MF l E X (fun q : Int64 => QL E X q σ) fx σ 0 (lv_args 0 av) []) : ∀ v, fx = some v → RLg l E k M av σ v σ := by
  intro v hq
  refine Met.ofW (cc := M.2.1) (maxL := M.2.2.1) (ret := M.2.2.2) hy rfl ?_
  intro p e s m args below meth c s1 B hml hv
  obtain ⟨rfl, hv⟩ := hv
  have C := cx_of hD B hml hv
  have hl := lv_entry av (n := M.2.2.1) hav
  rw [lg_entry_eq]
  exact body _ C _ hq s.heap [] _ hv.1 va_S.rf (by rw [show (xc (p, e, (headSpec (wsM M) (rmK k)).room, s, m, av.toArray, below, meth, c, 0, 0)).maxLocals = M.2.2.1 from hml]; exact hl)
theorem ofU {fx : Option Sg} (hD : DD E) (hy : plainName M.1.cls = true) (hav : (lg_sl av).length ≤ M.2.2.1) (body : ∀ X : CX, CxOK l E X M.2.1 M.2.2.1 M.1.cls M.2.2.2 k → MF l E X (fun q : Sg => QV E X q) fx σ 0 (lv_args 0 av) []) : ∀ τ, fx = some τ → RV l E k M av σ τ := by
  intro τ hq
  refine Met.ofW (cc := M.2.1) (maxL := M.2.2.1) (ret := M.2.2.2) hy rfl ?_
  intro p e s m args below meth c s1 B hml hv
  obtain ⟨rfl, hv⟩ := hv
  have C := cx_of hD B hml hv
  have hl := lv_entry av (n := M.2.2.1) hav
  rw [lg_entry_eq]
  exact body _ C _ hq s.heap [] _ hv.1 va_S.rf (by rw [show (xc (p, e, (headSpec (wsM M) (rmK k)).room, s, m, av.toArray, below, meth, c, 0, 0)).maxLocals = M.2.2.1 from hml]; exact hl)
theorem ofR {fx : Option Nat} (hD : DD E) (hy : plainName M.1.cls = true) (hav : (lg_sl av).length ≤ M.2.2.1) (body : ∀ X : CX, CxOK l E X M.2.1 M.2.2.1 M.1.cls M.2.2.2 k → MF l E X (fun q : Nat => QR E X q σ) fx σ 0 (lv_args 0 av) []) : ∀ c, fx = some c → RR l E k M av σ c σ := by
  intro c hq
  refine Met.ofW (cc := M.2.1) (maxL := M.2.2.1) (ret := M.2.2.2) hy rfl ?_
  intro p e s m args below meth c s1 B hml hv
  obtain ⟨rfl, hv⟩ := hv
  have C := cx_of hD B hml hv
  have hl := lv_entry av (n := M.2.2.1) hav
  rw [lg_entry_eq]
  exact body _ C _ hq s.heap [] _ hv.1 va_S.rf (by rw [show (xc (p, e, (headSpec (wsM M) (rmK k)).room, s, m, av.toArray, below, meth, c, 0, 0)).maxLocals = M.2.2.1 from hml]; exact hl)
end MFS

